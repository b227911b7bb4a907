/-! The law. -/
theorem zw_123 : Cond.classLink RL 7 RX11 ∈ zT := zTm (zt_1 (List.mem_of_getElem? (i := 23) (by decide +kernel))) rfl
theorem zw_124 : Cond.instantiable RX11 20 ∈ zT := zTm (zt_1 (List.mem_of_getElem? (i := 24) (by decide +kernel))) rfl
theorem zw_125 : Cond.methodLink RL 9 yX11_init ∈ zT := zTm (zt_1 (List.mem_of_getElem? (i := 25) (by decide +kernel))) rfl
theorem zw_126 : Cond.instanceMethod yX11_init ∈ zT := zTm (zt_1 (List.mem_of_getElem? (i := 26) (by decide +kernel))) rfl
theorem zw_449 : Cond.methodLink RL 13 yX11_row ∈ zT := zTm (zt_2 (List.mem_of_getElem? (i := 109) (by decide +kernel))) rfl
theorem zw_450 : Cond.instanceMethod yX11_row ∈ zT := zTm (zt_2 (List.mem_of_getElem? (i := 110) (by decide +kernel))) rfl
theorem zw_451 : Cond.selects RX11 yX11_row yX11_row ∈ zT := zTm (zt_2 (List.mem_of_getElem? (i := 111) (by decide +kernel))) rfl
theorem zw_514 : Cond.methodLink RL 18 yX11_barrel ∈ zT := zTm (zt_2 (List.mem_of_getElem? (i := 174) (by decide +kernel))) rfl
theorem zw_515 : Cond.instanceMethod yX11_barrel ∈ zT := zTm (zt_2 (List.mem_of_getElem? (i := 175) (by decide +kernel))) rfl
theorem zw_516 : Cond.selects RX11 yX11_barrel yX11_barrel ∈ zT := zTm (zt_2 (List.mem_of_getElem? (i := 176) (by decide +kernel))) rfl
theorem zw_654 : Cond.methodLink RL 22 yX11_join ∈ zT := zTm (zt_3 (List.mem_of_getElem? (i := 74) (by decide +kernel))) rfl
theorem zw_655 : Cond.instanceMethod yX11_join ∈ zT := zTm (zt_3 (List.mem_of_getElem? (i := 75) (by decide +kernel))) rfl
theorem zw_656 : Cond.selects RX11 yX11_join yX11_join ∈ zT := zTm (zt_3 (List.mem_of_getElem? (i := 76) (by decide +kernel))) rfl
theorem zw_714 : Cond.methodLink RL 27 yX11_leave ∈ zT := zTm (zt_3 (List.mem_of_getElem? (i := 134) (by decide +kernel))) rfl
theorem zw_715 : Cond.instanceMethod yX11_leave ∈ zT := zTm (zt_3 (List.mem_of_getElem? (i := 135) (by decide +kernel))) rfl
theorem zw_716 : Cond.selects RX11 yX11_leave yX11_leave ∈ zT := zTm (zt_3 (List.mem_of_getElem? (i := 136) (by decide +kernel))) rfl
theorem zw_722 : Cond.methodLink RL 32 yX11_lay ∈ zT := zTm (zt_3 (List.mem_of_getElem? (i := 142) (by decide +kernel))) rfl
theorem zw_723 : Cond.instanceMethod yX11_lay ∈ zT := zTm (zt_3 (List.mem_of_getElem? (i := 143) (by decide +kernel))) rfl
theorem zw_724 : Cond.selects RX11 yX11_lay yX11_lay ∈ zT := zTm (zt_3 (List.mem_of_getElem? (i := 144) (by decide +kernel))) rfl
theorem zw_743 : Cond.methodLink RL 36 yX11_lift ∈ zT := zTm (zt_3 (List.mem_of_getElem? (i := 163) (by decide +kernel))) rfl
theorem zw_744 : Cond.instanceMethod yX11_lift ∈ zT := zTm (zt_3 (List.mem_of_getElem? (i := 164) (by decide +kernel))) rfl
theorem zw_745 : Cond.selects RX11 yX11_lift yX11_lift ∈ zT := zTm (zt_3 (List.mem_of_getElem? (i := 165) (by decide +kernel))) rfl
theorem zw_756 : Cond.methodLink RL 40 yX11_worth ∈ zT := zTm (zt_3 (List.mem_of_getElem? (i := 176) (by decide +kernel))) rfl
theorem zw_757 : Cond.instanceMethod yX11_worth ∈ zT := zTm (zt_3 (List.mem_of_getElem? (i := 177) (by decide +kernel))) rfl
theorem zw_758 : Cond.selects RX11 yX11_worth yX11_worth ∈ zT := zTm (zt_3 (List.mem_of_getElem? (i := 178) (by decide +kernel))) rfl
theorem zw_764 : Cond.methodLink RL 46 yX11_fill ∈ zT := zTm (zt_3 (List.mem_of_getElem? (i := 184) (by decide +kernel))) rfl
theorem zw_765 : Cond.instanceMethod yX11_fill ∈ zT := zTm (zt_3 (List.mem_of_getElem? (i := 185) (by decide +kernel))) rfl
theorem zw_766 : Cond.selects RX11 yX11_fill yX11_fill ∈ zT := zTm (zt_3 (List.mem_of_getElem? (i := 186) (by decide +kernel))) rfl
theorem zw_849 : Cond.methodLink RL 51 yX11_rack ∈ zT := zTm (zt_4 (List.mem_of_getElem? (i := 29) (by decide +kernel))) rfl
theorem zw_850 : Cond.instanceMethod yX11_rack ∈ zT := zTm (zt_4 (List.mem_of_getElem? (i := 30) (by decide +kernel))) rfl
theorem zw_851 : Cond.selects RX11 yX11_rack yX11_rack ∈ zT := zTm (zt_4 (List.mem_of_getElem? (i := 31) (by decide +kernel))) rfl
theorem zw_929 : Cond.methodLink RL 55 yX11_topUp ∈ zT := zTm (zt_4 (List.mem_of_getElem? (i := 109) (by decide +kernel))) rfl
theorem zw_930 : Cond.instanceMethod yX11_topUp ∈ zT := zTm (zt_4 (List.mem_of_getElem? (i := 110) (by decide +kernel))) rfl
theorem zw_931 : Cond.selects RX11 yX11_topUp yX11_topUp ∈ zT := zTm (zt_4 (List.mem_of_getElem? (i := 111) (by decide +kernel))) rfl
theorem zw_939 : Cond.methodLink RL 59 yX11_pick ∈ zT := zTm (zt_4 (List.mem_of_getElem? (i := 119) (by decide +kernel))) rfl
theorem zw_940 : Cond.instanceMethod yX11_pick ∈ zT := zTm (zt_4 (List.mem_of_getElem? (i := 120) (by decide +kernel))) rfl
theorem zw_941 : Cond.selects RX11 yX11_pick yX11_pick ∈ zT := zTm (zt_4 (List.mem_of_getElem? (i := 121) (by decide +kernel))) rfl
theorem zw_956 : Cond.methodLink RL 64 yX11_forget ∈ zT := zTm (zt_4 (List.mem_of_getElem? (i := 136) (by decide +kernel))) rfl
theorem zw_957 : Cond.instanceMethod yX11_forget ∈ zT := zTm (zt_4 (List.mem_of_getElem? (i := 137) (by decide +kernel))) rfl
theorem zw_958 : Cond.selects RX11 yX11_forget yX11_forget ∈ zT := zTm (zt_4 (List.mem_of_getElem? (i := 138) (by decide +kernel))) rfl
theorem zw_964 : Cond.methodLink RL 69 yX11_blend ∈ zT := zTm (zt_4 (List.mem_of_getElem? (i := 144) (by decide +kernel))) rfl
theorem zw_965 : Cond.instanceMethod yX11_blend ∈ zT := zTm (zt_4 (List.mem_of_getElem? (i := 145) (by decide +kernel))) rfl
theorem zw_966 : Cond.selects RX11 yX11_blend yX11_blend ∈ zT := zTm (zt_4 (List.mem_of_getElem? (i := 146) (by decide +kernel))) rfl
theorem zw_991 : Cond.methodLink RL 73 yX11_breathe ∈ zT := zTm (zt_4 (List.mem_of_getElem? (i := 171) (by decide +kernel))) rfl
theorem zw_992 : Cond.instanceMethod yX11_breathe ∈ zT := zTm (zt_4 (List.mem_of_getElem? (i := 172) (by decide +kernel))) rfl
theorem zw_993 : Cond.selects RX11 yX11_breathe yX11_breathe ∈ zT := zTm (zt_4 (List.mem_of_getElem? (i := 173) (by decide +kernel))) rfl
theorem zw_1015 : Cond.methodLink RL 77 yX11_bottle ∈ zT := zTm (zt_4 (List.mem_of_getElem? (i := 195) (by decide +kernel))) rfl
theorem zw_1016 : Cond.instanceMethod yX11_bottle ∈ zT := zTm (zt_4 (List.mem_of_getElem? (i := 196) (by decide +kernel))) rfl
theorem zw_1017 : Cond.selects RX11 yX11_bottle yX11_bottle ∈ zT := zTm (zt_4 (List.mem_of_getElem? (i := 197) (by decide +kernel))) rfl
theorem zw_1029 : Cond.methodLink RL 81 yX11_drain ∈ zT := zTm (zt_4 (List.mem_of_getElem? (i := 209) (by decide +kernel))) rfl
theorem zw_1030 : Cond.instanceMethod yX11_drain ∈ zT := zTm (zt_4 (List.mem_of_getElem? (i := 210) (by decide +kernel))) rfl
theorem zw_1031 : Cond.selects RX11 yX11_drain yX11_drain ∈ zT := zTm (zt_4 (List.mem_of_getElem? (i := 211) (by decide +kernel))) rfl
theorem zw_1039 : Cond.methodLink RL 86 yX11_wash ∈ zT := zTm (zt_4 (List.mem_of_getElem? (i := 219) (by decide +kernel))) rfl
theorem zw_1040 : Cond.instanceMethod yX11_wash ∈ zT := zTm (zt_4 (List.mem_of_getElem? (i := 220) (by decide +kernel))) rfl
theorem zw_1041 : Cond.selects RX11 yX11_wash yX11_wash ∈ zT := zTm (zt_4 (List.mem_of_getElem? (i := 221) (by decide +kernel))) rfl
theorem zw_1048 : Cond.methodLink RL 90 yX11_partAt ∈ zT := zTm (zt_4 (List.mem_of_getElem? (i := 228) (by decide +kernel))) rfl
theorem zw_1049 : Cond.instanceMethod yX11_partAt ∈ zT := zTm (zt_4 (List.mem_of_getElem? (i := 229) (by decide +kernel))) rfl
theorem zw_1050 : Cond.selects RX11 yX11_partAt yX11_partAt ∈ zT := zTm (zt_4 (List.mem_of_getElem? (i := 230) (by decide +kernel))) rfl
theorem zw_1056 : Cond.methodLink RL 94 yX11_amountAt ∈ zT := zTm (zt_4 (List.mem_of_getElem? (i := 236) (by decide +kernel))) rfl
theorem zw_1057 : Cond.instanceMethod yX11_amountAt ∈ zT := zTm (zt_4 (List.mem_of_getElem? (i := 237) (by decide +kernel))) rfl
theorem zw_1058 : Cond.selects RX11 yX11_amountAt yX11_amountAt ∈ zT := zTm (zt_4 (List.mem_of_getElem? (i := 238) (by decide +kernel))) rfl
theorem zw_1060 : Cond.methodLink RL 98 yX11_room ∈ zT := zTm (zt_5 (List.mem_of_getElem? (i := 0) (by decide +kernel))) rfl
theorem zw_1061 : Cond.instanceMethod yX11_room ∈ zT := zTm (zt_5 (List.mem_of_getElem? (i := 1) (by decide +kernel))) rfl
theorem zw_1062 : Cond.selects RX11 yX11_room yX11_room ∈ zT := zTm (zt_5 (List.mem_of_getElem? (i := 2) (by decide +kernel))) rfl
theorem zw_1072 : Cond.methodLink RL 102 yX11_label ∈ zT := zTm (zt_5 (List.mem_of_getElem? (i := 12) (by decide +kernel))) rfl
theorem zw_1073 : Cond.instanceMethod yX11_label ∈ zT := zTm (zt_5 (List.mem_of_getElem? (i := 13) (by decide +kernel))) rfl
theorem zw_1074 : Cond.selects RX11 yX11_label yX11_label ∈ zT := zTm (zt_5 (List.mem_of_getElem? (i := 14) (by decide +kernel))) rfl
theorem zw_1113 : Cond.methodLink RL 106 yX11_rule ∈ zT := zTm (zt_5 (List.mem_of_getElem? (i := 53) (by decide +kernel))) rfl
theorem zw_1114 : Cond.instanceMethod yX11_rule ∈ zT := zTm (zt_5 (List.mem_of_getElem? (i := 54) (by decide +kernel))) rfl
theorem zw_1115 : Cond.selects RX11 yX11_rule yX11_rule ∈ zT := zTm (zt_5 (List.mem_of_getElem? (i := 55) (by decide +kernel))) rfl
theorem zw_1136 : Cond.methodLink RL 111 yX11_judge ∈ zT := zTm (zt_5 (List.mem_of_getElem? (i := 76) (by decide +kernel))) rfl
theorem zw_1137 : Cond.instanceMethod yX11_judge ∈ zT := zTm (zt_5 (List.mem_of_getElem? (i := 77) (by decide +kernel))) rfl
theorem zw_1138 : Cond.selects RX11 yX11_judge yX11_judge ∈ zT := zTm (zt_5 (List.mem_of_getElem? (i := 78) (by decide +kernel))) rfl
theorem zw_1187 : Cond.methodLink RL 115 yX11_plan ∈ zT := zTm (zt_5 (List.mem_of_getElem? (i := 127) (by decide +kernel))) rfl
theorem zw_1188 : Cond.instanceMethod yX11_plan ∈ zT := zTm (zt_5 (List.mem_of_getElem? (i := 128) (by decide +kernel))) rfl
theorem zw_1189 : Cond.selects RX11 yX11_plan yX11_plan ∈ zT := zTm (zt_5 (List.mem_of_getElem? (i := 129) (by decide +kernel))) rfl
theorem zw_1248 : Cond.methodLink RL 119 yX11_undo ∈ zT := zTm (zt_5 (List.mem_of_getElem? (i := 188) (by decide +kernel))) rfl
theorem zw_1249 : Cond.instanceMethod yX11_undo ∈ zT := zTm (zt_5 (List.mem_of_getElem? (i := 189) (by decide +kernel))) rfl
theorem zw_1250 : Cond.selects RX11 yX11_undo yX11_undo ∈ zT := zTm (zt_5 (List.mem_of_getElem? (i := 190) (by decide +kernel))) rfl
theorem zw_1286 : Cond.methodLink RL 123 yX11_kindOf ∈ zT := zTm (zt_5 (List.mem_of_getElem? (i := 226) (by decide +kernel))) rfl
theorem zw_1287 : Cond.instanceMethod yX11_kindOf ∈ zT := zTm (zt_5 (List.mem_of_getElem? (i := 227) (by decide +kernel))) rfl
theorem zw_1288 : Cond.selects RX11 yX11_kindOf yX11_kindOf ∈ zT := zTm (zt_5 (List.mem_of_getElem? (i := 228) (by decide +kernel))) rfl
theorem zw_1290 : Cond.methodLink RL 128 yX11_where ∈ zT := zTm (zt_5 (List.mem_of_getElem? (i := 230) (by decide +kernel))) rfl
theorem zw_1291 : Cond.instanceMethod yX11_where ∈ zT := zTm (zt_5 (List.mem_of_getElem? (i := 231) (by decide +kernel))) rfl
theorem zw_1292 : Cond.selects RX11 yX11_where yX11_where ∈ zT := zTm (zt_5 (List.mem_of_getElem? (i := 232) (by decide +kernel))) rfl
theorem zw_1294 : Cond.methodLink RL 132 yX11_at ∈ zT := zTm (zt_5 (List.mem_of_getElem? (i := 234) (by decide +kernel))) rfl
theorem zw_1295 : Cond.instanceMethod yX11_at ∈ zT := zTm (zt_5 (List.mem_of_getElem? (i := 235) (by decide +kernel))) rfl
theorem zw_1296 : Cond.selects RX11 yX11_at yX11_at ∈ zT := zTm (zt_5 (List.mem_of_getElem? (i := 236) (by decide +kernel))) rfl
theorem zw_1298 : Cond.methodLink RL 137 yX11_amount ∈ zT := zTm (zt_5 (List.mem_of_getElem? (i := 238) (by decide +kernel))) rfl
theorem zw_1299 : Cond.instanceMethod yX11_amount ∈ zT := zTm (zt_5 (List.mem_of_getElem? (i := 239) (by decide +kernel))) rfl
theorem zw_1300 : Cond.selects RX11 yX11_amount yX11_amount ∈ zT := zTm (zt_6 (List.mem_of_getElem? (i := 0) (by decide +kernel))) rfl
theorem zw_1302 : Cond.methodLink RL 141 yX11_part ∈ zT := zTm (zt_6 (List.mem_of_getElem? (i := 2) (by decide +kernel))) rfl
theorem zw_1303 : Cond.instanceMethod yX11_part ∈ zT := zTm (zt_6 (List.mem_of_getElem? (i := 3) (by decide +kernel))) rfl
theorem zw_1304 : Cond.selects RX11 yX11_part yX11_part ∈ zT := zTm (zt_6 (List.mem_of_getElem? (i := 4) (by decide +kernel))) rfl
theorem zw_1311 : Cond.methodLink RL 145 yX11_parts ∈ zT := zTm (zt_6 (List.mem_of_getElem? (i := 11) (by decide +kernel))) rfl
theorem zw_1312 : Cond.instanceMethod yX11_parts ∈ zT := zTm (zt_6 (List.mem_of_getElem? (i := 12) (by decide +kernel))) rfl
theorem zw_1313 : Cond.selects RX11 yX11_parts yX11_parts ∈ zT := zTm (zt_6 (List.mem_of_getElem? (i := 13) (by decide +kernel))) rfl
theorem zw_1319 : Cond.methodLink RL 149 yX11_account ∈ zT := zTm (zt_6 (List.mem_of_getElem? (i := 19) (by decide +kernel))) rfl
theorem zw_1320 : Cond.instanceMethod yX11_account ∈ zT := zTm (zt_6 (List.mem_of_getElem? (i := 20) (by decide +kernel))) rfl
theorem zw_1321 : Cond.selects RX11 yX11_account yX11_account ∈ zT := zTm (zt_6 (List.mem_of_getElem? (i := 21) (by decide +kernel))) rfl
theorem zw_1323 : Cond.methodLink RL 153 yX11_odd ∈ zT := zTm (zt_6 (List.mem_of_getElem? (i := 23) (by decide +kernel))) rfl
theorem zw_1324 : Cond.instanceMethod yX11_odd ∈ zT := zTm (zt_6 (List.mem_of_getElem? (i := 24) (by decide +kernel))) rfl
theorem zw_1325 : Cond.selects RX11 yX11_odd yX11_odd ∈ zT := zTm (zt_6 (List.mem_of_getElem? (i := 25) (by decide +kernel))) rfl
theorem zw_1336 : Cond.methodLink RL 158 yX11_strays ∈ zT := zTm (zt_6 (List.mem_of_getElem? (i := 36) (by decide +kernel))) rfl
theorem zw_1337 : Cond.instanceMethod yX11_strays ∈ zT := zTm (zt_6 (List.mem_of_getElem? (i := 37) (by decide +kernel))) rfl
theorem zw_1338 : Cond.selects RX11 yX11_strays yX11_strays ∈ zT := zTm (zt_6 (List.mem_of_getElem? (i := 38) (by decide +kernel))) rfl
theorem zw_1361 : Cond.methodLink RL 162 yX11_month ∈ zT := zTm (zt_6 (List.mem_of_getElem? (i := 61) (by decide +kernel))) rfl
theorem zw_1362 : Cond.instanceMethod yX11_month ∈ zT := zTm (zt_6 (List.mem_of_getElem? (i := 62) (by decide +kernel))) rfl
theorem zw_1363 : Cond.selects RX11 yX11_month yX11_month ∈ zT := zTm (zt_6 (List.mem_of_getElem? (i := 63) (by decide +kernel))) rfl
theorem zw_1365 : Cond.methodLink RL 166 yX11_bottlings ∈ zT := zTm (zt_6 (List.mem_of_getElem? (i := 65) (by decide +kernel))) rfl
theorem zw_1366 : Cond.instanceMethod yX11_bottlings ∈ zT := zTm (zt_6 (List.mem_of_getElem? (i := 66) (by decide +kernel))) rfl
theorem zw_1367 : Cond.selects RX11 yX11_bottlings yX11_bottlings ∈ zT := zTm (zt_6 (List.mem_of_getElem? (i := 67) (by decide +kernel))) rfl
theorem zw_1369 : Cond.methodLink RL 170 yX11_bottling ∈ zT := zTm (zt_6 (List.mem_of_getElem? (i := 69) (by decide +kernel))) rfl
theorem zw_1370 : Cond.instanceMethod yX11_bottling ∈ zT := zTm (zt_6 (List.mem_of_getElem? (i := 70) (by decide +kernel))) rfl
theorem zw_1371 : Cond.selects RX11 yX11_bottling yX11_bottling ∈ zT := zTm (zt_6 (List.mem_of_getElem? (i := 71) (by decide +kernel))) rfl
theorem zw_1378 : Cond.methodLink RL 174 yX11_entries ∈ zT := zTm (zt_6 (List.mem_of_getElem? (i := 78) (by decide +kernel))) rfl
theorem zw_1379 : Cond.instanceMethod yX11_entries ∈ zT := zTm (zt_6 (List.mem_of_getElem? (i := 79) (by decide +kernel))) rfl
theorem zw_1380 : Cond.selects RX11 yX11_entries yX11_entries ∈ zT := zTm (zt_6 (List.mem_of_getElem? (i := 80) (by decide +kernel))) rfl
theorem zw_1382 : Cond.methodLink RL 178 yX11_entry ∈ zT := zTm (zt_6 (List.mem_of_getElem? (i := 82) (by decide +kernel))) rfl
theorem zw_1383 : Cond.instanceMethod yX11_entry ∈ zT := zTm (zt_6 (List.mem_of_getElem? (i := 83) (by decide +kernel))) rfl
theorem zw_1384 : Cond.selects RX11 yX11_entry yX11_entry ∈ zT := zTm (zt_6 (List.mem_of_getElem? (i := 84) (by decide +kernel))) rfl
theorem zw_1386 : Cond.methodLink RL 182 yX11_tries ∈ zT := zTm (zt_6 (List.mem_of_getElem? (i := 86) (by decide +kernel))) rfl
theorem zw_1387 : Cond.instanceMethod yX11_tries ∈ zT := zTm (zt_6 (List.mem_of_getElem? (i := 87) (by decide +kernel))) rfl
theorem zw_1388 : Cond.selects RX11 yX11_tries yX11_tries ∈ zT := zTm (zt_6 (List.mem_of_getElem? (i := 88) (by decide +kernel))) rfl
theorem zw_1390 : Cond.methodLink RL 186 yX11_closed ∈ zT := zTm (zt_6 (List.mem_of_getElem? (i := 90) (by decide +kernel))) rfl
theorem zw_1391 : Cond.instanceMethod yX11_closed ∈ zT := zTm (zt_6 (List.mem_of_getElem? (i := 91) (by decide +kernel))) rfl
theorem zw_1392 : Cond.selects RX11 yX11_closed yX11_closed ∈ zT := zTm (zt_6 (List.mem_of_getElem? (i := 92) (by decide +kernel))) rfl
theorem zw_1394 : Cond.methodLink RL 190 yX11_why ∈ zT := zTm (zt_6 (List.mem_of_getElem? (i := 94) (by decide +kernel))) rfl
theorem zw_1395 : Cond.instanceMethod yX11_why ∈ zT := zTm (zt_6 (List.mem_of_getElem? (i := 95) (by decide +kernel))) rfl
theorem zw_1396 : Cond.selects RX11 yX11_why yX11_why ∈ zT := zTm (zt_6 (List.mem_of_getElem? (i := 96) (by decide +kernel))) rfl
theorem zw_1398 : Cond.methodLink RL 194 yX11_which ∈ zT := zTm (zt_6 (List.mem_of_getElem? (i := 98) (by decide +kernel))) rfl
theorem zw_1399 : Cond.instanceMethod yX11_which ∈ zT := zTm (zt_6 (List.mem_of_getElem? (i := 99) (by decide +kernel))) rfl
theorem zw_1400 : Cond.selects RX11 yX11_which yX11_which ∈ zT := zTm (zt_6 (List.mem_of_getElem? (i := 100) (by decide +kernel))) rfl
theorem zw_1402 : Cond.methodLink RL 198 yX11_trace ∈ zT := zTm (zt_6 (List.mem_of_getElem? (i := 102) (by decide +kernel))) rfl
theorem zw_1403 : Cond.instanceMethod yX11_trace ∈ zT := zTm (zt_6 (List.mem_of_getElem? (i := 103) (by decide +kernel))) rfl
theorem zw_1404 : Cond.selects RX11 yX11_trace yX11_trace ∈ zT := zTm (zt_6 (List.mem_of_getElem? (i := 104) (by decide +kernel))) rfl
theorem zw_1410 : Cond.methodLink RL 202 yX11_picked ∈ zT := zTm (zt_6 (List.mem_of_getElem? (i := 110) (by decide +kernel))) rfl
theorem zw_1411 : Cond.instanceMethod yX11_picked ∈ zT := zTm (zt_6 (List.mem_of_getElem? (i := 111) (by decide +kernel))) rfl
theorem zw_1412 : Cond.selects RX11 yX11_picked yX11_picked ∈ zT := zTm (zt_6 (List.mem_of_getElem? (i := 112) (by decide +kernel))) rfl
theorem zw_1414 : Cond.methodLink RL 206 yX11_planned ∈ zT := zTm (zt_6 (List.mem_of_getElem? (i := 114) (by decide +kernel))) rfl
theorem zw_1415 : Cond.instanceMethod yX11_planned ∈ zT := zTm (zt_6 (List.mem_of_getElem? (i := 115) (by decide +kernel))) rfl
theorem zw_1416 : Cond.selects RX11 yX11_planned yX11_planned ∈ zT := zTm (zt_6 (List.mem_of_getElem? (i := 116) (by decide +kernel))) rfl
theorem zw_1422 : Cond.methodLink RL 210 yX11_digest ∈ zT := zTm (zt_6 (List.mem_of_getElem? (i := 122) (by decide +kernel))) rfl
theorem zw_1423 : Cond.instanceMethod yX11_digest ∈ zT := zTm (zt_6 (List.mem_of_getElem? (i := 123) (by decide +kernel))) rfl
theorem zw_1424 : Cond.selects RX11 yX11_digest yX11_digest ∈ zT := zTm (zt_6 (List.mem_of_getElem? (i := 124) (by decide +kernel))) rfl
theorem zw_1433 : Cond.classLink RL 10 RX12 ∈ zT := zTm (zt_6 (List.mem_of_getElem? (i := 133) (by decide +kernel))) rfl
theorem zw_1434 : Cond.instantiable RX12 76 ∈ zT := zTm (zt_6 (List.mem_of_getElem? (i := 134) (by decide +kernel))) rfl
theorem zw_1435 : Cond.methodLink RL 12 yX12_init ∈ zT := zTm (zt_6 (List.mem_of_getElem? (i := 135) (by decide +kernel))) rfl
theorem zw_1436 : Cond.instanceMethod yX12_init ∈ zT := zTm (zt_6 (List.mem_of_getElem? (i := 136) (by decide +kernel))) rfl
theorem zw_1669 : Cond.methodLink RL 17 yX12_row ∈ zT := zTm (zt_7 (List.mem_of_getElem? (i := 129) (by decide +kernel))) rfl
theorem zw_1670 : Cond.instanceMethod yX12_row ∈ zT := zTm (zt_7 (List.mem_of_getElem? (i := 130) (by decide +kernel))) rfl
theorem zw_1671 : Cond.selects RX12 yX12_row yX12_row ∈ zT := zTm (zt_7 (List.mem_of_getElem? (i := 131) (by decide +kernel))) rfl
theorem zw_1685 : Cond.methodLink RL 21 yX12_barrel ∈ zT := zTm (zt_7 (List.mem_of_getElem? (i := 145) (by decide +kernel))) rfl
theorem zw_1686 : Cond.instanceMethod yX12_barrel ∈ zT := zTm (zt_7 (List.mem_of_getElem? (i := 146) (by decide +kernel))) rfl
theorem zw_1687 : Cond.selects RX12 yX12_barrel yX12_barrel ∈ zT := zTm (zt_7 (List.mem_of_getElem? (i := 147) (by decide +kernel))) rfl
theorem zw_1691 : Cond.methodLink RL 26 yX12_join ∈ zT := zTm (zt_7 (List.mem_of_getElem? (i := 151) (by decide +kernel))) rfl
theorem zw_1692 : Cond.instanceMethod yX12_join ∈ zT := zTm (zt_7 (List.mem_of_getElem? (i := 152) (by decide +kernel))) rfl
theorem zw_1693 : Cond.selects RX12 yX12_join yX12_join ∈ zT := zTm (zt_7 (List.mem_of_getElem? (i := 153) (by decide +kernel))) rfl
theorem zw_1703 : Cond.methodLink RL 31 yX12_leave ∈ zT := zTm (zt_7 (List.mem_of_getElem? (i := 163) (by decide +kernel))) rfl
theorem zw_1704 : Cond.instanceMethod yX12_leave ∈ zT := zTm (zt_7 (List.mem_of_getElem? (i := 164) (by decide +kernel))) rfl
theorem zw_1705 : Cond.selects RX12 yX12_leave yX12_leave ∈ zT := zTm (zt_7 (List.mem_of_getElem? (i := 165) (by decide +kernel))) rfl
theorem zw_1707 : Cond.methodLink RL 35 yX12_lay ∈ zT := zTm (zt_7 (List.mem_of_getElem? (i := 167) (by decide +kernel))) rfl
theorem zw_1708 : Cond.instanceMethod yX12_lay ∈ zT := zTm (zt_7 (List.mem_of_getElem? (i := 168) (by decide +kernel))) rfl
theorem zw_1709 : Cond.selects RX12 yX12_lay yX12_lay ∈ zT := zTm (zt_7 (List.mem_of_getElem? (i := 169) (by decide +kernel))) rfl
theorem zw_1722 : Cond.methodLink RL 39 yX12_lift ∈ zT := zTm (zt_7 (List.mem_of_getElem? (i := 182) (by decide +kernel))) rfl
theorem zw_1723 : Cond.instanceMethod yX12_lift ∈ zT := zTm (zt_7 (List.mem_of_getElem? (i := 183) (by decide +kernel))) rfl
theorem zw_1724 : Cond.selects RX12 yX12_lift yX12_lift ∈ zT := zTm (zt_7 (List.mem_of_getElem? (i := 184) (by decide +kernel))) rfl
theorem zw_1726 : Cond.methodLink RL 43 yX12_worth ∈ zT := zTm (zt_7 (List.mem_of_getElem? (i := 186) (by decide +kernel))) rfl
theorem zw_1727 : Cond.instanceMethod yX12_worth ∈ zT := zTm (zt_7 (List.mem_of_getElem? (i := 187) (by decide +kernel))) rfl
theorem zw_1728 : Cond.selects RX12 yX12_worth yX12_worth ∈ zT := zTm (zt_7 (List.mem_of_getElem? (i := 188) (by decide +kernel))) rfl
theorem zw_1730 : Cond.methodLink RL 50 yX12_fill ∈ zT := zTm (zt_7 (List.mem_of_getElem? (i := 190) (by decide +kernel))) rfl
theorem zw_1731 : Cond.instanceMethod yX12_fill ∈ zT := zTm (zt_7 (List.mem_of_getElem? (i := 191) (by decide +kernel))) rfl
theorem zw_1732 : Cond.selects RX12 yX12_fill yX12_fill ∈ zT := zTm (zt_7 (List.mem_of_getElem? (i := 192) (by decide +kernel))) rfl
theorem zw_1791 : Cond.methodLink RL 54 yX12_rack ∈ zT := zTm (zt_8 (List.mem_of_getElem? (i := 11) (by decide +kernel))) rfl
theorem zw_1792 : Cond.instanceMethod yX12_rack ∈ zT := zTm (zt_8 (List.mem_of_getElem? (i := 12) (by decide +kernel))) rfl
theorem zw_1793 : Cond.selects RX12 yX12_rack yX12_rack ∈ zT := zTm (zt_8 (List.mem_of_getElem? (i := 13) (by decide +kernel))) rfl
theorem zw_1819 : Cond.methodLink RL 58 yX12_topUp ∈ zT := zTm (zt_8 (List.mem_of_getElem? (i := 39) (by decide +kernel))) rfl
theorem zw_1820 : Cond.instanceMethod yX12_topUp ∈ zT := zTm (zt_8 (List.mem_of_getElem? (i := 40) (by decide +kernel))) rfl
theorem zw_1821 : Cond.selects RX12 yX12_topUp yX12_topUp ∈ zT := zTm (zt_8 (List.mem_of_getElem? (i := 41) (by decide +kernel))) rfl
theorem zw_1823 : Cond.methodLink RL 63 yX12_pick ∈ zT := zTm (zt_8 (List.mem_of_getElem? (i := 43) (by decide +kernel))) rfl
theorem zw_1824 : Cond.instanceMethod yX12_pick ∈ zT := zTm (zt_8 (List.mem_of_getElem? (i := 44) (by decide +kernel))) rfl
theorem zw_1825 : Cond.selects RX12 yX12_pick yX12_pick ∈ zT := zTm (zt_8 (List.mem_of_getElem? (i := 45) (by decide +kernel))) rfl
theorem zw_1831 : Cond.methodLink RL 68 yX12_forget ∈ zT := zTm (zt_8 (List.mem_of_getElem? (i := 51) (by decide +kernel))) rfl
theorem zw_1832 : Cond.instanceMethod yX12_forget ∈ zT := zTm (zt_8 (List.mem_of_getElem? (i := 52) (by decide +kernel))) rfl
theorem zw_1833 : Cond.selects RX12 yX12_forget yX12_forget ∈ zT := zTm (zt_8 (List.mem_of_getElem? (i := 53) (by decide +kernel))) rfl
theorem zw_1835 : Cond.methodLink RL 72 yX12_blend ∈ zT := zTm (zt_8 (List.mem_of_getElem? (i := 55) (by decide +kernel))) rfl
theorem zw_1836 : Cond.instanceMethod yX12_blend ∈ zT := zTm (zt_8 (List.mem_of_getElem? (i := 56) (by decide +kernel))) rfl
theorem zw_1837 : Cond.selects RX12 yX12_blend yX12_blend ∈ zT := zTm (zt_8 (List.mem_of_getElem? (i := 57) (by decide +kernel))) rfl
theorem zw_1843 : Cond.methodLink RL 76 yX12_breathe ∈ zT := zTm (zt_8 (List.mem_of_getElem? (i := 63) (by decide +kernel))) rfl
theorem zw_1844 : Cond.instanceMethod yX12_breathe ∈ zT := zTm (zt_8 (List.mem_of_getElem? (i := 64) (by decide +kernel))) rfl
theorem zw_1845 : Cond.selects RX12 yX12_breathe yX12_breathe ∈ zT := zTm (zt_8 (List.mem_of_getElem? (i := 65) (by decide +kernel))) rfl
theorem zw_1858 : Cond.methodLink RL 80 yX12_bottle ∈ zT := zTm (zt_8 (List.mem_of_getElem? (i := 78) (by decide +kernel))) rfl
theorem zw_1859 : Cond.instanceMethod yX12_bottle ∈ zT := zTm (zt_8 (List.mem_of_getElem? (i := 79) (by decide +kernel))) rfl
theorem zw_1860 : Cond.selects RX12 yX12_bottle yX12_bottle ∈ zT := zTm (zt_8 (List.mem_of_getElem? (i := 80) (by decide +kernel))) rfl
theorem zw_1862 : Cond.methodLink RL 85 yX12_drain ∈ zT := zTm (zt_8 (List.mem_of_getElem? (i := 82) (by decide +kernel))) rfl
theorem zw_1863 : Cond.instanceMethod yX12_drain ∈ zT := zTm (zt_8 (List.mem_of_getElem? (i := 83) (by decide +kernel))) rfl
theorem zw_1864 : Cond.selects RX12 yX12_drain yX12_drain ∈ zT := zTm (zt_8 (List.mem_of_getElem? (i := 84) (by decide +kernel))) rfl
theorem zw_1866 : Cond.methodLink RL 89 yX12_wash ∈ zT := zTm (zt_8 (List.mem_of_getElem? (i := 86) (by decide +kernel))) rfl
theorem zw_1867 : Cond.instanceMethod yX12_wash ∈ zT := zTm (zt_8 (List.mem_of_getElem? (i := 87) (by decide +kernel))) rfl
theorem zw_1868 : Cond.selects RX12 yX12_wash yX12_wash ∈ zT := zTm (zt_8 (List.mem_of_getElem? (i := 88) (by decide +kernel))) rfl
theorem zw_1870 : Cond.methodLink RL 93 yX12_partAt ∈ zT := zTm (zt_8 (List.mem_of_getElem? (i := 90) (by decide +kernel))) rfl
theorem zw_1871 : Cond.instanceMethod yX12_partAt ∈ zT := zTm (zt_8 (List.mem_of_getElem? (i := 91) (by decide +kernel))) rfl
theorem zw_1872 : Cond.selects RX12 yX12_partAt yX12_partAt ∈ zT := zTm (zt_8 (List.mem_of_getElem? (i := 92) (by decide +kernel))) rfl
theorem zw_1878 : Cond.methodLink RL 97 yX12_amountAt ∈ zT := zTm (zt_8 (List.mem_of_getElem? (i := 98) (by decide +kernel))) rfl
theorem zw_1879 : Cond.instanceMethod yX12_amountAt ∈ zT := zTm (zt_8 (List.mem_of_getElem? (i := 99) (by decide +kernel))) rfl
theorem zw_1880 : Cond.selects RX12 yX12_amountAt yX12_amountAt ∈ zT := zTm (zt_8 (List.mem_of_getElem? (i := 100) (by decide +kernel))) rfl
theorem zw_1882 : Cond.methodLink RL 101 yX12_room ∈ zT := zTm (zt_8 (List.mem_of_getElem? (i := 102) (by decide +kernel))) rfl
theorem zw_1883 : Cond.instanceMethod yX12_room ∈ zT := zTm (zt_8 (List.mem_of_getElem? (i := 103) (by decide +kernel))) rfl
theorem zw_1884 : Cond.selects RX12 yX12_room yX12_room ∈ zT := zTm (zt_8 (List.mem_of_getElem? (i := 104) (by decide +kernel))) rfl
theorem zw_1890 : Cond.methodLink RL 105 yX12_label ∈ zT := zTm (zt_8 (List.mem_of_getElem? (i := 110) (by decide +kernel))) rfl
theorem zw_1891 : Cond.instanceMethod yX12_label ∈ zT := zTm (zt_8 (List.mem_of_getElem? (i := 111) (by decide +kernel))) rfl
theorem zw_1892 : Cond.selects RX12 yX12_label yX12_label ∈ zT := zTm (zt_8 (List.mem_of_getElem? (i := 112) (by decide +kernel))) rfl
theorem zw_1894 : Cond.methodLink RL 110 yX12_rule ∈ zT := zTm (zt_8 (List.mem_of_getElem? (i := 114) (by decide +kernel))) rfl
theorem zw_1895 : Cond.instanceMethod yX12_rule ∈ zT := zTm (zt_8 (List.mem_of_getElem? (i := 115) (by decide +kernel))) rfl
theorem zw_1896 : Cond.selects RX12 yX12_rule yX12_rule ∈ zT := zTm (zt_8 (List.mem_of_getElem? (i := 116) (by decide +kernel))) rfl
theorem zw_1902 : Cond.methodLink RL 114 yX12_judge ∈ zT := zTm (zt_8 (List.mem_of_getElem? (i := 122) (by decide +kernel))) rfl
theorem zw_1903 : Cond.instanceMethod yX12_judge ∈ zT := zTm (zt_8 (List.mem_of_getElem? (i := 123) (by decide +kernel))) rfl
theorem zw_1904 : Cond.selects RX12 yX12_judge yX12_judge ∈ zT := zTm (zt_8 (List.mem_of_getElem? (i := 124) (by decide +kernel))) rfl
theorem zw_1923 : Cond.methodLink RL 118 yX12_plan ∈ zT := zTm (zt_8 (List.mem_of_getElem? (i := 143) (by decide +kernel))) rfl
theorem zw_1924 : Cond.instanceMethod yX12_plan ∈ zT := zTm (zt_8 (List.mem_of_getElem? (i := 144) (by decide +kernel))) rfl
theorem zw_1925 : Cond.selects RX12 yX12_plan yX12_plan ∈ zT := zTm (zt_8 (List.mem_of_getElem? (i := 145) (by decide +kernel))) rfl
theorem zw_1938 : Cond.methodLink RL 122 yX12_undo ∈ zT := zTm (zt_8 (List.mem_of_getElem? (i := 158) (by decide +kernel))) rfl
theorem zw_1939 : Cond.instanceMethod yX12_undo ∈ zT := zTm (zt_8 (List.mem_of_getElem? (i := 159) (by decide +kernel))) rfl
theorem zw_1940 : Cond.selects RX12 yX12_undo yX12_undo ∈ zT := zTm (zt_8 (List.mem_of_getElem? (i := 160) (by decide +kernel))) rfl
theorem zw_1946 : Cond.methodLink RL 127 yX12_kindOf ∈ zT := zTm (zt_8 (List.mem_of_getElem? (i := 166) (by decide +kernel))) rfl
theorem zw_1947 : Cond.instanceMethod yX12_kindOf ∈ zT := zTm (zt_8 (List.mem_of_getElem? (i := 167) (by decide +kernel))) rfl
theorem zw_1948 : Cond.selects RX12 yX12_kindOf yX12_kindOf ∈ zT := zTm (zt_8 (List.mem_of_getElem? (i := 168) (by decide +kernel))) rfl
theorem zw_1954 : Cond.methodLink RL 131 yX12_where ∈ zT := zTm (zt_8 (List.mem_of_getElem? (i := 174) (by decide +kernel))) rfl
theorem zw_1955 : Cond.instanceMethod yX12_where ∈ zT := zTm (zt_8 (List.mem_of_getElem? (i := 175) (by decide +kernel))) rfl
theorem zw_1956 : Cond.selects RX12 yX12_where yX12_where ∈ zT := zTm (zt_8 (List.mem_of_getElem? (i := 176) (by decide +kernel))) rfl
theorem zw_1958 : Cond.methodLink RL 136 yX12_at ∈ zT := zTm (zt_8 (List.mem_of_getElem? (i := 178) (by decide +kernel))) rfl
theorem zw_1959 : Cond.instanceMethod yX12_at ∈ zT := zTm (zt_8 (List.mem_of_getElem? (i := 179) (by decide +kernel))) rfl
theorem zw_1960 : Cond.selects RX12 yX12_at yX12_at ∈ zT := zTm (zt_8 (List.mem_of_getElem? (i := 180) (by decide +kernel))) rfl
theorem zw_1962 : Cond.methodLink RL 140 yX12_amount ∈ zT := zTm (zt_8 (List.mem_of_getElem? (i := 182) (by decide +kernel))) rfl
theorem zw_1963 : Cond.instanceMethod yX12_amount ∈ zT := zTm (zt_8 (List.mem_of_getElem? (i := 183) (by decide +kernel))) rfl
theorem zw_1964 : Cond.selects RX12 yX12_amount yX12_amount ∈ zT := zTm (zt_8 (List.mem_of_getElem? (i := 184) (by decide +kernel))) rfl
theorem zw_1966 : Cond.methodLink RL 144 yX12_part ∈ zT := zTm (zt_8 (List.mem_of_getElem? (i := 186) (by decide +kernel))) rfl
theorem zw_1967 : Cond.instanceMethod yX12_part ∈ zT := zTm (zt_8 (List.mem_of_getElem? (i := 187) (by decide +kernel))) rfl
theorem zw_1968 : Cond.selects RX12 yX12_part yX12_part ∈ zT := zTm (zt_8 (List.mem_of_getElem? (i := 188) (by decide +kernel))) rfl
theorem zw_1974 : Cond.methodLink RL 148 yX12_parts ∈ zT := zTm (zt_8 (List.mem_of_getElem? (i := 194) (by decide +kernel))) rfl
theorem zw_1978 : Cond.methodLink RL 152 yX12_account_ ∈ zT := zTm (zt_8 (List.mem_of_getElem? (i := 198) (by decide +kernel))) rfl
theorem zw_1979 : Cond.instanceMethod yX12_account_ ∈ zT := zTm (zt_8 (List.mem_of_getElem? (i := 199) (by decide +kernel))) rfl
theorem zw_1980 : Cond.selects RX12 yX12_account_ yX12_account_ ∈ zT := zTm (zt_8 (List.mem_of_getElem? (i := 200) (by decide +kernel))) rfl
theorem zw_1982 : Cond.methodLink RL 157 yX12_odd ∈ zT := zTm (zt_8 (List.mem_of_getElem? (i := 202) (by decide +kernel))) rfl
theorem zw_1983 : Cond.instanceMethod yX12_odd ∈ zT := zTm (zt_8 (List.mem_of_getElem? (i := 203) (by decide +kernel))) rfl
theorem zw_1984 : Cond.selects RX12 yX12_odd yX12_odd ∈ zT := zTm (zt_8 (List.mem_of_getElem? (i := 204) (by decide +kernel))) rfl
theorem zw_1986 : Cond.methodLink RL 161 yX12_strays ∈ zT := zTm (zt_8 (List.mem_of_getElem? (i := 206) (by decide +kernel))) rfl
theorem zw_1987 : Cond.instanceMethod yX12_strays ∈ zT := zTm (zt_8 (List.mem_of_getElem? (i := 207) (by decide +kernel))) rfl
theorem zw_1988 : Cond.selects RX12 yX12_strays yX12_strays ∈ zT := zTm (zt_8 (List.mem_of_getElem? (i := 208) (by decide +kernel))) rfl
theorem zw_1990 : Cond.methodLink RL 165 yX12_month ∈ zT := zTm (zt_8 (List.mem_of_getElem? (i := 210) (by decide +kernel))) rfl
theorem zw_1991 : Cond.instanceMethod yX12_month ∈ zT := zTm (zt_8 (List.mem_of_getElem? (i := 211) (by decide +kernel))) rfl
theorem zw_1992 : Cond.selects RX12 yX12_month yX12_month ∈ zT := zTm (zt_8 (List.mem_of_getElem? (i := 212) (by decide +kernel))) rfl
theorem zw_1994 : Cond.methodLink RL 169 yX12_bottlings ∈ zT := zTm (zt_8 (List.mem_of_getElem? (i := 214) (by decide +kernel))) rfl
theorem zw_1995 : Cond.instanceMethod yX12_bottlings ∈ zT := zTm (zt_8 (List.mem_of_getElem? (i := 215) (by decide +kernel))) rfl
theorem zw_1996 : Cond.selects RX12 yX12_bottlings yX12_bottlings ∈ zT := zTm (zt_8 (List.mem_of_getElem? (i := 216) (by decide +kernel))) rfl
theorem zw_1998 : Cond.methodLink RL 173 yX12_bottling ∈ zT := zTm (zt_8 (List.mem_of_getElem? (i := 218) (by decide +kernel))) rfl
theorem zw_1999 : Cond.instanceMethod yX12_bottling ∈ zT := zTm (zt_8 (List.mem_of_getElem? (i := 219) (by decide +kernel))) rfl
theorem zw_2000 : Cond.selects RX12 yX12_bottling yX12_bottling ∈ zT := zTm (zt_8 (List.mem_of_getElem? (i := 220) (by decide +kernel))) rfl
theorem zw_2002 : Cond.methodLink RL 177 yX12_entries ∈ zT := zTm (zt_8 (List.mem_of_getElem? (i := 222) (by decide +kernel))) rfl
theorem zw_2003 : Cond.instanceMethod yX12_entries ∈ zT := zTm (zt_8 (List.mem_of_getElem? (i := 223) (by decide +kernel))) rfl
theorem zw_2004 : Cond.selects RX12 yX12_entries yX12_entries ∈ zT := zTm (zt_8 (List.mem_of_getElem? (i := 224) (by decide +kernel))) rfl
theorem zw_2006 : Cond.methodLink RL 181 yX12_entry ∈ zT := zTm (zt_8 (List.mem_of_getElem? (i := 226) (by decide +kernel))) rfl
theorem zw_2007 : Cond.instanceMethod yX12_entry ∈ zT := zTm (zt_8 (List.mem_of_getElem? (i := 227) (by decide +kernel))) rfl
theorem zw_2008 : Cond.selects RX12 yX12_entry yX12_entry ∈ zT := zTm (zt_8 (List.mem_of_getElem? (i := 228) (by decide +kernel))) rfl
theorem zw_2010 : Cond.methodLink RL 185 yX12_tries ∈ zT := zTm (zt_8 (List.mem_of_getElem? (i := 230) (by decide +kernel))) rfl
theorem zw_2011 : Cond.instanceMethod yX12_tries ∈ zT := zTm (zt_8 (List.mem_of_getElem? (i := 231) (by decide +kernel))) rfl
theorem zw_2012 : Cond.selects RX12 yX12_tries yX12_tries ∈ zT := zTm (zt_8 (List.mem_of_getElem? (i := 232) (by decide +kernel))) rfl
theorem zw_2014 : Cond.methodLink RL 189 yX12_closed ∈ zT := zTm (zt_8 (List.mem_of_getElem? (i := 234) (by decide +kernel))) rfl
theorem zw_2015 : Cond.instanceMethod yX12_closed ∈ zT := zTm (zt_8 (List.mem_of_getElem? (i := 235) (by decide +kernel))) rfl
theorem zw_2016 : Cond.selects RX12 yX12_closed yX12_closed ∈ zT := zTm (zt_8 (List.mem_of_getElem? (i := 236) (by decide +kernel))) rfl
theorem zw_2018 : Cond.methodLink RL 193 yX12_why ∈ zT := zTm (zt_8 (List.mem_of_getElem? (i := 238) (by decide +kernel))) rfl
theorem zw_2019 : Cond.instanceMethod yX12_why ∈ zT := zTm (zt_8 (List.mem_of_getElem? (i := 239) (by decide +kernel))) rfl
theorem zw_2020 : Cond.selects RX12 yX12_why yX12_why ∈ zT := zTm (zt_9 (List.mem_of_getElem? (i := 0) (by decide +kernel))) rfl
theorem zw_2022 : Cond.methodLink RL 197 yX12_which ∈ zT := zTm (zt_9 (List.mem_of_getElem? (i := 2) (by decide +kernel))) rfl
theorem zw_2023 : Cond.instanceMethod yX12_which ∈ zT := zTm (zt_9 (List.mem_of_getElem? (i := 3) (by decide +kernel))) rfl
theorem zw_2024 : Cond.selects RX12 yX12_which yX12_which ∈ zT := zTm (zt_9 (List.mem_of_getElem? (i := 4) (by decide +kernel))) rfl
theorem zw_2026 : Cond.methodLink RL 201 yX12_trace ∈ zT := zTm (zt_9 (List.mem_of_getElem? (i := 6) (by decide +kernel))) rfl
theorem zw_2027 : Cond.instanceMethod yX12_trace ∈ zT := zTm (zt_9 (List.mem_of_getElem? (i := 7) (by decide +kernel))) rfl
theorem zw_2028 : Cond.selects RX12 yX12_trace yX12_trace ∈ zT := zTm (zt_9 (List.mem_of_getElem? (i := 8) (by decide +kernel))) rfl
theorem zw_2030 : Cond.methodLink RL 205 yX12_picked ∈ zT := zTm (zt_9 (List.mem_of_getElem? (i := 10) (by decide +kernel))) rfl
theorem zw_2031 : Cond.instanceMethod yX12_picked ∈ zT := zTm (zt_9 (List.mem_of_getElem? (i := 11) (by decide +kernel))) rfl
theorem zw_2032 : Cond.selects RX12 yX12_picked yX12_picked ∈ zT := zTm (zt_9 (List.mem_of_getElem? (i := 12) (by decide +kernel))) rfl
theorem zw_2034 : Cond.methodLink RL 209 yX12_planned ∈ zT := zTm (zt_9 (List.mem_of_getElem? (i := 14) (by decide +kernel))) rfl
theorem zw_2035 : Cond.instanceMethod yX12_planned ∈ zT := zTm (zt_9 (List.mem_of_getElem? (i := 15) (by decide +kernel))) rfl
theorem zw_2036 : Cond.selects RX12 yX12_planned yX12_planned ∈ zT := zTm (zt_9 (List.mem_of_getElem? (i := 16) (by decide +kernel))) rfl
theorem zw_2038 : Cond.methodLink RL 213 yX12_digest ∈ zT := zTm (zt_9 (List.mem_of_getElem? (i := 18) (by decide +kernel))) rfl
theorem zw_2039 : Cond.instanceMethod yX12_digest ∈ zT := zTm (zt_9 (List.mem_of_getElem? (i := 19) (by decide +kernel))) rfl
theorem zw_2040 : Cond.selects RX12 yX12_digest yX12_digest ∈ zT := zTm (zt_9 (List.mem_of_getElem? (i := 20) (by decide +kernel))) rfl
theorem zw_2045 : Cond.constantLong RL 44 (4294967295) ∈ zT := zTm (zt_9 (List.mem_of_getElem? (i := 25) (by decide +kernel))) rfl
theorem znw_RL_7 : zNw RL 7 12 20 := ⟨_, _, tyX11, rfl, by decide, zin_12, tyX11_ok, zw_123, zw_124, zw_101, rfl, by decide +kernel⟩
theorem znw_RL_10 : zNw RL 10 13 76 := ⟨_, _, tyX12, rfl, by decide, zin_13, tyX12_ok, zw_1433, zw_1434, zw_114, rfl, by decide +kernel⟩
def zC_L_law : Zc := (code, 4, R_law, 2048, 84000, false)
theorem zd_L_law_33 : decode cL_law 33 = .ok (.tableswitch 1686 0 46 #[203, 247, 291, 325, 349, 393, 427, 461, 535, 609, 643, 707, 721, 745, 769, 843, 917, 941, 975, 1009, 1033, 1047, 1111, 1145, 1219, 1233, 1256, 1279, 1312, 1336, 1370, 1393, 1427, 1440, 1453, 1466, 1479, 1513, 1526, 1560, 1573, 1586, 1599, 1612, 1635, 1648, 1672], 203) := by decide +kernel
noncomputable def zf_L_law_J1719 (xs : Nat → Int32) (L sb : Nat) (M : Zm) (p1 : Option Nat) (p2 : Option Nat) (l3 : Int32) : Option ((Zm × Int32) ⊕ ((Zm × Int32) ⊕ (Zm × Int32))) :=
  some (.inl (M, (l3 + 6)))
noncomputable def zf_L_law_L18 (xs : Nat → Int32) (L sb : Nat) (p1 : Option Nat) (p2 : Option Nat) (x : Zm × Int32) : Option ((Zm × Int32) ⊕ ((Zm × Int32) ⊕ (Zm × Int32))) := match x with
  | (M, l3) =>
  (if ((Int32.ofNat L) - (6 : Int32)) < l3 then
  some (.inr (.inl (M, l3)))
  else
  zb1 (zo_xs xs L l3) (fun v7 =>
  (if (v7 &&& (63 : Int32)) = 0 then
  zb1 (zo_xs xs L (l3 + (1 : Int32))) (fun v10 =>
  zb1 (zo_xs xs L (l3 + (2 : Int32))) (fun v11 =>
  zb1 (zo_xs xs L (l3 + (3 : Int32))) (fun v12 =>
  zb1 (zo_rc M p1 12) (fun _ => zbd (zf_X11_row M p1 v10 v11 v12) (fun M13 v13 =>
  zb1 (zo_xs xs L (l3 + (1 : Int32))) (fun v14 =>
  zb1 (zo_xs xs L (l3 + (2 : Int32))) (fun v15 =>
  zb1 (zo_xs xs L (l3 + (3 : Int32))) (fun v16 =>
  zb1 (zo_rc M13 p2 13) (fun _ => zbd (zf_X12_row M13 p2 v14 v15 v16) (fun M17 v17 =>
  (if v13 = v17 then
  zf_L_law_J1719 xs L sb M17 p1 p2 l3
  else
  zb1 (zo_b (0 : Int32)) (fun w => some (.inr (.inr (M17, w)))))))))))))))
  else
  (if (v7 &&& (63 : Int32)) = 1 then
  zb1 (zo_xs xs L (l3 + (1 : Int32))) (fun v20 =>
  zb1 (zo_xs xs L (l3 + (2 : Int32))) (fun v21 =>
  zb1 (zo_xs xs L (l3 + (3 : Int32))) (fun v22 =>
  zb1 (zo_rc M p1 12) (fun _ => zbd (zf_X11_barrel M p1 v20 v21 v22) (fun M23 v23 =>
  zb1 (zo_xs xs L (l3 + (1 : Int32))) (fun v24 =>
  zb1 (zo_xs xs L (l3 + (2 : Int32))) (fun v25 =>
  zb1 (zo_xs xs L (l3 + (3 : Int32))) (fun v26 =>
  zb1 (zo_rc M23 p2 13) (fun _ => zbd (zf_X12_barrel M23 p2 v24 v25 v26) (fun M27 v27 =>
  (if v23 = v27 then
  zf_L_law_J1719 xs L sb M27 p1 p2 l3
  else
  zb1 (zo_b (0 : Int32)) (fun w => some (.inr (.inr (M27, w)))))))))))))))
  else
  (if (v7 &&& (63 : Int32)) = 2 then
  zb1 (zo_xs xs L (l3 + (1 : Int32))) (fun v30 =>
  zb1 (zo_xs xs L (l3 + (2 : Int32))) (fun v31 =>
  zb1 (zo_rc M p1 12) (fun _ => zbd (zf_X11_join M p1 v30 v31) (fun M32 v32 =>
  zb1 (zo_xs xs L (l3 + (1 : Int32))) (fun v33 =>
  zb1 (zo_xs xs L (l3 + (2 : Int32))) (fun v34 =>
  zb1 (zo_rc M32 p2 13) (fun _ => zbd (zf_X12_join M32 p2 v33 v34) (fun M35 v35 =>
  (if v32 = v35 then
  zf_L_law_J1719 xs L sb M35 p1 p2 l3
  else
  zb1 (zo_b (0 : Int32)) (fun w => some (.inr (.inr (M35, w)))))))))))))
  else
  (if (v7 &&& (63 : Int32)) = 3 then
  zb1 (zo_xs xs L (l3 + (1 : Int32))) (fun v38 =>
  zb1 (zo_rc M p1 12) (fun _ => zbd (zf_X11_leave M p1 v38) (fun M39 v39 =>
  zb1 (zo_xs xs L (l3 + (1 : Int32))) (fun v40 =>
  zb1 (zo_rc M39 p2 13) (fun _ => zbd (zf_X12_leave M39 p2 v40) (fun M41 v41 =>
  (if v39 = v41 then
  zf_L_law_J1719 xs L sb M41 p1 p2 l3
  else
  zb1 (zo_b (0 : Int32)) (fun w => some (.inr (.inr (M41, w)))))))))))
  else
  (if (v7 &&& (63 : Int32)) = 4 then
  zb1 (zo_xs xs L (l3 + (1 : Int32))) (fun v44 =>
  zb1 (zo_xs xs L (l3 + (2 : Int32))) (fun v45 =>
  zb1 (zo_xs xs L (l3 + (3 : Int32))) (fun v46 =>
  zb1 (zo_rc M p1 12) (fun _ => zbd (zf_X11_lay M p1 v44 v45 v46) (fun M47 v47 =>
  zb1 (zo_xs xs L (l3 + (1 : Int32))) (fun v48 =>
  zb1 (zo_xs xs L (l3 + (2 : Int32))) (fun v49 =>
  zb1 (zo_xs xs L (l3 + (3 : Int32))) (fun v50 =>
  zb1 (zo_rc M47 p2 13) (fun _ => zbd (zf_X12_lay M47 p2 v48 v49 v50) (fun M51 v51 =>
  (if v47 = v51 then
  zf_L_law_J1719 xs L sb M51 p1 p2 l3
  else
  zb1 (zo_b (0 : Int32)) (fun w => some (.inr (.inr (M51, w)))))))))))))))
  else
  (if (v7 &&& (63 : Int32)) = 5 then
  zb1 (zo_xs xs L (l3 + (1 : Int32))) (fun v54 =>
  zb1 (zo_xs xs L (l3 + (2 : Int32))) (fun v55 =>
  zb1 (zo_rc M p1 12) (fun _ => zbd (zf_X11_lift M p1 v54 v55) (fun M56 v56 =>
  zb1 (zo_xs xs L (l3 + (1 : Int32))) (fun v57 =>
  zb1 (zo_xs xs L (l3 + (2 : Int32))) (fun v58 =>
  zb1 (zo_rc M56 p2 13) (fun _ => zbd (zf_X12_lift M56 p2 v57 v58) (fun M59 v59 =>
  (if v56 = v59 then
  zf_L_law_J1719 xs L sb M59 p1 p2 l3
  else
  zb1 (zo_b (0 : Int32)) (fun w => some (.inr (.inr (M59, w)))))))))))))
  else
  (if (v7 &&& (63 : Int32)) = 6 then
  zb1 (zo_xs xs L (l3 + (1 : Int32))) (fun v62 =>
  zb1 (zo_xs xs L (l3 + (2 : Int32))) (fun v63 =>
  zb1 (zo_rc M p1 12) (fun _ => zbd (zf_X11_worth M p1 v62 v63) (fun M64 v64 =>
  zb1 (zo_xs xs L (l3 + (1 : Int32))) (fun v65 =>
  zb1 (zo_xs xs L (l3 + (2 : Int32))) (fun v66 =>
  zb1 (zo_rc M64 p2 13) (fun _ => zbd (zf_X12_worth M64 p2 v65 v66) (fun M67 v67 =>
  (if v64 = v67 then
  zf_L_law_J1719 xs L sb M67 p1 p2 l3
  else
  zb1 (zo_b (0 : Int32)) (fun w => some (.inr (.inr (M67, w)))))))))))))
  else
  (if (v7 &&& (63 : Int32)) = 7 then
  zb1 (zo_xs xs L (l3 + (1 : Int32))) (fun v70 =>
  zb1 (zo_xs xs L (l3 + (2 : Int32))) (fun v71 =>
  zb1 (zo_xs xs L (l3 + (3 : Int32))) (fun v72 =>
  zb1 (zo_xs xs L (l3 + (4 : Int32))) (fun v73 =>
  zb1 (zo_rc M p1 12) (fun _ => zbd (zf_X11_fill M p1 v70 v71 (((v72.toInt64) <<< (((32 : Int32)).toInt64 &&& 63)) ||| ((v73.toInt64) &&& (4294967295 : Int64)))) (fun M75 v75 =>
  zb1 (zo_xs xs L (l3 + (1 : Int32))) (fun v76 =>
  zb1 (zo_xs xs L (l3 + (2 : Int32))) (fun v77 =>
  zb1 (zo_xs xs L (l3 + (3 : Int32))) (fun v78 =>
  zb1 (zo_xs xs L (l3 + (4 : Int32))) (fun v79 =>
  zb1 (zo_rc M75 p2 13) (fun _ => zbd (zf_X12_fill M75 p2 v76 v77 (((v78.toInt64) <<< (((32 : Int32)).toInt64 &&& 63)) ||| ((v79.toInt64) &&& (4294967295 : Int64)))) (fun M81 v81 =>
  (if v75 = v81 then
  zf_L_law_J1719 xs L sb M81 p1 p2 l3
  else
  zb1 (zo_b (0 : Int32)) (fun w => some (.inr (.inr (M81, w)))))))))))))))))
  else
  (if (v7 &&& (63 : Int32)) = 8 then
  zb1 (zo_xs xs L (l3 + (1 : Int32))) (fun v84 =>
  zb1 (zo_xs xs L (l3 + (2 : Int32))) (fun v85 =>
  zb1 (zo_xs xs L (l3 + (3 : Int32))) (fun v86 =>
  zb1 (zo_xs xs L (l3 + (4 : Int32))) (fun v87 =>
  zb1 (zo_rc M p1 12) (fun _ => zbd (zf_X11_rack M p1 v84 v85 (((v86.toInt64) <<< (((32 : Int32)).toInt64 &&& 63)) ||| ((v87.toInt64) &&& (4294967295 : Int64)))) (fun M89 v89 =>
  zb1 (zo_xs xs L (l3 + (1 : Int32))) (fun v90 =>
  zb1 (zo_xs xs L (l3 + (2 : Int32))) (fun v91 =>
  zb1 (zo_xs xs L (l3 + (3 : Int32))) (fun v92 =>
  zb1 (zo_xs xs L (l3 + (4 : Int32))) (fun v93 =>
  zb1 (zo_rc M89 p2 13) (fun _ => zbd (zf_X12_rack M89 p2 v90 v91 (((v92.toInt64) <<< (((32 : Int32)).toInt64 &&& 63)) ||| ((v93.toInt64) &&& (4294967295 : Int64)))) (fun M95 v95 =>
  (if v89 = v95 then
  zf_L_law_J1719 xs L sb M95 p1 p2 l3
  else
  zb1 (zo_b (0 : Int32)) (fun w => some (.inr (.inr (M95, w)))))))))))))))))
  else
  (if (v7 &&& (63 : Int32)) = 9 then
  zb1 (zo_xs xs L (l3 + (1 : Int32))) (fun v98 =>
  zb1 (zo_xs xs L (l3 + (2 : Int32))) (fun v99 =>
  zb1 (zo_rc M p1 12) (fun _ => zbd (zf_X11_topUp M p1 v98 v99) (fun M100 v100 =>
  zb1 (zo_xs xs L (l3 + (1 : Int32))) (fun v101 =>
  zb1 (zo_xs xs L (l3 + (2 : Int32))) (fun v102 =>
  zb1 (zo_rc M100 p2 13) (fun _ => zbd (zf_X12_topUp M100 p2 v101 v102) (fun M103 v103 =>
  (if v100 = v103 then
  zf_L_law_J1719 xs L sb M103 p1 p2 l3
  else
  zb1 (zo_b (0 : Int32)) (fun w => some (.inr (.inr (M103, w)))))))))))))
  else
  (if (v7 &&& (63 : Int32)) = 10 then
  zb1 (zo_xs xs L (l3 + (1 : Int32))) (fun v106 =>
  zb1 (zo_xs xs L (l3 + (2 : Int32))) (fun v107 =>
  zb1 (zo_xs xs L (l3 + (3 : Int32))) (fun v108 =>
  zb1 (zo_rc M p1 12) (fun _ => zbd (zf_X11_pick M p1 v106 (((v107.toInt64) <<< (((32 : Int32)).toInt64 &&& 63)) ||| ((v108.toInt64) &&& (4294967295 : Int64)))) (fun M110 v110 =>
  zb1 (zo_xs xs L (l3 + (1 : Int32))) (fun v111 =>
  zb1 (zo_xs xs L (l3 + (2 : Int32))) (fun v112 =>
  zb1 (zo_xs xs L (l3 + (3 : Int32))) (fun v113 =>
  zb1 (zo_rc M110 p2 13) (fun _ => zbd (zf_X12_pick M110 p2 v111 (((v112.toInt64) <<< (((32 : Int32)).toInt64 &&& 63)) ||| ((v113.toInt64) &&& (4294967295 : Int64)))) (fun M115 v115 =>
  (if v110 = v115 then
  zf_L_law_J1719 xs L sb M115 p1 p2 l3
  else
  zb1 (zo_b (0 : Int32)) (fun w => some (.inr (.inr (M115, w)))))))))))))))
  else
  (if (v7 &&& (63 : Int32)) = 11 then
  zb1 (zo_rc M p1 12) (fun _ => zbd (zf_X11_forget M p1) (fun M118 v118 =>
  zb1 (zo_rc M118 p2 13) (fun _ => zbd (zf_X12_forget M118 p2) (fun M119 v119 =>
  (if v118 = v119 then
  zf_L_law_J1719 xs L sb M119 p1 p2 l3
  else
  zb1 (zo_b (0 : Int32)) (fun w => some (.inr (.inr (M119, w)))))))))
  else
  (if (v7 &&& (63 : Int32)) = 12 then
  zb1 (zo_xs xs L (l3 + (1 : Int32))) (fun v122 =>
  zb1 (zo_rc M p1 12) (fun _ => zbd (zf_X11_blend M p1 v122) (fun M123 v123 =>
  zb1 (zo_xs xs L (l3 + (1 : Int32))) (fun v124 =>
  zb1 (zo_rc M123 p2 13) (fun _ => zbd (zf_X12_blend M123 p2 v124) (fun M125 v125 =>
  (if v123 = v125 then
  zf_L_law_J1719 xs L sb M125 p1 p2 l3
  else
  zb1 (zo_b (0 : Int32)) (fun w => some (.inr (.inr (M125, w)))))))))))
  else
  (if (v7 &&& (63 : Int32)) = 13 then
  zb1 (zo_xs xs L (l3 + (1 : Int32))) (fun v128 =>
  zb1 (zo_rc M p1 12) (fun _ => zbd (zf_X11_breathe M p1 v128) (fun M129 v129 =>
  zb1 (zo_xs xs L (l3 + (1 : Int32))) (fun v130 =>
  zb1 (zo_rc M129 p2 13) (fun _ => zbd (zf_X12_breathe M129 p2 v130) (fun M131 v131 =>
  (if v129 = v131 then
  zf_L_law_J1719 xs L sb M131 p1 p2 l3
  else
  zb1 (zo_b (0 : Int32)) (fun w => some (.inr (.inr (M131, w)))))))))))
  else
  (if (v7 &&& (63 : Int32)) = 14 then
  zb1 (zo_xs xs L (l3 + (1 : Int32))) (fun v134 =>
  zb1 (zo_xs xs L (l3 + (2 : Int32))) (fun v135 =>
  zb1 (zo_xs xs L (l3 + (3 : Int32))) (fun v136 =>
  zb1 (zo_xs xs L (l3 + (4 : Int32))) (fun v137 =>
  zb1 (zo_rc M p1 12) (fun _ => zbd (zf_X11_bottle M p1 v134 v135 (((v136.toInt64) <<< (((32 : Int32)).toInt64 &&& 63)) ||| ((v137.toInt64) &&& (4294967295 : Int64)))) (fun M139 v139 =>
  zb1 (zo_xs xs L (l3 + (1 : Int32))) (fun v140 =>
  zb1 (zo_xs xs L (l3 + (2 : Int32))) (fun v141 =>
  zb1 (zo_xs xs L (l3 + (3 : Int32))) (fun v142 =>
  zb1 (zo_xs xs L (l3 + (4 : Int32))) (fun v143 =>
  zb1 (zo_rc M139 p2 13) (fun _ => zbd (zf_X12_bottle M139 p2 v140 v141 (((v142.toInt64) <<< (((32 : Int32)).toInt64 &&& 63)) ||| ((v143.toInt64) &&& (4294967295 : Int64)))) (fun M145 v145 =>
  (if v139 = v145 then
  zf_L_law_J1719 xs L sb M145 p1 p2 l3
  else
  zb1 (zo_b (0 : Int32)) (fun w => some (.inr (.inr (M145, w)))))))))))))))))
  else
  (if (v7 &&& (63 : Int32)) = 15 then
  zb1 (zo_xs xs L (l3 + (1 : Int32))) (fun v148 =>
  zb1 (zo_xs xs L (l3 + (2 : Int32))) (fun v149 =>
  zb1 (zo_xs xs L (l3 + (3 : Int32))) (fun v150 =>
  zb1 (zo_xs xs L (l3 + (4 : Int32))) (fun v152 =>
  zb1 (zo_rc M p1 12) (fun _ => zbd (zf_X11_drain M p1 v148 (((v149.toInt64) <<< (((32 : Int32)).toInt64 &&& 63)) ||| ((v150.toInt64) &&& (4294967295 : Int64))) v152) (fun M153 v153 =>
  zb1 (zo_xs xs L (l3 + (1 : Int32))) (fun v154 =>
  zb1 (zo_xs xs L (l3 + (2 : Int32))) (fun v155 =>
  zb1 (zo_xs xs L (l3 + (3 : Int32))) (fun v156 =>
  zb1 (zo_xs xs L (l3 + (4 : Int32))) (fun v158 =>
  zb1 (zo_rc M153 p2 13) (fun _ => zbd (zf_X12_drain M153 p2 v154 (((v155.toInt64) <<< (((32 : Int32)).toInt64 &&& 63)) ||| ((v156.toInt64) &&& (4294967295 : Int64))) v158) (fun M159 v159 =>
  (if v153 = v159 then
  zf_L_law_J1719 xs L sb M159 p1 p2 l3
  else
  zb1 (zo_b (0 : Int32)) (fun w => some (.inr (.inr (M159, w)))))))))))))))))
  else
  (if (v7 &&& (63 : Int32)) = 16 then
  zb1 (zo_xs xs L (l3 + (1 : Int32))) (fun v162 =>
  zb1 (zo_rc M p1 12) (fun _ => zbd (zf_X11_wash M p1 v162) (fun M163 v163 =>
  zb1 (zo_xs xs L (l3 + (1 : Int32))) (fun v164 =>
  zb1 (zo_rc M163 p2 13) (fun _ => zbd (zf_X12_wash M163 p2 v164) (fun M165 v165 =>
  (if v163 = v165 then
  zf_L_law_J1719 xs L sb M165 p1 p2 l3
  else
  zb1 (zo_b (0 : Int32)) (fun w => some (.inr (.inr (M165, w)))))))))))
  else
  (if (v7 &&& (63 : Int32)) = 17 then
  zb1 (zo_xs xs L (l3 + (1 : Int32))) (fun v168 =>
  zb1 (zo_xs xs L (l3 + (2 : Int32))) (fun v169 =>
  zb1 (zo_rc M p1 12) (fun _ => zbd (zf_X11_partAt M p1 v168 v169) (fun M170 v170 =>
  zb1 (zo_xs xs L (l3 + (1 : Int32))) (fun v171 =>
  zb1 (zo_xs xs L (l3 + (2 : Int32))) (fun v172 =>
  zb1 (zo_rc M170 p2 13) (fun _ => zbd (zf_X12_partAt M170 p2 v171 v172) (fun M173 v173 =>
  (if v170 = v173 then
  zf_L_law_J1719 xs L sb M173 p1 p2 l3
  else
  zb1 (zo_b (0 : Int32)) (fun w => some (.inr (.inr (M173, w)))))))))))))
  else
  (if (v7 &&& (63 : Int32)) = 18 then
  zb1 (zo_xs xs L (l3 + (1 : Int32))) (fun v176 =>
  zb1 (zo_xs xs L (l3 + (2 : Int32))) (fun v177 =>
  zb1 (zo_rc M p1 12) (fun _ => zbd (zf_X11_amountAt M p1 v176 v177) (fun M178 v178 =>
  zb1 (zo_xs xs L (l3 + (1 : Int32))) (fun v179 =>
  zb1 (zo_xs xs L (l3 + (2 : Int32))) (fun v180 =>
  zb1 (zo_rc M178 p2 13) (fun _ => zbd (zf_X12_amountAt M178 p2 v179 v180) (fun M181 v181 =>
  (if v178 = v181 then
  zf_L_law_J1719 xs L sb M181 p1 p2 l3
  else
  zb1 (zo_b (0 : Int32)) (fun w => some (.inr (.inr (M181, w)))))))))))))
  else
  (if (v7 &&& (63 : Int32)) = 19 then
  zb1 (zo_xs xs L (l3 + (1 : Int32))) (fun v184 =>
  zb1 (zo_rc M p1 12) (fun _ => zbd (zf_X11_room M p1 v184) (fun M185 v185 =>
  zb1 (zo_xs xs L (l3 + (1 : Int32))) (fun v186 =>
  zb1 (zo_rc M185 p2 13) (fun _ => zbd (zf_X12_room M185 p2 v186) (fun M187 v187 =>
  (if v185 = v187 then
  zf_L_law_J1719 xs L sb M187 p1 p2 l3
  else
  zb1 (zo_b (0 : Int32)) (fun w => some (.inr (.inr (M187, w)))))))))))
  else
  (if (v7 &&& (63 : Int32)) = 20 then
  zb1 (zo_rc M p1 12) (fun _ => zbd (zf_X11_label M p1) (fun M190 v190 =>
  zb1 (zo_rc M190 p2 13) (fun _ => zbd (zf_X12_label M190 p2) (fun M191 v191 =>
  (if v190 = v191 then
  zf_L_law_J1719 xs L sb M191 p1 p2 l3
  else
  zb1 (zo_b (0 : Int32)) (fun w => some (.inr (.inr (M191, w)))))))))
  else
  (if (v7 &&& (63 : Int32)) = 21 then
  zb1 (zo_xs xs L (l3 + (1 : Int32))) (fun v194 =>
  zb1 (zo_xs xs L (l3 + (2 : Int32))) (fun v195 =>
  zb1 (zo_xs xs L (l3 + (3 : Int32))) (fun v196 =>
  zb1 (zo_xs xs L (l3 + (4 : Int32))) (fun v197 =>
  zb1 (zo_xs xs L (l3 + (5 : Int32))) (fun v198 =>
  zb1 (zo_rc M p1 12) (fun _ => zbd (zf_X11_rule M p1 v194 v195 v196 v197 v198) (fun M199 v199 =>
  zb1 (zo_xs xs L (l3 + (1 : Int32))) (fun v200 =>
  zb1 (zo_xs xs L (l3 + (2 : Int32))) (fun v201 =>
  zb1 (zo_xs xs L (l3 + (3 : Int32))) (fun v202 =>
  zb1 (zo_xs xs L (l3 + (4 : Int32))) (fun v203 =>
  zb1 (zo_xs xs L (l3 + (5 : Int32))) (fun v204 =>
  zb1 (zo_rc M199 p2 13) (fun _ => zbd (zf_X12_rule M199 p2 v200 v201 v202 v203 v204) (fun M205 v205 =>
  (if v199 = v205 then
  zf_L_law_J1719 xs L sb M205 p1 p2 l3
  else
  zb1 (zo_b (0 : Int32)) (fun w => some (.inr (.inr (M205, w)))))))))))))))))))
  else
  (if (v7 &&& (63 : Int32)) = 22 then
  zb1 (zo_xs xs L (l3 + (1 : Int32))) (fun v208 =>
  zb1 (zo_xs xs L (l3 + (2 : Int32))) (fun v209 =>
  zb1 (zo_rc M p1 12) (fun _ => zbd (zf_X11_judge M p1 v208 v209) (fun M210 v210 =>
  zb1 (zo_xs xs L (l3 + (1 : Int32))) (fun v211 =>
  zb1 (zo_xs xs L (l3 + (2 : Int32))) (fun v212 =>
  zb1 (zo_rc M210 p2 13) (fun _ => zbd (zf_X12_judge M210 p2 v211 v212) (fun M213 v213 =>
  (if v210 = v213 then
  zf_L_law_J1719 xs L sb M213 p1 p2 l3
  else
  zb1 (zo_b (0 : Int32)) (fun w => some (.inr (.inr (M213, w)))))))))))))
  else
  (if (v7 &&& (63 : Int32)) = 23 then
  zb1 (zo_xs xs L (l3 + (1 : Int32))) (fun v216 =>
  zb1 (zo_xs xs L (l3 + (2 : Int32))) (fun v217 =>
  zb1 (zo_xs xs L (l3 + (3 : Int32))) (fun v218 =>
  zb1 (zo_xs xs L (l3 + (4 : Int32))) (fun v220 =>
  zb1 (zo_rc M p1 12) (fun _ => zbd (zf_X11_plan M p1 v216 (((v217.toInt64) <<< (((32 : Int32)).toInt64 &&& 63)) ||| ((v218.toInt64) &&& (4294967295 : Int64))) v220) (fun M221 v221 =>
  zb1 (zo_xs xs L (l3 + (1 : Int32))) (fun v222 =>
  zb1 (zo_xs xs L (l3 + (2 : Int32))) (fun v223 =>
  zb1 (zo_xs xs L (l3 + (3 : Int32))) (fun v224 =>
  zb1 (zo_xs xs L (l3 + (4 : Int32))) (fun v226 =>
  zb1 (zo_rc M221 p2 13) (fun _ => zbd (zf_X12_plan M221 p2 v222 (((v223.toInt64) <<< (((32 : Int32)).toInt64 &&& 63)) ||| ((v224.toInt64) &&& (4294967295 : Int64))) v226) (fun M227 v227 =>
  (if v221 = v227 then
  zf_L_law_J1719 xs L sb M227 p1 p2 l3
  else
  zb1 (zo_b (0 : Int32)) (fun w => some (.inr (.inr (M227, w)))))))))))))))))
  else
  (if (v7 &&& (63 : Int32)) = 24 then
  zb1 (zo_rc M p1 12) (fun _ => zbd (zf_X11_undo M p1) (fun M230 v230 =>
  zb1 (zo_rc M230 p2 13) (fun _ => zbd (zf_X12_undo M230 p2) (fun M231 v231 =>
  (if v230 = v231 then
  zf_L_law_J1719 xs L sb M231 p1 p2 l3
  else
  zb1 (zo_b (0 : Int32)) (fun w => some (.inr (.inr (M231, w)))))))))
  else
  (if (v7 &&& (63 : Int32)) = 25 then
  zb1 (zo_xs xs L (l3 + (1 : Int32))) (fun v234 =>
  zb1 (zo_rc M p1 12) (fun _ => zbd (zf_X11_kindOf M p1 v234) (fun M235 v235 =>
  zb1 (zo_xs xs L (l3 + (1 : Int32))) (fun v236 =>
  zb1 (zo_rc M235 p2 13) (fun _ => zbd (zf_X12_kindOf M235 p2 v236) (fun M237 v237 =>
  (if v235 = v237 then
  zf_L_law_J1719 xs L sb M237 p1 p2 l3
  else
  zb1 (zo_b (0 : Int32)) (fun w => some (.inr (.inr (M237, w)))))))))))
  else
  (if (v7 &&& (63 : Int32)) = 26 then
  zb1 (zo_xs xs L (l3 + (1 : Int32))) (fun v240 =>
  zb1 (zo_rc M p1 12) (fun _ => zbd (zf_X11_where M p1 v240) (fun M241 v241 =>
  zb1 (zo_xs xs L (l3 + (1 : Int32))) (fun v242 =>
  zb1 (zo_rc M241 p2 13) (fun _ => zbd (zf_X12_where M241 p2 v242) (fun M243 v243 =>
  (if v241 = v243 then
  zf_L_law_J1719 xs L sb M243 p1 p2 l3
  else
  zb1 (zo_b (0 : Int32)) (fun w => some (.inr (.inr (M243, w)))))))))))
  else
  (if (v7 &&& (63 : Int32)) = 27 then
  zb1 (zo_xs xs L (l3 + (1 : Int32))) (fun v246 =>
  zb1 (zo_xs xs L (l3 + (2 : Int32))) (fun v247 =>
  zb1 (zo_rc M p1 12) (fun _ => zbd (zf_X11_at M p1 v246 v247) (fun M248 v248 =>
  zb1 (zo_xs xs L (l3 + (1 : Int32))) (fun v249 =>
  zb1 (zo_xs xs L (l3 + (2 : Int32))) (fun v250 =>
  zb1 (zo_rc M248 p2 13) (fun _ => zbd (zf_X12_at M248 p2 v249 v250) (fun M251 v251 =>
  (if v248 = v251 then
  zf_L_law_J1719 xs L sb M251 p1 p2 l3
  else
  zb1 (zo_b (0 : Int32)) (fun w => some (.inr (.inr (M251, w)))))))))))))
  else
  (if (v7 &&& (63 : Int32)) = 28 then
  zb1 (zo_xs xs L (l3 + (1 : Int32))) (fun v254 =>
  zb1 (zo_rc M p1 12) (fun _ => zbd (zf_X11_amount M p1 v254) (fun M255 v255 =>
  zb1 (zo_xs xs L (l3 + (1 : Int32))) (fun v256 =>
  zb1 (zo_rc M255 p2 13) (fun _ => zbd (zf_X12_amount M255 p2 v256) (fun M257 v257 =>
  (if v255 = v257 then
  zf_L_law_J1719 xs L sb M257 p1 p2 l3
  else
  zb1 (zo_b (0 : Int32)) (fun w => some (.inr (.inr (M257, w)))))))))))
  else
  (if (v7 &&& (63 : Int32)) = 29 then
  zb1 (zo_xs xs L (l3 + (1 : Int32))) (fun v260 =>
  zb1 (zo_xs xs L (l3 + (2 : Int32))) (fun v261 =>
  zb1 (zo_rc M p1 12) (fun _ => zbd (zf_X11_part M p1 v260 v261) (fun M262 v262 =>
  zb1 (zo_xs xs L (l3 + (1 : Int32))) (fun v263 =>
  zb1 (zo_xs xs L (l3 + (2 : Int32))) (fun v264 =>
  zb1 (zo_rc M262 p2 13) (fun _ => zbd (zf_X12_part M262 p2 v263 v264) (fun M265 v265 =>
  (if v262 = v265 then
  zf_L_law_J1719 xs L sb M265 p1 p2 l3
  else
  zb1 (zo_b (0 : Int32)) (fun w => some (.inr (.inr (M265, w)))))))))))))
  else
  (if (v7 &&& (63 : Int32)) = 30 then
  zb1 (zo_xs xs L (l3 + (1 : Int32))) (fun v268 =>
  zb1 (zo_rc M p1 12) (fun _ => zbd (zf_X11_parts M p1 v268) (fun M269 v269 =>
  zb1 (zo_xs xs L (l3 + (1 : Int32))) (fun v270 =>
  zb1 (zo_rc M269 p2 13) (fun _ => zbd (zf_X12_parts M269 p2 v270) (fun M271 v271 =>
  (if v269 = v271 then
  zf_L_law_J1719 xs L sb M271 p1 p2 l3
  else
  zb1 (zo_b (0 : Int32)) (fun w => some (.inr (.inr (M271, w)))))))))))
  else
  (if (v7 &&& (63 : Int32)) = 31 then
  zb1 (zo_xs xs L (l3 + (1 : Int32))) (fun v274 =>
  zb1 (zo_xs xs L (l3 + (2 : Int32))) (fun v275 =>
  zb1 (zo_rc M p1 12) (fun _ => zbd (zf_X11_account M p1 v274 v275) (fun M276 v276 =>
  zb1 (zo_xs xs L (l3 + (1 : Int32))) (fun v277 =>
  zb1 (zo_xs xs L (l3 + (2 : Int32))) (fun v278 =>
  zb1 (zo_rc M276 p2 13) (fun _ => zbd (zf_X12_account_ M276 p2 v277 v278) (fun M279 v279 =>
  (if v276 = v279 then
  zf_L_law_J1719 xs L sb M279 p1 p2 l3
  else
  zb1 (zo_b (0 : Int32)) (fun w => some (.inr (.inr (M279, w)))))))))))))
  else
  (if (v7 &&& (63 : Int32)) = 32 then
  zb1 (zo_rc M p1 12) (fun _ => zbd (zf_X11_odd M p1) (fun M282 v282 =>
  zb1 (zo_rc M282 p2 13) (fun _ => zbd (zf_X12_odd M282 p2) (fun M283 v283 =>
  (if v282 = v283 then
  zf_L_law_J1719 xs L sb M283 p1 p2 l3
  else
  zb1 (zo_b (0 : Int32)) (fun w => some (.inr (.inr (M283, w)))))))))
  else
  (if (v7 &&& (63 : Int32)) = 33 then
  zb1 (zo_rc M p1 12) (fun _ => zbd (zf_X11_strays M p1) (fun M286 v286 =>
  zb1 (zo_rc M286 p2 13) (fun _ => zbd (zf_X12_strays M286 p2) (fun M287 v287 =>
  (if v286 = v287 then
  zf_L_law_J1719 xs L sb M287 p1 p2 l3
  else
  zb1 (zo_b (0 : Int32)) (fun w => some (.inr (.inr (M287, w)))))))))
  else
  (if (v7 &&& (63 : Int32)) = 34 then
  zb1 (zo_rc M p1 12) (fun _ => zbd (zf_X11_month M p1) (fun M290 v290 =>
  zb1 (zo_rc M290 p2 13) (fun _ => zbd (zf_X12_month M290 p2) (fun M291 v291 =>
  (if v290 = v291 then
  zf_L_law_J1719 xs L sb M291 p1 p2 l3
  else
  zb1 (zo_b (0 : Int32)) (fun w => some (.inr (.inr (M291, w)))))))))
  else
  (if (v7 &&& (63 : Int32)) = 35 then
  zb1 (zo_rc M p1 12) (fun _ => zbd (zf_X11_bottlings M p1) (fun M294 v294 =>
  zb1 (zo_rc M294 p2 13) (fun _ => zbd (zf_X12_bottlings M294 p2) (fun M295 v295 =>
  (if v294 = v295 then
  zf_L_law_J1719 xs L sb M295 p1 p2 l3
  else
  zb1 (zo_b (0 : Int32)) (fun w => some (.inr (.inr (M295, w)))))))))
  else
  (if (v7 &&& (63 : Int32)) = 36 then
  zb1 (zo_xs xs L (l3 + (1 : Int32))) (fun v298 =>
  zb1 (zo_xs xs L (l3 + (2 : Int32))) (fun v299 =>
  zb1 (zo_rc M p1 12) (fun _ => zbd (zf_X11_bottling M p1 v298 v299) (fun M300 v300 =>
  zb1 (zo_xs xs L (l3 + (1 : Int32))) (fun v301 =>
  zb1 (zo_xs xs L (l3 + (2 : Int32))) (fun v302 =>
  zb1 (zo_rc M300 p2 13) (fun _ => zbd (zf_X12_bottling M300 p2 v301 v302) (fun M303 v303 =>
  (if v300 = v303 then
  zf_L_law_J1719 xs L sb M303 p1 p2 l3
  else
  zb1 (zo_b (0 : Int32)) (fun w => some (.inr (.inr (M303, w)))))))))))))
  else
  (if (v7 &&& (63 : Int32)) = 37 then
  zb1 (zo_rc M p1 12) (fun _ => zbd (zf_X11_entries M p1) (fun M306 v306 =>
  zb1 (zo_rc M306 p2 13) (fun _ => zbd (zf_X12_entries M306 p2) (fun M307 v307 =>
  (if v306 = v307 then
  zf_L_law_J1719 xs L sb M307 p1 p2 l3
  else
  zb1 (zo_b (0 : Int32)) (fun w => some (.inr (.inr (M307, w)))))))))
  else
  (if (v7 &&& (63 : Int32)) = 38 then
  zb1 (zo_xs xs L (l3 + (1 : Int32))) (fun v310 =>
  zb1 (zo_xs xs L (l3 + (2 : Int32))) (fun v311 =>
  zb1 (zo_rc M p1 12) (fun _ => zbd (zf_X11_entry M p1 v310 v311) (fun M312 v312 =>
  zb1 (zo_xs xs L (l3 + (1 : Int32))) (fun v313 =>
  zb1 (zo_xs xs L (l3 + (2 : Int32))) (fun v314 =>
  zb1 (zo_rc M312 p2 13) (fun _ => zbd (zf_X12_entry M312 p2 v313 v314) (fun M315 v315 =>
  (if v312 = v315 then
  zf_L_law_J1719 xs L sb M315 p1 p2 l3
  else
  zb1 (zo_b (0 : Int32)) (fun w => some (.inr (.inr (M315, w)))))))))))))
  else
  (if (v7 &&& (63 : Int32)) = 39 then
  zb1 (zo_rc M p1 12) (fun _ => zbd (zf_X11_tries M p1) (fun M318 v318 =>
  zb1 (zo_rc M318 p2 13) (fun _ => zbd (zf_X12_tries M318 p2) (fun M319 v319 =>
  (if v318 = v319 then
  zf_L_law_J1719 xs L sb M319 p1 p2 l3
  else
  zb1 (zo_b (0 : Int32)) (fun w => some (.inr (.inr (M319, w)))))))))
  else
  (if (v7 &&& (63 : Int32)) = 40 then
  zb1 (zo_rc M p1 12) (fun _ => zbd (zf_X11_closed M p1) (fun M322 v322 =>
  zb1 (zo_rc M322 p2 13) (fun _ => zbd (zf_X12_closed M322 p2) (fun M323 v323 =>
  (if v322 = v323 then
  zf_L_law_J1719 xs L sb M323 p1 p2 l3
  else
  zb1 (zo_b (0 : Int32)) (fun w => some (.inr (.inr (M323, w)))))))))
  else
  (if (v7 &&& (63 : Int32)) = 41 then
  zb1 (zo_rc M p1 12) (fun _ => zbd (zf_X11_why M p1) (fun M326 v326 =>
  zb1 (zo_rc M326 p2 13) (fun _ => zbd (zf_X12_why M326 p2) (fun M327 v327 =>
  (if v326 = v327 then
  zf_L_law_J1719 xs L sb M327 p1 p2 l3
  else
  zb1 (zo_b (0 : Int32)) (fun w => some (.inr (.inr (M327, w)))))))))
  else
  (if (v7 &&& (63 : Int32)) = 42 then
  zb1 (zo_rc M p1 12) (fun _ => zbd (zf_X11_which M p1) (fun M330 v330 =>
  zb1 (zo_rc M330 p2 13) (fun _ => zbd (zf_X12_which M330 p2) (fun M331 v331 =>
  (if v330 = v331 then
  zf_L_law_J1719 xs L sb M331 p1 p2 l3
  else
  zb1 (zo_b (0 : Int32)) (fun w => some (.inr (.inr (M331, w)))))))))
  else
  (if (v7 &&& (63 : Int32)) = 43 then
  zb1 (zo_xs xs L (l3 + (1 : Int32))) (fun v334 =>
  zb1 (zo_rc M p1 12) (fun _ => zbd (zf_X11_trace M p1 v334) (fun M335 v335 =>
  zb1 (zo_xs xs L (l3 + (1 : Int32))) (fun v336 =>
  zb1 (zo_rc M335 p2 13) (fun _ => zbd (zf_X12_trace M335 p2 v336) (fun M337 v337 =>
  (if v335 = v337 then
  zf_L_law_J1719 xs L sb M337 p1 p2 l3
  else
  zb1 (zo_b (0 : Int32)) (fun w => some (.inr (.inr (M337, w)))))))))))
  else
  (if (v7 &&& (63 : Int32)) = 44 then
  zb1 (zo_rc M p1 12) (fun _ => zbd (zf_X11_picked M p1) (fun M340 v340 =>
  zb1 (zo_rc M340 p2 13) (fun _ => zbd (zf_X12_picked M340 p2) (fun M341 v341 =>
  (if v340 = v341 then
  zf_L_law_J1719 xs L sb M341 p1 p2 l3
  else
  zb1 (zo_b (0 : Int32)) (fun w => some (.inr (.inr (M341, w)))))))))
  else
  (if (v7 &&& (63 : Int32)) = 45 then
  zb1 (zo_xs xs L (l3 + (1 : Int32))) (fun v344 =>
  zb1 (zo_rc M p1 12) (fun _ => zbd (zf_X11_planned M p1 v344) (fun M345 v345 =>
  zb1 (zo_xs xs L (l3 + (1 : Int32))) (fun v346 =>
  zb1 (zo_rc M345 p2 13) (fun _ => zbd (zf_X12_planned M345 p2 v346) (fun M347 v347 =>
  (if v345 = v347 then
  zf_L_law_J1719 xs L sb M347 p1 p2 l3
  else
  zb1 (zo_b (0 : Int32)) (fun w => some (.inr (.inr (M347, w)))))))))))
  else
  (if (v7 &&& (63 : Int32)) = 46 then
  zb1 (zo_rc M p1 12) (fun _ => zbd (zf_X11_digest M p1) (fun M350 v350 =>
  zb1 (zo_rc M350 p2 13) (fun _ => zbd (zf_X12_digest M350 p2) (fun M351 v351 =>
  (if v350 = v351 then
  zf_L_law_J1719 xs L sb M351 p1 p2 l3
  else
  zb1 (zo_b (0 : Int32)) (fun w => some (.inr (.inr (M351, w)))))))))
  else
  zf_L_law_J1719 xs L sb M p1 p2 l3)))))))))))))))))))))))))))))))))))))))))))))))))
def zP_L_law_L18 (sb : Nat) (X : Zx) (p1 : Option Nat) (p2 : Option Nat) (x : Zm × Int32) : Prop := match x with
  | (M, l3) => zV X zC_L_law M 18 [(0, .inr (.inr (some sb))), (1, .inr (.inr p1)), (2, .inr (.inr p2)), (3, .inl l3)] []
def zK_L_law_L18 (sb : Nat) (X : Zx) (p1 : Option Nat) (p2 : Option Nat) (y : (Zm × Int32) ⊕ (Zm × Int32)) : Prop := match y with
  | .inl (M, l3) => zV X zC_L_law M 1725 [] []
  | .inr (M, x) => zRz X zC_L_law M x
noncomputable def zf_L_law (xs : Nat → Int32) (L sb : Nat) (M : Zm) : Option (Zm × Int32) :=
  zb1 (zo_n M 12 20) (fun M1 =>
  zb1 (zo_rc M1 (zm_nx M) 12) (fun _ => zbd (zf_X11_init M1 (zm_nx M)) (fun M2 _ =>
  zb1 (zo_n M2 13 76) (fun M3 =>
  zb1 (zo_rc M3 (zm_nx M2) 13) (fun _ => zbd (zf_X12_init M3 (zm_nx M2)) (fun M4 _ =>
  zb1 (zwhile (zf_L_law_L18 xs L sb (zm_nx M) (zm_nx M2)) (M4, (0 : Int32))) (fun y354 => match y354 with
  | .inl (M18_354, l3_354) =>
  zb1 (zo_b (1 : Int32)) (fun w => some (M18_354, w))
  | .inr q => some q)))))))
set_option maxHeartbeats 40000000 in
set_option maxRecDepth 100000 in
theorem zt_L_law_J1719 {X : Zx} {xs : Nat → Int32} {L sb : Nat} (hscr : zScr X sb L xs) {M : Zm} {p1 : Option Nat} {p2 : Option Nat} {l3 : Int32} {z : (Zm × Int32) ⊕ ((Zm × Int32) ⊕ (Zm × Int32))} (h : zf_L_law_J1719 xs L sb M p1 p2 l3 = some z) (k1 : ∀ x' : Zm × Int32, z = .inl x' → zP_L_law_L18 sb X p1 p2 x') (k2 : ∀ y : (Zm × Int32) ⊕ (Zm × Int32), z = .inr y → zK_L_law_L18 sb X p1 p2 y) : zV X zC_L_law M 1719 [(0, .inr (.inr (some sb))), (1, .inr (.inr p1)), (2, .inr (.inr p2)), (3, .inl l3)] [] := by
  unfold zf_L_law_J1719 at h
  refine zV_b (pc' := 1722) (lv' := [(3, .inl (l3 + 6)), (0, .inr (.inr (some sb))), (1, .inr (.inr p1)), (2, .inr (.inr p2))]) (st' := []) [(.iinc 3 6, 3)] (by decide +kernel) rfl ?_
  refine zV_goto (off := (-1704)) (tgt := 18) (by decide +kernel) (by decide) ?_
  exact zV_lv (lv' := [(0, .inr (.inr (some sb))), (1, .inr (.inr p1)), (2, .inr (.inr p2)), (3, .inl (l3 + 6))]) [1, 2, 3, 0] rfl (k1 _ (Option.some.inj h).symm)
set_option maxHeartbeats 40000000 in
set_option maxRecDepth 100000 in
theorem zt_L_law_L18 {X : Zx} {xs : Nat → Int32} {L sb : Nat} (hscr : zScr X sb L xs) {p1 : Option Nat} {p2 : Option Nat} {x : Zm × Int32} {y : (Zm × Int32) ⊕ (Zm × Int32)} (h : zwhile (zf_L_law_L18 xs L sb p1 p2) x = some y) (hy : zK_L_law_L18 sb X p1 p2 y) : zP_L_law_L18 sb X p1 p2 x := by
  refine zwhile_ind (P := zP_L_law_L18 sb X p1 p2) (K := zK_L_law_L18 sb X p1 p2) ?_ h hy
  intro x z hf k1 k2
  obtain ⟨M, l3⟩ := x
  have h : zf_L_law_L18 xs L sb p1 p2 (M, l3) = some z := hf
  unfold zf_L_law_L18 at h
  show zV X zC_L_law M 18 [(0, .inr (.inr (some sb))), (1, .inr (.inr p1)), (2, .inr (.inr p2)), (3, .inl l3)] []
  refine zV_b (pc' := 20) (lv' := [(0, .inr (.inr (some sb))), (1, .inr (.inr p1)), (2, .inr (.inr p2)), (3, .inl l3)]) (st' := [.inr (.inr (some sb)), .inl l3]) [(.iload_n 3, 1), (.aload_n 0, 1)] (by decide +kernel) rfl ?_
  refine zV_xn hscr (by decide +kernel) ?_
  refine zV_b (pc' := 24) (lv' := [(0, .inr (.inr (some sb))), (1, .inr (.inr p1)), (2, .inr (.inr p2)), (3, .inl l3)]) (st' := [.inl ((Int32.ofNat L) - (6 : Int32)), .inl l3]) [(.bipush 6, 2), (.isub, 1)] (by decide +kernel) rfl ?_
  refine zV_icmp_gt (off := 1701) (tgt := 1725) (by decide +kernel) (by decide) h (fun c6 h => ?_) (fun c6 h => ?_)
  · exact zV_lv (lv' := []) [] rfl (k2 _ (Option.some.inj h).symm)
  · refine zV_b (pc' := 29) (lv' := [(0, .inr (.inr (some sb))), (1, .inr (.inr p1)), (2, .inr (.inr p2)), (3, .inl l3)]) (st' := [.inl l3, .inr (.inr (some sb))]) [(.aload_n 0, 1), (.iload_n 3, 1)] (by decide +kernel) rfl ?_
    refine zV_xs hscr (by decide +kernel) h (fun v7 _ h => ?_)
    refine zV_b (pc' := 33) (lv' := [(0, .inr (.inr (some sb))), (1, .inr (.inr p1)), (2, .inr (.inr p2)), (3, .inl l3)]) (st' := [.inl (v7 &&& (63 : Int32))]) [(.bipush 63, 2), (.iand, 1)] (by decide +kernel) rfl ?_
    by_cases e8_0 : (v7 &&& (63 : Int32)) = 0
    · have h := (zite h).1 e8_0
      refine zV_top e8_0 (zV_tin (tgt := 236) zd_L_law_33 (by decide) (by decide) rfl (by decide) ?_)
      refine zV_b (pc' := 241) (lv' := [(0, .inr (.inr (some sb))), (1, .inr (.inr p1)), (2, .inr (.inr p2)), (3, .inl l3)]) (st' := [.inl (l3 + (1 : Int32)), .inr (.inr (some sb)), .inr (.inr p1)]) [(.aload_n 1, 1), (.aload_n 0, 1), (.iload_n 3, 1), (.iconst 1, 1), (.iadd, 1)] (by decide +kernel) rfl ?_
      refine zV_xs hscr (by decide +kernel) h (fun v10 _ h => ?_)
      refine zV_b (pc' := 246) (lv' := [(0, .inr (.inr (some sb))), (1, .inr (.inr p1)), (2, .inr (.inr p2)), (3, .inl l3)]) (st' := [.inl (l3 + (2 : Int32)), .inr (.inr (some sb)), .inl v10, .inr (.inr p1)]) [(.aload_n 0, 1), (.iload_n 3, 1), (.iconst 2, 1), (.iadd, 1)] (by decide +kernel) rfl ?_
      refine zV_xs hscr (by decide +kernel) h (fun v11 _ h => ?_)
      refine zV_b (pc' := 251) (lv' := [(0, .inr (.inr (some sb))), (1, .inr (.inr p1)), (2, .inr (.inr p2)), (3, .inl l3)]) (st' := [.inl (l3 + (3 : Int32)), .inr (.inr (some sb)), .inl v11, .inl v10, .inr (.inr p1)]) [(.aload_n 0, 1), (.iload_n 3, 1), (.iconst 3, 1), (.iadd, 1)] (by decide +kernel) rfl ?_
      refine zV_xs hscr (by decide +kernel) h (fun v12 _ h => ?_)
      refine zV_cvj (As := [.inl v10, .inl v11, .inl v12]) (st := []) (c := 12) (by decide +kernel) (zcl_X11_row (by decide) (by decide)) ⟨zw_449, zw_450, zw_451⟩ ⟨⟨_, _, rfl⟩, by decide⟩ rfl rfl (Nat.le_of_ble_eq_true rfl) h (fun _ _ e => zc_X11_row e) (fun M13 v13 _ h => ?_)
      refine zV_b (pc' := 260) (lv' := [(0, .inr (.inr (some sb))), (1, .inr (.inr p1)), (2, .inr (.inr p2)), (3, .inl l3)]) (st' := [.inl (l3 + (1 : Int32)), .inr (.inr (some sb)), .inr (.inr p2), .inr (.inl v13)]) [(.aload_n 2, 1), (.aload_n 0, 1), (.iload_n 3, 1), (.iconst 1, 1), (.iadd, 1)] (by decide +kernel) rfl ?_
      refine zV_xs hscr (by decide +kernel) h (fun v14 _ h => ?_)
      refine zV_b (pc' := 265) (lv' := [(0, .inr (.inr (some sb))), (1, .inr (.inr p1)), (2, .inr (.inr p2)), (3, .inl l3)]) (st' := [.inl (l3 + (2 : Int32)), .inr (.inr (some sb)), .inl v14, .inr (.inr p2), .inr (.inl v13)]) [(.aload_n 0, 1), (.iload_n 3, 1), (.iconst 2, 1), (.iadd, 1)] (by decide +kernel) rfl ?_
      refine zV_xs hscr (by decide +kernel) h (fun v15 _ h => ?_)
      refine zV_b (pc' := 270) (lv' := [(0, .inr (.inr (some sb))), (1, .inr (.inr p1)), (2, .inr (.inr p2)), (3, .inl l3)]) (st' := [.inl (l3 + (3 : Int32)), .inr (.inr (some sb)), .inl v15, .inl v14, .inr (.inr p2), .inr (.inl v13)]) [(.aload_n 0, 1), (.iload_n 3, 1), (.iconst 3, 1), (.iadd, 1)] (by decide +kernel) rfl ?_
      refine zV_xs hscr (by decide +kernel) h (fun v16 _ h => ?_)
      refine zV_cvj (As := [.inl v14, .inl v15, .inl v16]) (st := [.inr (.inl v13)]) (c := 13) (by decide +kernel) (zcl_X12_row (by decide) (by decide)) ⟨zw_1669, zw_1670, zw_1671⟩ ⟨⟨_, _, rfl⟩, by decide⟩ rfl rfl (Nat.le_of_ble_eq_true rfl) h (fun _ _ e => zc_X12_row e) (fun M17 v17 _ h => ?_)
      refine zV_lcmp_eq (off := 1444) (tgt := 1719) (by decide +kernel) (by decide +kernel) (by decide) h (fun c18 h => ?_) (fun c18 h => ?_)
      · exact zV_lv (lv' := [(0, .inr (.inr (some sb))), (1, .inr (.inr p1)), (2, .inr (.inr p2)), (3, .inl l3)]) [0, 1, 2, 3] rfl (zt_L_law_J1719 hscr h k1 k2)
      · refine zV_b (pc' := 279) (lv' := [(0, .inr (.inr (some sb))), (1, .inr (.inr p1)), (2, .inr (.inr p2)), (3, .inl l3)]) (st' := [.inl (0 : Int32)]) [(.iconst 0, 1)] (by decide +kernel) rfl ?_
        obtain ⟨w, ew, h⟩ := zb1_inv h
        obtain ⟨rfl, hv⟩ := zo_b_inv ew
        have hq : zRz X zC_L_law M17 (0 : Int32) := k2 _ (Option.some.inj h).symm
        exact hq hv _ _ (by decide +kernel)
    · have h := (zite h).2 e8_0
      by_cases e8_1 : (v7 &&& (63 : Int32)) = 1
      · have h := (zite h).1 e8_1
        refine zV_top e8_1 (zV_tin (tgt := 280) zd_L_law_33 (by decide) (by decide) rfl (by decide) ?_)
        refine zV_b (pc' := 285) (lv' := [(0, .inr (.inr (some sb))), (1, .inr (.inr p1)), (2, .inr (.inr p2)), (3, .inl l3)]) (st' := [.inl (l3 + (1 : Int32)), .inr (.inr (some sb)), .inr (.inr p1)]) [(.aload_n 1, 1), (.aload_n 0, 1), (.iload_n 3, 1), (.iconst 1, 1), (.iadd, 1)] (by decide +kernel) rfl ?_
        refine zV_xs hscr (by decide +kernel) h (fun v20 _ h => ?_)
        refine zV_b (pc' := 290) (lv' := [(0, .inr (.inr (some sb))), (1, .inr (.inr p1)), (2, .inr (.inr p2)), (3, .inl l3)]) (st' := [.inl (l3 + (2 : Int32)), .inr (.inr (some sb)), .inl v20, .inr (.inr p1)]) [(.aload_n 0, 1), (.iload_n 3, 1), (.iconst 2, 1), (.iadd, 1)] (by decide +kernel) rfl ?_
        refine zV_xs hscr (by decide +kernel) h (fun v21 _ h => ?_)
        refine zV_b (pc' := 295) (lv' := [(0, .inr (.inr (some sb))), (1, .inr (.inr p1)), (2, .inr (.inr p2)), (3, .inl l3)]) (st' := [.inl (l3 + (3 : Int32)), .inr (.inr (some sb)), .inl v21, .inl v20, .inr (.inr p1)]) [(.aload_n 0, 1), (.iload_n 3, 1), (.iconst 3, 1), (.iadd, 1)] (by decide +kernel) rfl ?_
        refine zV_xs hscr (by decide +kernel) h (fun v22 _ h => ?_)
        refine zV_cvj (As := [.inl v20, .inl v21, .inl v22]) (st := []) (c := 12) (by decide +kernel) (zcl_X11_barrel (by decide) (by decide)) ⟨zw_514, zw_515, zw_516⟩ ⟨⟨_, _, rfl⟩, by decide⟩ rfl rfl (Nat.le_of_ble_eq_true rfl) h (fun _ _ e => zc_X11_barrel e) (fun M23 v23 _ h => ?_)
        refine zV_b (pc' := 304) (lv' := [(0, .inr (.inr (some sb))), (1, .inr (.inr p1)), (2, .inr (.inr p2)), (3, .inl l3)]) (st' := [.inl (l3 + (1 : Int32)), .inr (.inr (some sb)), .inr (.inr p2), .inr (.inl v23)]) [(.aload_n 2, 1), (.aload_n 0, 1), (.iload_n 3, 1), (.iconst 1, 1), (.iadd, 1)] (by decide +kernel) rfl ?_
        refine zV_xs hscr (by decide +kernel) h (fun v24 _ h => ?_)
        refine zV_b (pc' := 309) (lv' := [(0, .inr (.inr (some sb))), (1, .inr (.inr p1)), (2, .inr (.inr p2)), (3, .inl l3)]) (st' := [.inl (l3 + (2 : Int32)), .inr (.inr (some sb)), .inl v24, .inr (.inr p2), .inr (.inl v23)]) [(.aload_n 0, 1), (.iload_n 3, 1), (.iconst 2, 1), (.iadd, 1)] (by decide +kernel) rfl ?_
        refine zV_xs hscr (by decide +kernel) h (fun v25 _ h => ?_)
        refine zV_b (pc' := 314) (lv' := [(0, .inr (.inr (some sb))), (1, .inr (.inr p1)), (2, .inr (.inr p2)), (3, .inl l3)]) (st' := [.inl (l3 + (3 : Int32)), .inr (.inr (some sb)), .inl v25, .inl v24, .inr (.inr p2), .inr (.inl v23)]) [(.aload_n 0, 1), (.iload_n 3, 1), (.iconst 3, 1), (.iadd, 1)] (by decide +kernel) rfl ?_
        refine zV_xs hscr (by decide +kernel) h (fun v26 _ h => ?_)
        refine zV_cvj (As := [.inl v24, .inl v25, .inl v26]) (st := [.inr (.inl v23)]) (c := 13) (by decide +kernel) (zcl_X12_barrel (by decide) (by decide)) ⟨zw_1685, zw_1686, zw_1687⟩ ⟨⟨_, _, rfl⟩, by decide⟩ rfl rfl (Nat.le_of_ble_eq_true rfl) h (fun _ _ e => zc_X12_barrel e) (fun M27 v27 _ h => ?_)
        refine zV_lcmp_eq (off := 1400) (tgt := 1719) (by decide +kernel) (by decide +kernel) (by decide) h (fun c28 h => ?_) (fun c28 h => ?_)
        · exact zV_lv (lv' := [(0, .inr (.inr (some sb))), (1, .inr (.inr p1)), (2, .inr (.inr p2)), (3, .inl l3)]) [0, 1, 2, 3] rfl (zt_L_law_J1719 hscr h k1 k2)
        · refine zV_b (pc' := 323) (lv' := [(0, .inr (.inr (some sb))), (1, .inr (.inr p1)), (2, .inr (.inr p2)), (3, .inl l3)]) (st' := [.inl (0 : Int32)]) [(.iconst 0, 1)] (by decide +kernel) rfl ?_
          obtain ⟨w, ew, h⟩ := zb1_inv h
          obtain ⟨rfl, hv⟩ := zo_b_inv ew
          have hq : zRz X zC_L_law M27 (0 : Int32) := k2 _ (Option.some.inj h).symm
          exact hq hv _ _ (by decide +kernel)
      · have h := (zite h).2 e8_1
        by_cases e8_2 : (v7 &&& (63 : Int32)) = 2
        · have h := (zite h).1 e8_2
          refine zV_top e8_2 (zV_tin (tgt := 324) zd_L_law_33 (by decide) (by decide) rfl (by decide) ?_)
          refine zV_b (pc' := 329) (lv' := [(0, .inr (.inr (some sb))), (1, .inr (.inr p1)), (2, .inr (.inr p2)), (3, .inl l3)]) (st' := [.inl (l3 + (1 : Int32)), .inr (.inr (some sb)), .inr (.inr p1)]) [(.aload_n 1, 1), (.aload_n 0, 1), (.iload_n 3, 1), (.iconst 1, 1), (.iadd, 1)] (by decide +kernel) rfl ?_
          refine zV_xs hscr (by decide +kernel) h (fun v30 _ h => ?_)
          refine zV_b (pc' := 334) (lv' := [(0, .inr (.inr (some sb))), (1, .inr (.inr p1)), (2, .inr (.inr p2)), (3, .inl l3)]) (st' := [.inl (l3 + (2 : Int32)), .inr (.inr (some sb)), .inl v30, .inr (.inr p1)]) [(.aload_n 0, 1), (.iload_n 3, 1), (.iconst 2, 1), (.iadd, 1)] (by decide +kernel) rfl ?_
          refine zV_xs hscr (by decide +kernel) h (fun v31 _ h => ?_)
          refine zV_cvj (As := [.inl v30, .inl v31]) (st := []) (c := 12) (by decide +kernel) (zcl_X11_join (by decide) (by decide)) ⟨zw_654, zw_655, zw_656⟩ ⟨⟨_, _, rfl⟩, by decide⟩ rfl rfl (Nat.le_of_ble_eq_true rfl) h (fun _ _ e => zc_X11_join e) (fun M32 v32 _ h => ?_)
          refine zV_b (pc' := 343) (lv' := [(0, .inr (.inr (some sb))), (1, .inr (.inr p1)), (2, .inr (.inr p2)), (3, .inl l3)]) (st' := [.inl (l3 + (1 : Int32)), .inr (.inr (some sb)), .inr (.inr p2), .inr (.inl v32)]) [(.aload_n 2, 1), (.aload_n 0, 1), (.iload_n 3, 1), (.iconst 1, 1), (.iadd, 1)] (by decide +kernel) rfl ?_
          refine zV_xs hscr (by decide +kernel) h (fun v33 _ h => ?_)
          refine zV_b (pc' := 348) (lv' := [(0, .inr (.inr (some sb))), (1, .inr (.inr p1)), (2, .inr (.inr p2)), (3, .inl l3)]) (st' := [.inl (l3 + (2 : Int32)), .inr (.inr (some sb)), .inl v33, .inr (.inr p2), .inr (.inl v32)]) [(.aload_n 0, 1), (.iload_n 3, 1), (.iconst 2, 1), (.iadd, 1)] (by decide +kernel) rfl ?_
          refine zV_xs hscr (by decide +kernel) h (fun v34 _ h => ?_)
          refine zV_cvj (As := [.inl v33, .inl v34]) (st := [.inr (.inl v32)]) (c := 13) (by decide +kernel) (zcl_X12_join (by decide) (by decide)) ⟨zw_1691, zw_1692, zw_1693⟩ ⟨⟨_, _, rfl⟩, by decide⟩ rfl rfl (Nat.le_of_ble_eq_true rfl) h (fun _ _ e => zc_X12_join e) (fun M35 v35 _ h => ?_)
          refine zV_lcmp_eq (off := 1366) (tgt := 1719) (by decide +kernel) (by decide +kernel) (by decide) h (fun c36 h => ?_) (fun c36 h => ?_)
          · exact zV_lv (lv' := [(0, .inr (.inr (some sb))), (1, .inr (.inr p1)), (2, .inr (.inr p2)), (3, .inl l3)]) [0, 1, 2, 3] rfl (zt_L_law_J1719 hscr h k1 k2)
          · refine zV_b (pc' := 357) (lv' := [(0, .inr (.inr (some sb))), (1, .inr (.inr p1)), (2, .inr (.inr p2)), (3, .inl l3)]) (st' := [.inl (0 : Int32)]) [(.iconst 0, 1)] (by decide +kernel) rfl ?_
            obtain ⟨w, ew, h⟩ := zb1_inv h
            obtain ⟨rfl, hv⟩ := zo_b_inv ew
            have hq : zRz X zC_L_law M35 (0 : Int32) := k2 _ (Option.some.inj h).symm
            exact hq hv _ _ (by decide +kernel)
        · have h := (zite h).2 e8_2
          by_cases e8_3 : (v7 &&& (63 : Int32)) = 3
          · have h := (zite h).1 e8_3
            refine zV_top e8_3 (zV_tin (tgt := 358) zd_L_law_33 (by decide) (by decide) rfl (by decide) ?_)
            refine zV_b (pc' := 363) (lv' := [(0, .inr (.inr (some sb))), (1, .inr (.inr p1)), (2, .inr (.inr p2)), (3, .inl l3)]) (st' := [.inl (l3 + (1 : Int32)), .inr (.inr (some sb)), .inr (.inr p1)]) [(.aload_n 1, 1), (.aload_n 0, 1), (.iload_n 3, 1), (.iconst 1, 1), (.iadd, 1)] (by decide +kernel) rfl ?_
            refine zV_xs hscr (by decide +kernel) h (fun v38 _ h => ?_)
            refine zV_cvj (As := [.inl v38]) (st := []) (c := 12) (by decide +kernel) (zcl_X11_leave (by decide) (by decide)) ⟨zw_714, zw_715, zw_716⟩ ⟨⟨_, _, rfl⟩, by decide⟩ rfl rfl (Nat.le_of_ble_eq_true rfl) h (fun _ _ e => zc_X11_leave e) (fun M39 v39 _ h => ?_)
            refine zV_b (pc' := 372) (lv' := [(0, .inr (.inr (some sb))), (1, .inr (.inr p1)), (2, .inr (.inr p2)), (3, .inl l3)]) (st' := [.inl (l3 + (1 : Int32)), .inr (.inr (some sb)), .inr (.inr p2), .inr (.inl v39)]) [(.aload_n 2, 1), (.aload_n 0, 1), (.iload_n 3, 1), (.iconst 1, 1), (.iadd, 1)] (by decide +kernel) rfl ?_
            refine zV_xs hscr (by decide +kernel) h (fun v40 _ h => ?_)
            refine zV_cvj (As := [.inl v40]) (st := [.inr (.inl v39)]) (c := 13) (by decide +kernel) (zcl_X12_leave (by decide) (by decide)) ⟨zw_1703, zw_1704, zw_1705⟩ ⟨⟨_, _, rfl⟩, by decide⟩ rfl rfl (Nat.le_of_ble_eq_true rfl) h (fun _ _ e => zc_X12_leave e) (fun M41 v41 _ h => ?_)
            refine zV_lcmp_eq (off := 1342) (tgt := 1719) (by decide +kernel) (by decide +kernel) (by decide) h (fun c42 h => ?_) (fun c42 h => ?_)
            · exact zV_lv (lv' := [(0, .inr (.inr (some sb))), (1, .inr (.inr p1)), (2, .inr (.inr p2)), (3, .inl l3)]) [0, 1, 2, 3] rfl (zt_L_law_J1719 hscr h k1 k2)
            · refine zV_b (pc' := 381) (lv' := [(0, .inr (.inr (some sb))), (1, .inr (.inr p1)), (2, .inr (.inr p2)), (3, .inl l3)]) (st' := [.inl (0 : Int32)]) [(.iconst 0, 1)] (by decide +kernel) rfl ?_
              obtain ⟨w, ew, h⟩ := zb1_inv h
              obtain ⟨rfl, hv⟩ := zo_b_inv ew
              have hq : zRz X zC_L_law M41 (0 : Int32) := k2 _ (Option.some.inj h).symm
              exact hq hv _ _ (by decide +kernel)
          · have h := (zite h).2 e8_3
            by_cases e8_4 : (v7 &&& (63 : Int32)) = 4
            · have h := (zite h).1 e8_4
              refine zV_top e8_4 (zV_tin (tgt := 382) zd_L_law_33 (by decide) (by decide) rfl (by decide) ?_)
              refine zV_b (pc' := 387) (lv' := [(0, .inr (.inr (some sb))), (1, .inr (.inr p1)), (2, .inr (.inr p2)), (3, .inl l3)]) (st' := [.inl (l3 + (1 : Int32)), .inr (.inr (some sb)), .inr (.inr p1)]) [(.aload_n 1, 1), (.aload_n 0, 1), (.iload_n 3, 1), (.iconst 1, 1), (.iadd, 1)] (by decide +kernel) rfl ?_
              refine zV_xs hscr (by decide +kernel) h (fun v44 _ h => ?_)
              refine zV_b (pc' := 392) (lv' := [(0, .inr (.inr (some sb))), (1, .inr (.inr p1)), (2, .inr (.inr p2)), (3, .inl l3)]) (st' := [.inl (l3 + (2 : Int32)), .inr (.inr (some sb)), .inl v44, .inr (.inr p1)]) [(.aload_n 0, 1), (.iload_n 3, 1), (.iconst 2, 1), (.iadd, 1)] (by decide +kernel) rfl ?_
              refine zV_xs hscr (by decide +kernel) h (fun v45 _ h => ?_)
              refine zV_b (pc' := 397) (lv' := [(0, .inr (.inr (some sb))), (1, .inr (.inr p1)), (2, .inr (.inr p2)), (3, .inl l3)]) (st' := [.inl (l3 + (3 : Int32)), .inr (.inr (some sb)), .inl v45, .inl v44, .inr (.inr p1)]) [(.aload_n 0, 1), (.iload_n 3, 1), (.iconst 3, 1), (.iadd, 1)] (by decide +kernel) rfl ?_
              refine zV_xs hscr (by decide +kernel) h (fun v46 _ h => ?_)
              refine zV_cvj (As := [.inl v44, .inl v45, .inl v46]) (st := []) (c := 12) (by decide +kernel) (zcl_X11_lay (by decide) (by decide)) ⟨zw_722, zw_723, zw_724⟩ ⟨⟨_, _, rfl⟩, by decide⟩ rfl rfl (Nat.le_of_ble_eq_true rfl) h (fun _ _ e => zc_X11_lay e) (fun M47 v47 _ h => ?_)
              refine zV_b (pc' := 406) (lv' := [(0, .inr (.inr (some sb))), (1, .inr (.inr p1)), (2, .inr (.inr p2)), (3, .inl l3)]) (st' := [.inl (l3 + (1 : Int32)), .inr (.inr (some sb)), .inr (.inr p2), .inr (.inl v47)]) [(.aload_n 2, 1), (.aload_n 0, 1), (.iload_n 3, 1), (.iconst 1, 1), (.iadd, 1)] (by decide +kernel) rfl ?_
              refine zV_xs hscr (by decide +kernel) h (fun v48 _ h => ?_)
              refine zV_b (pc' := 411) (lv' := [(0, .inr (.inr (some sb))), (1, .inr (.inr p1)), (2, .inr (.inr p2)), (3, .inl l3)]) (st' := [.inl (l3 + (2 : Int32)), .inr (.inr (some sb)), .inl v48, .inr (.inr p2), .inr (.inl v47)]) [(.aload_n 0, 1), (.iload_n 3, 1), (.iconst 2, 1), (.iadd, 1)] (by decide +kernel) rfl ?_
              refine zV_xs hscr (by decide +kernel) h (fun v49 _ h => ?_)
              refine zV_b (pc' := 416) (lv' := [(0, .inr (.inr (some sb))), (1, .inr (.inr p1)), (2, .inr (.inr p2)), (3, .inl l3)]) (st' := [.inl (l3 + (3 : Int32)), .inr (.inr (some sb)), .inl v49, .inl v48, .inr (.inr p2), .inr (.inl v47)]) [(.aload_n 0, 1), (.iload_n 3, 1), (.iconst 3, 1), (.iadd, 1)] (by decide +kernel) rfl ?_
              refine zV_xs hscr (by decide +kernel) h (fun v50 _ h => ?_)
              refine zV_cvj (As := [.inl v48, .inl v49, .inl v50]) (st := [.inr (.inl v47)]) (c := 13) (by decide +kernel) (zcl_X12_lay (by decide) (by decide)) ⟨zw_1707, zw_1708, zw_1709⟩ ⟨⟨_, _, rfl⟩, by decide⟩ rfl rfl (Nat.le_of_ble_eq_true rfl) h (fun _ _ e => zc_X12_lay e) (fun M51 v51 _ h => ?_)
              refine zV_lcmp_eq (off := 1298) (tgt := 1719) (by decide +kernel) (by decide +kernel) (by decide) h (fun c52 h => ?_) (fun c52 h => ?_)
              · exact zV_lv (lv' := [(0, .inr (.inr (some sb))), (1, .inr (.inr p1)), (2, .inr (.inr p2)), (3, .inl l3)]) [0, 1, 2, 3] rfl (zt_L_law_J1719 hscr h k1 k2)
              · refine zV_b (pc' := 425) (lv' := [(0, .inr (.inr (some sb))), (1, .inr (.inr p1)), (2, .inr (.inr p2)), (3, .inl l3)]) (st' := [.inl (0 : Int32)]) [(.iconst 0, 1)] (by decide +kernel) rfl ?_
                obtain ⟨w, ew, h⟩ := zb1_inv h
                obtain ⟨rfl, hv⟩ := zo_b_inv ew
                have hq : zRz X zC_L_law M51 (0 : Int32) := k2 _ (Option.some.inj h).symm
                exact hq hv _ _ (by decide +kernel)
            · have h := (zite h).2 e8_4
              by_cases e8_5 : (v7 &&& (63 : Int32)) = 5
              · have h := (zite h).1 e8_5
                refine zV_top e8_5 (zV_tin (tgt := 426) zd_L_law_33 (by decide) (by decide) rfl (by decide) ?_)
                refine zV_b (pc' := 431) (lv' := [(0, .inr (.inr (some sb))), (1, .inr (.inr p1)), (2, .inr (.inr p2)), (3, .inl l3)]) (st' := [.inl (l3 + (1 : Int32)), .inr (.inr (some sb)), .inr (.inr p1)]) [(.aload_n 1, 1), (.aload_n 0, 1), (.iload_n 3, 1), (.iconst 1, 1), (.iadd, 1)] (by decide +kernel) rfl ?_
                refine zV_xs hscr (by decide +kernel) h (fun v54 _ h => ?_)
                refine zV_b (pc' := 436) (lv' := [(0, .inr (.inr (some sb))), (1, .inr (.inr p1)), (2, .inr (.inr p2)), (3, .inl l3)]) (st' := [.inl (l3 + (2 : Int32)), .inr (.inr (some sb)), .inl v54, .inr (.inr p1)]) [(.aload_n 0, 1), (.iload_n 3, 1), (.iconst 2, 1), (.iadd, 1)] (by decide +kernel) rfl ?_
                refine zV_xs hscr (by decide +kernel) h (fun v55 _ h => ?_)
                refine zV_cvj (As := [.inl v54, .inl v55]) (st := []) (c := 12) (by decide +kernel) (zcl_X11_lift (by decide) (by decide)) ⟨zw_743, zw_744, zw_745⟩ ⟨⟨_, _, rfl⟩, by decide⟩ rfl rfl (Nat.le_of_ble_eq_true rfl) h (fun _ _ e => zc_X11_lift e) (fun M56 v56 _ h => ?_)
                refine zV_b (pc' := 445) (lv' := [(0, .inr (.inr (some sb))), (1, .inr (.inr p1)), (2, .inr (.inr p2)), (3, .inl l3)]) (st' := [.inl (l3 + (1 : Int32)), .inr (.inr (some sb)), .inr (.inr p2), .inr (.inl v56)]) [(.aload_n 2, 1), (.aload_n 0, 1), (.iload_n 3, 1), (.iconst 1, 1), (.iadd, 1)] (by decide +kernel) rfl ?_
                refine zV_xs hscr (by decide +kernel) h (fun v57 _ h => ?_)
                refine zV_b (pc' := 450) (lv' := [(0, .inr (.inr (some sb))), (1, .inr (.inr p1)), (2, .inr (.inr p2)), (3, .inl l3)]) (st' := [.inl (l3 + (2 : Int32)), .inr (.inr (some sb)), .inl v57, .inr (.inr p2), .inr (.inl v56)]) [(.aload_n 0, 1), (.iload_n 3, 1), (.iconst 2, 1), (.iadd, 1)] (by decide +kernel) rfl ?_
                refine zV_xs hscr (by decide +kernel) h (fun v58 _ h => ?_)
                refine zV_cvj (As := [.inl v57, .inl v58]) (st := [.inr (.inl v56)]) (c := 13) (by decide +kernel) (zcl_X12_lift (by decide) (by decide)) ⟨zw_1722, zw_1723, zw_1724⟩ ⟨⟨_, _, rfl⟩, by decide⟩ rfl rfl (Nat.le_of_ble_eq_true rfl) h (fun _ _ e => zc_X12_lift e) (fun M59 v59 _ h => ?_)
                refine zV_lcmp_eq (off := 1264) (tgt := 1719) (by decide +kernel) (by decide +kernel) (by decide) h (fun c60 h => ?_) (fun c60 h => ?_)
                · exact zV_lv (lv' := [(0, .inr (.inr (some sb))), (1, .inr (.inr p1)), (2, .inr (.inr p2)), (3, .inl l3)]) [0, 1, 2, 3] rfl (zt_L_law_J1719 hscr h k1 k2)
                · refine zV_b (pc' := 459) (lv' := [(0, .inr (.inr (some sb))), (1, .inr (.inr p1)), (2, .inr (.inr p2)), (3, .inl l3)]) (st' := [.inl (0 : Int32)]) [(.iconst 0, 1)] (by decide +kernel) rfl ?_
                  obtain ⟨w, ew, h⟩ := zb1_inv h
                  obtain ⟨rfl, hv⟩ := zo_b_inv ew
                  have hq : zRz X zC_L_law M59 (0 : Int32) := k2 _ (Option.some.inj h).symm
                  exact hq hv _ _ (by decide +kernel)
              · have h := (zite h).2 e8_5
                by_cases e8_6 : (v7 &&& (63 : Int32)) = 6
                · have h := (zite h).1 e8_6
                  refine zV_top e8_6 (zV_tin (tgt := 460) zd_L_law_33 (by decide) (by decide) rfl (by decide) ?_)
                  refine zV_b (pc' := 465) (lv' := [(0, .inr (.inr (some sb))), (1, .inr (.inr p1)), (2, .inr (.inr p2)), (3, .inl l3)]) (st' := [.inl (l3 + (1 : Int32)), .inr (.inr (some sb)), .inr (.inr p1)]) [(.aload_n 1, 1), (.aload_n 0, 1), (.iload_n 3, 1), (.iconst 1, 1), (.iadd, 1)] (by decide +kernel) rfl ?_
                  refine zV_xs hscr (by decide +kernel) h (fun v62 _ h => ?_)
                  refine zV_b (pc' := 470) (lv' := [(0, .inr (.inr (some sb))), (1, .inr (.inr p1)), (2, .inr (.inr p2)), (3, .inl l3)]) (st' := [.inl (l3 + (2 : Int32)), .inr (.inr (some sb)), .inl v62, .inr (.inr p1)]) [(.aload_n 0, 1), (.iload_n 3, 1), (.iconst 2, 1), (.iadd, 1)] (by decide +kernel) rfl ?_
                  refine zV_xs hscr (by decide +kernel) h (fun v63 _ h => ?_)
                  refine zV_cvj (As := [.inl v62, .inl v63]) (st := []) (c := 12) (by decide +kernel) (zcl_X11_worth (by decide) (by decide)) ⟨zw_756, zw_757, zw_758⟩ ⟨⟨_, _, rfl⟩, by decide⟩ rfl rfl (Nat.le_of_ble_eq_true rfl) h (fun _ _ e => zc_X11_worth e) (fun M64 v64 _ h => ?_)
                  refine zV_b (pc' := 479) (lv' := [(0, .inr (.inr (some sb))), (1, .inr (.inr p1)), (2, .inr (.inr p2)), (3, .inl l3)]) (st' := [.inl (l3 + (1 : Int32)), .inr (.inr (some sb)), .inr (.inr p2), .inr (.inl v64)]) [(.aload_n 2, 1), (.aload_n 0, 1), (.iload_n 3, 1), (.iconst 1, 1), (.iadd, 1)] (by decide +kernel) rfl ?_
                  refine zV_xs hscr (by decide +kernel) h (fun v65 _ h => ?_)
                  refine zV_b (pc' := 484) (lv' := [(0, .inr (.inr (some sb))), (1, .inr (.inr p1)), (2, .inr (.inr p2)), (3, .inl l3)]) (st' := [.inl (l3 + (2 : Int32)), .inr (.inr (some sb)), .inl v65, .inr (.inr p2), .inr (.inl v64)]) [(.aload_n 0, 1), (.iload_n 3, 1), (.iconst 2, 1), (.iadd, 1)] (by decide +kernel) rfl ?_
                  refine zV_xs hscr (by decide +kernel) h (fun v66 _ h => ?_)
                  refine zV_cvj (As := [.inl v65, .inl v66]) (st := [.inr (.inl v64)]) (c := 13) (by decide +kernel) (zcl_X12_worth (by decide) (by decide)) ⟨zw_1726, zw_1727, zw_1728⟩ ⟨⟨_, _, rfl⟩, by decide⟩ rfl rfl (Nat.le_of_ble_eq_true rfl) h (fun _ _ e => zc_X12_worth e) (fun M67 v67 _ h => ?_)
                  refine zV_lcmp_eq (off := 1230) (tgt := 1719) (by decide +kernel) (by decide +kernel) (by decide) h (fun c68 h => ?_) (fun c68 h => ?_)
                  · exact zV_lv (lv' := [(0, .inr (.inr (some sb))), (1, .inr (.inr p1)), (2, .inr (.inr p2)), (3, .inl l3)]) [0, 1, 2, 3] rfl (zt_L_law_J1719 hscr h k1 k2)
                  · refine zV_b (pc' := 493) (lv' := [(0, .inr (.inr (some sb))), (1, .inr (.inr p1)), (2, .inr (.inr p2)), (3, .inl l3)]) (st' := [.inl (0 : Int32)]) [(.iconst 0, 1)] (by decide +kernel) rfl ?_
                    obtain ⟨w, ew, h⟩ := zb1_inv h
                    obtain ⟨rfl, hv⟩ := zo_b_inv ew
                    have hq : zRz X zC_L_law M67 (0 : Int32) := k2 _ (Option.some.inj h).symm
                    exact hq hv _ _ (by decide +kernel)
                · have h := (zite h).2 e8_6
                  by_cases e8_7 : (v7 &&& (63 : Int32)) = 7
                  · have h := (zite h).1 e8_7
                    refine zV_top e8_7 (zV_tin (tgt := 494) zd_L_law_33 (by decide) (by decide) rfl (by decide) ?_)
                    refine zV_b (pc' := 499) (lv' := [(0, .inr (.inr (some sb))), (1, .inr (.inr p1)), (2, .inr (.inr p2)), (3, .inl l3)]) (st' := [.inl (l3 + (1 : Int32)), .inr (.inr (some sb)), .inr (.inr p1)]) [(.aload_n 1, 1), (.aload_n 0, 1), (.iload_n 3, 1), (.iconst 1, 1), (.iadd, 1)] (by decide +kernel) rfl ?_
                    refine zV_xs hscr (by decide +kernel) h (fun v70 _ h => ?_)
                    refine zV_b (pc' := 504) (lv' := [(0, .inr (.inr (some sb))), (1, .inr (.inr p1)), (2, .inr (.inr p2)), (3, .inl l3)]) (st' := [.inl (l3 + (2 : Int32)), .inr (.inr (some sb)), .inl v70, .inr (.inr p1)]) [(.aload_n 0, 1), (.iload_n 3, 1), (.iconst 2, 1), (.iadd, 1)] (by decide +kernel) rfl ?_
                    refine zV_xs hscr (by decide +kernel) h (fun v71 _ h => ?_)
                    refine zV_b (pc' := 509) (lv' := [(0, .inr (.inr (some sb))), (1, .inr (.inr p1)), (2, .inr (.inr p2)), (3, .inl l3)]) (st' := [.inl (l3 + (3 : Int32)), .inr (.inr (some sb)), .inl v71, .inl v70, .inr (.inr p1)]) [(.aload_n 0, 1), (.iload_n 3, 1), (.iconst 3, 1), (.iadd, 1)] (by decide +kernel) rfl ?_
                    refine zV_xs hscr (by decide +kernel) h (fun v72 _ h => ?_)
                    refine zV_b (pc' := 518) (lv' := [(0, .inr (.inr (some sb))), (1, .inr (.inr p1)), (2, .inr (.inr p2)), (3, .inl l3)]) (st' := [.inl (l3 + (4 : Int32)), .inr (.inr (some sb)), .inr (.inl ((v72.toInt64) <<< (((32 : Int32)).toInt64 &&& 63))), .inl v71, .inl v70, .inr (.inr p1)]) [(.i2l, 1), (.bipush 32, 2), (.lshl, 1), (.aload_n 0, 1), (.iload_n 3, 1), (.iconst 4, 1), (.iadd, 1)] (by decide +kernel) rfl ?_
                    refine zV_xs hscr (by decide +kernel) h (fun v73 _ h => ?_)
                    refine zV_b (pc' := 520) (lv' := [(0, .inr (.inr (some sb))), (1, .inr (.inr p1)), (2, .inr (.inr p2)), (3, .inl l3)]) (st' := [.inr (.inl (v73.toInt64)), .inr (.inl ((v72.toInt64) <<< (((32 : Int32)).toInt64 &&& 63))), .inl v71, .inl v70, .inr (.inr p1)]) [(.i2l, 1)] (by decide +kernel) rfl ?_
                    refine zV_ldc2 (by decide +kernel) zw_2045 ?_
                    refine zV_b (pc' := 525) (lv' := [(0, .inr (.inr (some sb))), (1, .inr (.inr p1)), (2, .inr (.inr p2)), (3, .inl l3)]) (st' := [.inr (.inl (((v72.toInt64) <<< (((32 : Int32)).toInt64 &&& 63)) ||| ((v73.toInt64) &&& (4294967295 : Int64)))), .inl v71, .inl v70, .inr (.inr p1)]) [(.land, 1), (.lor, 1)] (by decide +kernel) rfl ?_
                    refine zV_cvj (As := [.inl v70, .inl v71, .inr (.inl (((v72.toInt64) <<< (((32 : Int32)).toInt64 &&& 63)) ||| ((v73.toInt64) &&& (4294967295 : Int64))))]) (st := []) (c := 12) (by decide +kernel) (zcl_X11_fill (by decide) (by decide)) ⟨zw_764, zw_765, zw_766⟩ ⟨⟨_, _, rfl⟩, by decide⟩ rfl rfl (Nat.le_of_ble_eq_true rfl) h (fun _ _ e => zc_X11_fill e) (fun M75 v75 _ h => ?_)
                    refine zV_b (pc' := 533) (lv' := [(0, .inr (.inr (some sb))), (1, .inr (.inr p1)), (2, .inr (.inr p2)), (3, .inl l3)]) (st' := [.inl (l3 + (1 : Int32)), .inr (.inr (some sb)), .inr (.inr p2), .inr (.inl v75)]) [(.aload_n 2, 1), (.aload_n 0, 1), (.iload_n 3, 1), (.iconst 1, 1), (.iadd, 1)] (by decide +kernel) rfl ?_
                    refine zV_xs hscr (by decide +kernel) h (fun v76 _ h => ?_)
                    refine zV_b (pc' := 538) (lv' := [(0, .inr (.inr (some sb))), (1, .inr (.inr p1)), (2, .inr (.inr p2)), (3, .inl l3)]) (st' := [.inl (l3 + (2 : Int32)), .inr (.inr (some sb)), .inl v76, .inr (.inr p2), .inr (.inl v75)]) [(.aload_n 0, 1), (.iload_n 3, 1), (.iconst 2, 1), (.iadd, 1)] (by decide +kernel) rfl ?_
                    refine zV_xs hscr (by decide +kernel) h (fun v77 _ h => ?_)
                    refine zV_b (pc' := 543) (lv' := [(0, .inr (.inr (some sb))), (1, .inr (.inr p1)), (2, .inr (.inr p2)), (3, .inl l3)]) (st' := [.inl (l3 + (3 : Int32)), .inr (.inr (some sb)), .inl v77, .inl v76, .inr (.inr p2), .inr (.inl v75)]) [(.aload_n 0, 1), (.iload_n 3, 1), (.iconst 3, 1), (.iadd, 1)] (by decide +kernel) rfl ?_
                    refine zV_xs hscr (by decide +kernel) h (fun v78 _ h => ?_)
                    refine zV_b (pc' := 552) (lv' := [(0, .inr (.inr (some sb))), (1, .inr (.inr p1)), (2, .inr (.inr p2)), (3, .inl l3)]) (st' := [.inl (l3 + (4 : Int32)), .inr (.inr (some sb)), .inr (.inl ((v78.toInt64) <<< (((32 : Int32)).toInt64 &&& 63))), .inl v77, .inl v76, .inr (.inr p2), .inr (.inl v75)]) [(.i2l, 1), (.bipush 32, 2), (.lshl, 1), (.aload_n 0, 1), (.iload_n 3, 1), (.iconst 4, 1), (.iadd, 1)] (by decide +kernel) rfl ?_
                    refine zV_xs hscr (by decide +kernel) h (fun v79 _ h => ?_)
                    refine zV_b (pc' := 554) (lv' := [(0, .inr (.inr (some sb))), (1, .inr (.inr p1)), (2, .inr (.inr p2)), (3, .inl l3)]) (st' := [.inr (.inl (v79.toInt64)), .inr (.inl ((v78.toInt64) <<< (((32 : Int32)).toInt64 &&& 63))), .inl v77, .inl v76, .inr (.inr p2), .inr (.inl v75)]) [(.i2l, 1)] (by decide +kernel) rfl ?_
                    refine zV_ldc2 (by decide +kernel) zw_2045 ?_
                    refine zV_b (pc' := 559) (lv' := [(0, .inr (.inr (some sb))), (1, .inr (.inr p1)), (2, .inr (.inr p2)), (3, .inl l3)]) (st' := [.inr (.inl (((v78.toInt64) <<< (((32 : Int32)).toInt64 &&& 63)) ||| ((v79.toInt64) &&& (4294967295 : Int64)))), .inl v77, .inl v76, .inr (.inr p2), .inr (.inl v75)]) [(.land, 1), (.lor, 1)] (by decide +kernel) rfl ?_
                    refine zV_cvj (As := [.inl v76, .inl v77, .inr (.inl (((v78.toInt64) <<< (((32 : Int32)).toInt64 &&& 63)) ||| ((v79.toInt64) &&& (4294967295 : Int64))))]) (st := [.inr (.inl v75)]) (c := 13) (by decide +kernel) (zcl_X12_fill (by decide) (by decide)) ⟨zw_1730, zw_1731, zw_1732⟩ ⟨⟨_, _, rfl⟩, by decide⟩ rfl rfl (Nat.le_of_ble_eq_true rfl) h (fun _ _ e => zc_X12_fill e) (fun M81 v81 _ h => ?_)
                    refine zV_lcmp_eq (off := 1156) (tgt := 1719) (by decide +kernel) (by decide +kernel) (by decide) h (fun c82 h => ?_) (fun c82 h => ?_)
                    · exact zV_lv (lv' := [(0, .inr (.inr (some sb))), (1, .inr (.inr p1)), (2, .inr (.inr p2)), (3, .inl l3)]) [0, 1, 2, 3] rfl (zt_L_law_J1719 hscr h k1 k2)
                    · refine zV_b (pc' := 567) (lv' := [(0, .inr (.inr (some sb))), (1, .inr (.inr p1)), (2, .inr (.inr p2)), (3, .inl l3)]) (st' := [.inl (0 : Int32)]) [(.iconst 0, 1)] (by decide +kernel) rfl ?_
                      obtain ⟨w, ew, h⟩ := zb1_inv h
                      obtain ⟨rfl, hv⟩ := zo_b_inv ew
                      have hq : zRz X zC_L_law M81 (0 : Int32) := k2 _ (Option.some.inj h).symm
                      exact hq hv _ _ (by decide +kernel)
                  · have h := (zite h).2 e8_7
                    by_cases e8_8 : (v7 &&& (63 : Int32)) = 8
                    · have h := (zite h).1 e8_8
                      refine zV_top e8_8 (zV_tin (tgt := 568) zd_L_law_33 (by decide) (by decide) rfl (by decide) ?_)
                      refine zV_b (pc' := 573) (lv' := [(0, .inr (.inr (some sb))), (1, .inr (.inr p1)), (2, .inr (.inr p2)), (3, .inl l3)]) (st' := [.inl (l3 + (1 : Int32)), .inr (.inr (some sb)), .inr (.inr p1)]) [(.aload_n 1, 1), (.aload_n 0, 1), (.iload_n 3, 1), (.iconst 1, 1), (.iadd, 1)] (by decide +kernel) rfl ?_
                      refine zV_xs hscr (by decide +kernel) h (fun v84 _ h => ?_)
                      refine zV_b (pc' := 578) (lv' := [(0, .inr (.inr (some sb))), (1, .inr (.inr p1)), (2, .inr (.inr p2)), (3, .inl l3)]) (st' := [.inl (l3 + (2 : Int32)), .inr (.inr (some sb)), .inl v84, .inr (.inr p1)]) [(.aload_n 0, 1), (.iload_n 3, 1), (.iconst 2, 1), (.iadd, 1)] (by decide +kernel) rfl ?_
                      refine zV_xs hscr (by decide +kernel) h (fun v85 _ h => ?_)
                      refine zV_b (pc' := 583) (lv' := [(0, .inr (.inr (some sb))), (1, .inr (.inr p1)), (2, .inr (.inr p2)), (3, .inl l3)]) (st' := [.inl (l3 + (3 : Int32)), .inr (.inr (some sb)), .inl v85, .inl v84, .inr (.inr p1)]) [(.aload_n 0, 1), (.iload_n 3, 1), (.iconst 3, 1), (.iadd, 1)] (by decide +kernel) rfl ?_
                      refine zV_xs hscr (by decide +kernel) h (fun v86 _ h => ?_)
                      refine zV_b (pc' := 592) (lv' := [(0, .inr (.inr (some sb))), (1, .inr (.inr p1)), (2, .inr (.inr p2)), (3, .inl l3)]) (st' := [.inl (l3 + (4 : Int32)), .inr (.inr (some sb)), .inr (.inl ((v86.toInt64) <<< (((32 : Int32)).toInt64 &&& 63))), .inl v85, .inl v84, .inr (.inr p1)]) [(.i2l, 1), (.bipush 32, 2), (.lshl, 1), (.aload_n 0, 1), (.iload_n 3, 1), (.iconst 4, 1), (.iadd, 1)] (by decide +kernel) rfl ?_
                      refine zV_xs hscr (by decide +kernel) h (fun v87 _ h => ?_)
                      refine zV_b (pc' := 594) (lv' := [(0, .inr (.inr (some sb))), (1, .inr (.inr p1)), (2, .inr (.inr p2)), (3, .inl l3)]) (st' := [.inr (.inl (v87.toInt64)), .inr (.inl ((v86.toInt64) <<< (((32 : Int32)).toInt64 &&& 63))), .inl v85, .inl v84, .inr (.inr p1)]) [(.i2l, 1)] (by decide +kernel) rfl ?_
                      refine zV_ldc2 (by decide +kernel) zw_2045 ?_
                      refine zV_b (pc' := 599) (lv' := [(0, .inr (.inr (some sb))), (1, .inr (.inr p1)), (2, .inr (.inr p2)), (3, .inl l3)]) (st' := [.inr (.inl (((v86.toInt64) <<< (((32 : Int32)).toInt64 &&& 63)) ||| ((v87.toInt64) &&& (4294967295 : Int64)))), .inl v85, .inl v84, .inr (.inr p1)]) [(.land, 1), (.lor, 1)] (by decide +kernel) rfl ?_
                      refine zV_cvj (As := [.inl v84, .inl v85, .inr (.inl (((v86.toInt64) <<< (((32 : Int32)).toInt64 &&& 63)) ||| ((v87.toInt64) &&& (4294967295 : Int64))))]) (st := []) (c := 12) (by decide +kernel) (zcl_X11_rack (by decide) (by decide)) ⟨zw_849, zw_850, zw_851⟩ ⟨⟨_, _, rfl⟩, by decide⟩ rfl rfl (Nat.le_of_ble_eq_true rfl) h (fun _ _ e => zc_X11_rack e) (fun M89 v89 _ h => ?_)
                      refine zV_b (pc' := 607) (lv' := [(0, .inr (.inr (some sb))), (1, .inr (.inr p1)), (2, .inr (.inr p2)), (3, .inl l3)]) (st' := [.inl (l3 + (1 : Int32)), .inr (.inr (some sb)), .inr (.inr p2), .inr (.inl v89)]) [(.aload_n 2, 1), (.aload_n 0, 1), (.iload_n 3, 1), (.iconst 1, 1), (.iadd, 1)] (by decide +kernel) rfl ?_
                      refine zV_xs hscr (by decide +kernel) h (fun v90 _ h => ?_)
                      refine zV_b (pc' := 612) (lv' := [(0, .inr (.inr (some sb))), (1, .inr (.inr p1)), (2, .inr (.inr p2)), (3, .inl l3)]) (st' := [.inl (l3 + (2 : Int32)), .inr (.inr (some sb)), .inl v90, .inr (.inr p2), .inr (.inl v89)]) [(.aload_n 0, 1), (.iload_n 3, 1), (.iconst 2, 1), (.iadd, 1)] (by decide +kernel) rfl ?_
                      refine zV_xs hscr (by decide +kernel) h (fun v91 _ h => ?_)
                      refine zV_b (pc' := 617) (lv' := [(0, .inr (.inr (some sb))), (1, .inr (.inr p1)), (2, .inr (.inr p2)), (3, .inl l3)]) (st' := [.inl (l3 + (3 : Int32)), .inr (.inr (some sb)), .inl v91, .inl v90, .inr (.inr p2), .inr (.inl v89)]) [(.aload_n 0, 1), (.iload_n 3, 1), (.iconst 3, 1), (.iadd, 1)] (by decide +kernel) rfl ?_
                      refine zV_xs hscr (by decide +kernel) h (fun v92 _ h => ?_)
                      refine zV_b (pc' := 626) (lv' := [(0, .inr (.inr (some sb))), (1, .inr (.inr p1)), (2, .inr (.inr p2)), (3, .inl l3)]) (st' := [.inl (l3 + (4 : Int32)), .inr (.inr (some sb)), .inr (.inl ((v92.toInt64) <<< (((32 : Int32)).toInt64 &&& 63))), .inl v91, .inl v90, .inr (.inr p2), .inr (.inl v89)]) [(.i2l, 1), (.bipush 32, 2), (.lshl, 1), (.aload_n 0, 1), (.iload_n 3, 1), (.iconst 4, 1), (.iadd, 1)] (by decide +kernel) rfl ?_
                      refine zV_xs hscr (by decide +kernel) h (fun v93 _ h => ?_)
                      refine zV_b (pc' := 628) (lv' := [(0, .inr (.inr (some sb))), (1, .inr (.inr p1)), (2, .inr (.inr p2)), (3, .inl l3)]) (st' := [.inr (.inl (v93.toInt64)), .inr (.inl ((v92.toInt64) <<< (((32 : Int32)).toInt64 &&& 63))), .inl v91, .inl v90, .inr (.inr p2), .inr (.inl v89)]) [(.i2l, 1)] (by decide +kernel) rfl ?_
                      refine zV_ldc2 (by decide +kernel) zw_2045 ?_
                      refine zV_b (pc' := 633) (lv' := [(0, .inr (.inr (some sb))), (1, .inr (.inr p1)), (2, .inr (.inr p2)), (3, .inl l3)]) (st' := [.inr (.inl (((v92.toInt64) <<< (((32 : Int32)).toInt64 &&& 63)) ||| ((v93.toInt64) &&& (4294967295 : Int64)))), .inl v91, .inl v90, .inr (.inr p2), .inr (.inl v89)]) [(.land, 1), (.lor, 1)] (by decide +kernel) rfl ?_
                      refine zV_cvj (As := [.inl v90, .inl v91, .inr (.inl (((v92.toInt64) <<< (((32 : Int32)).toInt64 &&& 63)) ||| ((v93.toInt64) &&& (4294967295 : Int64))))]) (st := [.inr (.inl v89)]) (c := 13) (by decide +kernel) (zcl_X12_rack (by decide) (by decide)) ⟨zw_1791, zw_1792, zw_1793⟩ ⟨⟨_, _, rfl⟩, by decide⟩ rfl rfl (Nat.le_of_ble_eq_true rfl) h (fun _ _ e => zc_X12_rack e) (fun M95 v95 _ h => ?_)
                      refine zV_lcmp_eq (off := 1082) (tgt := 1719) (by decide +kernel) (by decide +kernel) (by decide) h (fun c96 h => ?_) (fun c96 h => ?_)
                      · exact zV_lv (lv' := [(0, .inr (.inr (some sb))), (1, .inr (.inr p1)), (2, .inr (.inr p2)), (3, .inl l3)]) [0, 1, 2, 3] rfl (zt_L_law_J1719 hscr h k1 k2)
                      · refine zV_b (pc' := 641) (lv' := [(0, .inr (.inr (some sb))), (1, .inr (.inr p1)), (2, .inr (.inr p2)), (3, .inl l3)]) (st' := [.inl (0 : Int32)]) [(.iconst 0, 1)] (by decide +kernel) rfl ?_
                        obtain ⟨w, ew, h⟩ := zb1_inv h
                        obtain ⟨rfl, hv⟩ := zo_b_inv ew
                        have hq : zRz X zC_L_law M95 (0 : Int32) := k2 _ (Option.some.inj h).symm
                        exact hq hv _ _ (by decide +kernel)
                    · have h := (zite h).2 e8_8
                      by_cases e8_9 : (v7 &&& (63 : Int32)) = 9
                      · have h := (zite h).1 e8_9
                        refine zV_top e8_9 (zV_tin (tgt := 642) zd_L_law_33 (by decide) (by decide) rfl (by decide) ?_)
                        refine zV_b (pc' := 647) (lv' := [(0, .inr (.inr (some sb))), (1, .inr (.inr p1)), (2, .inr (.inr p2)), (3, .inl l3)]) (st' := [.inl (l3 + (1 : Int32)), .inr (.inr (some sb)), .inr (.inr p1)]) [(.aload_n 1, 1), (.aload_n 0, 1), (.iload_n 3, 1), (.iconst 1, 1), (.iadd, 1)] (by decide +kernel) rfl ?_
                        refine zV_xs hscr (by decide +kernel) h (fun v98 _ h => ?_)
                        refine zV_b (pc' := 652) (lv' := [(0, .inr (.inr (some sb))), (1, .inr (.inr p1)), (2, .inr (.inr p2)), (3, .inl l3)]) (st' := [.inl (l3 + (2 : Int32)), .inr (.inr (some sb)), .inl v98, .inr (.inr p1)]) [(.aload_n 0, 1), (.iload_n 3, 1), (.iconst 2, 1), (.iadd, 1)] (by decide +kernel) rfl ?_
                        refine zV_xs hscr (by decide +kernel) h (fun v99 _ h => ?_)
                        refine zV_cvj (As := [.inl v98, .inl v99]) (st := []) (c := 12) (by decide +kernel) (zcl_X11_topUp (by decide) (by decide)) ⟨zw_929, zw_930, zw_931⟩ ⟨⟨_, _, rfl⟩, by decide⟩ rfl rfl (Nat.le_of_ble_eq_true rfl) h (fun _ _ e => zc_X11_topUp e) (fun M100 v100 _ h => ?_)
                        refine zV_b (pc' := 661) (lv' := [(0, .inr (.inr (some sb))), (1, .inr (.inr p1)), (2, .inr (.inr p2)), (3, .inl l3)]) (st' := [.inl (l3 + (1 : Int32)), .inr (.inr (some sb)), .inr (.inr p2), .inr (.inl v100)]) [(.aload_n 2, 1), (.aload_n 0, 1), (.iload_n 3, 1), (.iconst 1, 1), (.iadd, 1)] (by decide +kernel) rfl ?_
                        refine zV_xs hscr (by decide +kernel) h (fun v101 _ h => ?_)
                        refine zV_b (pc' := 666) (lv' := [(0, .inr (.inr (some sb))), (1, .inr (.inr p1)), (2, .inr (.inr p2)), (3, .inl l3)]) (st' := [.inl (l3 + (2 : Int32)), .inr (.inr (some sb)), .inl v101, .inr (.inr p2), .inr (.inl v100)]) [(.aload_n 0, 1), (.iload_n 3, 1), (.iconst 2, 1), (.iadd, 1)] (by decide +kernel) rfl ?_
                        refine zV_xs hscr (by decide +kernel) h (fun v102 _ h => ?_)
                        refine zV_cvj (As := [.inl v101, .inl v102]) (st := [.inr (.inl v100)]) (c := 13) (by decide +kernel) (zcl_X12_topUp (by decide) (by decide)) ⟨zw_1819, zw_1820, zw_1821⟩ ⟨⟨_, _, rfl⟩, by decide⟩ rfl rfl (Nat.le_of_ble_eq_true rfl) h (fun _ _ e => zc_X12_topUp e) (fun M103 v103 _ h => ?_)
                        refine zV_lcmp_eq (off := 1048) (tgt := 1719) (by decide +kernel) (by decide +kernel) (by decide) h (fun c104 h => ?_) (fun c104 h => ?_)
                        · exact zV_lv (lv' := [(0, .inr (.inr (some sb))), (1, .inr (.inr p1)), (2, .inr (.inr p2)), (3, .inl l3)]) [0, 1, 2, 3] rfl (zt_L_law_J1719 hscr h k1 k2)
                        · refine zV_b (pc' := 675) (lv' := [(0, .inr (.inr (some sb))), (1, .inr (.inr p1)), (2, .inr (.inr p2)), (3, .inl l3)]) (st' := [.inl (0 : Int32)]) [(.iconst 0, 1)] (by decide +kernel) rfl ?_
                          obtain ⟨w, ew, h⟩ := zb1_inv h
                          obtain ⟨rfl, hv⟩ := zo_b_inv ew
                          have hq : zRz X zC_L_law M103 (0 : Int32) := k2 _ (Option.some.inj h).symm
                          exact hq hv _ _ (by decide +kernel)
                      · have h := (zite h).2 e8_9
                        by_cases e8_10 : (v7 &&& (63 : Int32)) = 10
                        · have h := (zite h).1 e8_10
                          refine zV_top e8_10 (zV_tin (tgt := 676) zd_L_law_33 (by decide) (by decide) rfl (by decide) ?_)
                          refine zV_b (pc' := 681) (lv' := [(0, .inr (.inr (some sb))), (1, .inr (.inr p1)), (2, .inr (.inr p2)), (3, .inl l3)]) (st' := [.inl (l3 + (1 : Int32)), .inr (.inr (some sb)), .inr (.inr p1)]) [(.aload_n 1, 1), (.aload_n 0, 1), (.iload_n 3, 1), (.iconst 1, 1), (.iadd, 1)] (by decide +kernel) rfl ?_
                          refine zV_xs hscr (by decide +kernel) h (fun v106 _ h => ?_)
                          refine zV_b (pc' := 686) (lv' := [(0, .inr (.inr (some sb))), (1, .inr (.inr p1)), (2, .inr (.inr p2)), (3, .inl l3)]) (st' := [.inl (l3 + (2 : Int32)), .inr (.inr (some sb)), .inl v106, .inr (.inr p1)]) [(.aload_n 0, 1), (.iload_n 3, 1), (.iconst 2, 1), (.iadd, 1)] (by decide +kernel) rfl ?_
                          refine zV_xs hscr (by decide +kernel) h (fun v107 _ h => ?_)
                          refine zV_b (pc' := 695) (lv' := [(0, .inr (.inr (some sb))), (1, .inr (.inr p1)), (2, .inr (.inr p2)), (3, .inl l3)]) (st' := [.inl (l3 + (3 : Int32)), .inr (.inr (some sb)), .inr (.inl ((v107.toInt64) <<< (((32 : Int32)).toInt64 &&& 63))), .inl v106, .inr (.inr p1)]) [(.i2l, 1), (.bipush 32, 2), (.lshl, 1), (.aload_n 0, 1), (.iload_n 3, 1), (.iconst 3, 1), (.iadd, 1)] (by decide +kernel) rfl ?_
                          refine zV_xs hscr (by decide +kernel) h (fun v108 _ h => ?_)
                          refine zV_b (pc' := 697) (lv' := [(0, .inr (.inr (some sb))), (1, .inr (.inr p1)), (2, .inr (.inr p2)), (3, .inl l3)]) (st' := [.inr (.inl (v108.toInt64)), .inr (.inl ((v107.toInt64) <<< (((32 : Int32)).toInt64 &&& 63))), .inl v106, .inr (.inr p1)]) [(.i2l, 1)] (by decide +kernel) rfl ?_
                          refine zV_ldc2 (by decide +kernel) zw_2045 ?_
                          refine zV_b (pc' := 702) (lv' := [(0, .inr (.inr (some sb))), (1, .inr (.inr p1)), (2, .inr (.inr p2)), (3, .inl l3)]) (st' := [.inr (.inl (((v107.toInt64) <<< (((32 : Int32)).toInt64 &&& 63)) ||| ((v108.toInt64) &&& (4294967295 : Int64)))), .inl v106, .inr (.inr p1)]) [(.land, 1), (.lor, 1)] (by decide +kernel) rfl ?_
                          refine zV_cvj (As := [.inl v106, .inr (.inl (((v107.toInt64) <<< (((32 : Int32)).toInt64 &&& 63)) ||| ((v108.toInt64) &&& (4294967295 : Int64))))]) (st := []) (c := 12) (by decide +kernel) (zcl_X11_pick (by decide) (by decide)) ⟨zw_939, zw_940, zw_941⟩ ⟨⟨_, _, rfl⟩, by decide⟩ rfl rfl (Nat.le_of_ble_eq_true rfl) h (fun _ _ e => zc_X11_pick e) (fun M110 v110 _ h => ?_)
                          refine zV_b (pc' := 710) (lv' := [(0, .inr (.inr (some sb))), (1, .inr (.inr p1)), (2, .inr (.inr p2)), (3, .inl l3)]) (st' := [.inl (l3 + (1 : Int32)), .inr (.inr (some sb)), .inr (.inr p2), .inr (.inl v110)]) [(.aload_n 2, 1), (.aload_n 0, 1), (.iload_n 3, 1), (.iconst 1, 1), (.iadd, 1)] (by decide +kernel) rfl ?_
                          refine zV_xs hscr (by decide +kernel) h (fun v111 _ h => ?_)
                          refine zV_b (pc' := 715) (lv' := [(0, .inr (.inr (some sb))), (1, .inr (.inr p1)), (2, .inr (.inr p2)), (3, .inl l3)]) (st' := [.inl (l3 + (2 : Int32)), .inr (.inr (some sb)), .inl v111, .inr (.inr p2), .inr (.inl v110)]) [(.aload_n 0, 1), (.iload_n 3, 1), (.iconst 2, 1), (.iadd, 1)] (by decide +kernel) rfl ?_
                          refine zV_xs hscr (by decide +kernel) h (fun v112 _ h => ?_)
                          refine zV_b (pc' := 724) (lv' := [(0, .inr (.inr (some sb))), (1, .inr (.inr p1)), (2, .inr (.inr p2)), (3, .inl l3)]) (st' := [.inl (l3 + (3 : Int32)), .inr (.inr (some sb)), .inr (.inl ((v112.toInt64) <<< (((32 : Int32)).toInt64 &&& 63))), .inl v111, .inr (.inr p2), .inr (.inl v110)]) [(.i2l, 1), (.bipush 32, 2), (.lshl, 1), (.aload_n 0, 1), (.iload_n 3, 1), (.iconst 3, 1), (.iadd, 1)] (by decide +kernel) rfl ?_
                          refine zV_xs hscr (by decide +kernel) h (fun v113 _ h => ?_)
                          refine zV_b (pc' := 726) (lv' := [(0, .inr (.inr (some sb))), (1, .inr (.inr p1)), (2, .inr (.inr p2)), (3, .inl l3)]) (st' := [.inr (.inl (v113.toInt64)), .inr (.inl ((v112.toInt64) <<< (((32 : Int32)).toInt64 &&& 63))), .inl v111, .inr (.inr p2), .inr (.inl v110)]) [(.i2l, 1)] (by decide +kernel) rfl ?_
                          refine zV_ldc2 (by decide +kernel) zw_2045 ?_
                          refine zV_b (pc' := 731) (lv' := [(0, .inr (.inr (some sb))), (1, .inr (.inr p1)), (2, .inr (.inr p2)), (3, .inl l3)]) (st' := [.inr (.inl (((v112.toInt64) <<< (((32 : Int32)).toInt64 &&& 63)) ||| ((v113.toInt64) &&& (4294967295 : Int64)))), .inl v111, .inr (.inr p2), .inr (.inl v110)]) [(.land, 1), (.lor, 1)] (by decide +kernel) rfl ?_
                          refine zV_cvj (As := [.inl v111, .inr (.inl (((v112.toInt64) <<< (((32 : Int32)).toInt64 &&& 63)) ||| ((v113.toInt64) &&& (4294967295 : Int64))))]) (st := [.inr (.inl v110)]) (c := 13) (by decide +kernel) (zcl_X12_pick (by decide) (by decide)) ⟨zw_1823, zw_1824, zw_1825⟩ ⟨⟨_, _, rfl⟩, by decide⟩ rfl rfl (Nat.le_of_ble_eq_true rfl) h (fun _ _ e => zc_X12_pick e) (fun M115 v115 _ h => ?_)
                          refine zV_lcmp_eq (off := 984) (tgt := 1719) (by decide +kernel) (by decide +kernel) (by decide) h (fun c116 h => ?_) (fun c116 h => ?_)
                          · exact zV_lv (lv' := [(0, .inr (.inr (some sb))), (1, .inr (.inr p1)), (2, .inr (.inr p2)), (3, .inl l3)]) [0, 1, 2, 3] rfl (zt_L_law_J1719 hscr h k1 k2)
                          · refine zV_b (pc' := 739) (lv' := [(0, .inr (.inr (some sb))), (1, .inr (.inr p1)), (2, .inr (.inr p2)), (3, .inl l3)]) (st' := [.inl (0 : Int32)]) [(.iconst 0, 1)] (by decide +kernel) rfl ?_
                            obtain ⟨w, ew, h⟩ := zb1_inv h
                            obtain ⟨rfl, hv⟩ := zo_b_inv ew
                            have hq : zRz X zC_L_law M115 (0 : Int32) := k2 _ (Option.some.inj h).symm
                            exact hq hv _ _ (by decide +kernel)
                        · have h := (zite h).2 e8_10
                          by_cases e8_11 : (v7 &&& (63 : Int32)) = 11
                          · have h := (zite h).1 e8_11
                            refine zV_top e8_11 (zV_tin (tgt := 740) zd_L_law_33 (by decide) (by decide) rfl (by decide) ?_)
                            refine zV_b (pc' := 741) (lv' := [(0, .inr (.inr (some sb))), (1, .inr (.inr p1)), (2, .inr (.inr p2)), (3, .inl l3)]) (st' := [.inr (.inr p1)]) [(.aload_n 1, 1)] (by decide +kernel) rfl ?_
                            refine zV_cvj (As := []) (st := []) (c := 12) (by decide +kernel) (zcl_X11_forget (by decide) (by decide)) ⟨zw_956, zw_957, zw_958⟩ ⟨⟨_, _, rfl⟩, by decide⟩ rfl rfl (Nat.le_of_ble_eq_true rfl) h (fun _ _ e => zc_X11_forget e) (fun M118 v118 _ h => ?_)
                            refine zV_b (pc' := 745) (lv' := [(0, .inr (.inr (some sb))), (1, .inr (.inr p1)), (2, .inr (.inr p2)), (3, .inl l3)]) (st' := [.inr (.inr p2), .inr (.inl v118)]) [(.aload_n 2, 1)] (by decide +kernel) rfl ?_
                            refine zV_cvj (As := []) (st := [.inr (.inl v118)]) (c := 13) (by decide +kernel) (zcl_X12_forget (by decide) (by decide)) ⟨zw_1831, zw_1832, zw_1833⟩ ⟨⟨_, _, rfl⟩, by decide⟩ rfl rfl (Nat.le_of_ble_eq_true rfl) h (fun _ _ e => zc_X12_forget e) (fun M119 v119 _ h => ?_)
                            refine zV_lcmp_eq (off := 970) (tgt := 1719) (by decide +kernel) (by decide +kernel) (by decide) h (fun c120 h => ?_) (fun c120 h => ?_)
                            · exact zV_lv (lv' := [(0, .inr (.inr (some sb))), (1, .inr (.inr p1)), (2, .inr (.inr p2)), (3, .inl l3)]) [0, 1, 2, 3] rfl (zt_L_law_J1719 hscr h k1 k2)
                            · refine zV_b (pc' := 753) (lv' := [(0, .inr (.inr (some sb))), (1, .inr (.inr p1)), (2, .inr (.inr p2)), (3, .inl l3)]) (st' := [.inl (0 : Int32)]) [(.iconst 0, 1)] (by decide +kernel) rfl ?_
                              obtain ⟨w, ew, h⟩ := zb1_inv h
                              obtain ⟨rfl, hv⟩ := zo_b_inv ew
                              have hq : zRz X zC_L_law M119 (0 : Int32) := k2 _ (Option.some.inj h).symm
                              exact hq hv _ _ (by decide +kernel)
                          · have h := (zite h).2 e8_11
                            by_cases e8_12 : (v7 &&& (63 : Int32)) = 12
                            · have h := (zite h).1 e8_12
                              refine zV_top e8_12 (zV_tin (tgt := 754) zd_L_law_33 (by decide) (by decide) rfl (by decide) ?_)
                              refine zV_b (pc' := 759) (lv' := [(0, .inr (.inr (some sb))), (1, .inr (.inr p1)), (2, .inr (.inr p2)), (3, .inl l3)]) (st' := [.inl (l3 + (1 : Int32)), .inr (.inr (some sb)), .inr (.inr p1)]) [(.aload_n 1, 1), (.aload_n 0, 1), (.iload_n 3, 1), (.iconst 1, 1), (.iadd, 1)] (by decide +kernel) rfl ?_
                              refine zV_xs hscr (by decide +kernel) h (fun v122 _ h => ?_)
                              refine zV_cvj (As := [.inl v122]) (st := []) (c := 12) (by decide +kernel) (zcl_X11_blend (by decide) (by decide)) ⟨zw_964, zw_965, zw_966⟩ ⟨⟨_, _, rfl⟩, by decide⟩ rfl rfl (Nat.le_of_ble_eq_true rfl) h (fun _ _ e => zc_X11_blend e) (fun M123 v123 _ h => ?_)
                              refine zV_b (pc' := 768) (lv' := [(0, .inr (.inr (some sb))), (1, .inr (.inr p1)), (2, .inr (.inr p2)), (3, .inl l3)]) (st' := [.inl (l3 + (1 : Int32)), .inr (.inr (some sb)), .inr (.inr p2), .inr (.inl v123)]) [(.aload_n 2, 1), (.aload_n 0, 1), (.iload_n 3, 1), (.iconst 1, 1), (.iadd, 1)] (by decide +kernel) rfl ?_
                              refine zV_xs hscr (by decide +kernel) h (fun v124 _ h => ?_)
                              refine zV_cvj (As := [.inl v124]) (st := [.inr (.inl v123)]) (c := 13) (by decide +kernel) (zcl_X12_blend (by decide) (by decide)) ⟨zw_1835, zw_1836, zw_1837⟩ ⟨⟨_, _, rfl⟩, by decide⟩ rfl rfl (Nat.le_of_ble_eq_true rfl) h (fun _ _ e => zc_X12_blend e) (fun M125 v125 _ h => ?_)
                              refine zV_lcmp_eq (off := 946) (tgt := 1719) (by decide +kernel) (by decide +kernel) (by decide) h (fun c126 h => ?_) (fun c126 h => ?_)
                              · exact zV_lv (lv' := [(0, .inr (.inr (some sb))), (1, .inr (.inr p1)), (2, .inr (.inr p2)), (3, .inl l3)]) [0, 1, 2, 3] rfl (zt_L_law_J1719 hscr h k1 k2)
                              · refine zV_b (pc' := 777) (lv' := [(0, .inr (.inr (some sb))), (1, .inr (.inr p1)), (2, .inr (.inr p2)), (3, .inl l3)]) (st' := [.inl (0 : Int32)]) [(.iconst 0, 1)] (by decide +kernel) rfl ?_
                                obtain ⟨w, ew, h⟩ := zb1_inv h
                                obtain ⟨rfl, hv⟩ := zo_b_inv ew
                                have hq : zRz X zC_L_law M125 (0 : Int32) := k2 _ (Option.some.inj h).symm
                                exact hq hv _ _ (by decide +kernel)
                            · have h := (zite h).2 e8_12
                              by_cases e8_13 : (v7 &&& (63 : Int32)) = 13
                              · have h := (zite h).1 e8_13
                                refine zV_top e8_13 (zV_tin (tgt := 778) zd_L_law_33 (by decide) (by decide) rfl (by decide) ?_)
                                refine zV_b (pc' := 783) (lv' := [(0, .inr (.inr (some sb))), (1, .inr (.inr p1)), (2, .inr (.inr p2)), (3, .inl l3)]) (st' := [.inl (l3 + (1 : Int32)), .inr (.inr (some sb)), .inr (.inr p1)]) [(.aload_n 1, 1), (.aload_n 0, 1), (.iload_n 3, 1), (.iconst 1, 1), (.iadd, 1)] (by decide +kernel) rfl ?_
                                refine zV_xs hscr (by decide +kernel) h (fun v128 _ h => ?_)
                                refine zV_cvj (As := [.inl v128]) (st := []) (c := 12) (by decide +kernel) (zcl_X11_breathe (by decide) (by decide)) ⟨zw_991, zw_992, zw_993⟩ ⟨⟨_, _, rfl⟩, by decide⟩ rfl rfl (Nat.le_of_ble_eq_true rfl) h (fun _ _ e => zc_X11_breathe e) (fun M129 v129 _ h => ?_)
                                refine zV_b (pc' := 792) (lv' := [(0, .inr (.inr (some sb))), (1, .inr (.inr p1)), (2, .inr (.inr p2)), (3, .inl l3)]) (st' := [.inl (l3 + (1 : Int32)), .inr (.inr (some sb)), .inr (.inr p2), .inr (.inl v129)]) [(.aload_n 2, 1), (.aload_n 0, 1), (.iload_n 3, 1), (.iconst 1, 1), (.iadd, 1)] (by decide +kernel) rfl ?_
                                refine zV_xs hscr (by decide +kernel) h (fun v130 _ h => ?_)
                                refine zV_cvj (As := [.inl v130]) (st := [.inr (.inl v129)]) (c := 13) (by decide +kernel) (zcl_X12_breathe (by decide) (by decide)) ⟨zw_1843, zw_1844, zw_1845⟩ ⟨⟨_, _, rfl⟩, by decide⟩ rfl rfl (Nat.le_of_ble_eq_true rfl) h (fun _ _ e => zc_X12_breathe e) (fun M131 v131 _ h => ?_)
                                refine zV_lcmp_eq (off := 922) (tgt := 1719) (by decide +kernel) (by decide +kernel) (by decide) h (fun c132 h => ?_) (fun c132 h => ?_)
                                · exact zV_lv (lv' := [(0, .inr (.inr (some sb))), (1, .inr (.inr p1)), (2, .inr (.inr p2)), (3, .inl l3)]) [0, 1, 2, 3] rfl (zt_L_law_J1719 hscr h k1 k2)
                                · refine zV_b (pc' := 801) (lv' := [(0, .inr (.inr (some sb))), (1, .inr (.inr p1)), (2, .inr (.inr p2)), (3, .inl l3)]) (st' := [.inl (0 : Int32)]) [(.iconst 0, 1)] (by decide +kernel) rfl ?_
                                  obtain ⟨w, ew, h⟩ := zb1_inv h
                                  obtain ⟨rfl, hv⟩ := zo_b_inv ew
                                  have hq : zRz X zC_L_law M131 (0 : Int32) := k2 _ (Option.some.inj h).symm
                                  exact hq hv _ _ (by decide +kernel)
                              · have h := (zite h).2 e8_13
                                by_cases e8_14 : (v7 &&& (63 : Int32)) = 14
                                · have h := (zite h).1 e8_14
                                  refine zV_top e8_14 (zV_tin (tgt := 802) zd_L_law_33 (by decide) (by decide) rfl (by decide) ?_)
                                  refine zV_b (pc' := 807) (lv' := [(0, .inr (.inr (some sb))), (1, .inr (.inr p1)), (2, .inr (.inr p2)), (3, .inl l3)]) (st' := [.inl (l3 + (1 : Int32)), .inr (.inr (some sb)), .inr (.inr p1)]) [(.aload_n 1, 1), (.aload_n 0, 1), (.iload_n 3, 1), (.iconst 1, 1), (.iadd, 1)] (by decide +kernel) rfl ?_
                                  refine zV_xs hscr (by decide +kernel) h (fun v134 _ h => ?_)
                                  refine zV_b (pc' := 812) (lv' := [(0, .inr (.inr (some sb))), (1, .inr (.inr p1)), (2, .inr (.inr p2)), (3, .inl l3)]) (st' := [.inl (l3 + (2 : Int32)), .inr (.inr (some sb)), .inl v134, .inr (.inr p1)]) [(.aload_n 0, 1), (.iload_n 3, 1), (.iconst 2, 1), (.iadd, 1)] (by decide +kernel) rfl ?_
                                  refine zV_xs hscr (by decide +kernel) h (fun v135 _ h => ?_)
                                  refine zV_b (pc' := 817) (lv' := [(0, .inr (.inr (some sb))), (1, .inr (.inr p1)), (2, .inr (.inr p2)), (3, .inl l3)]) (st' := [.inl (l3 + (3 : Int32)), .inr (.inr (some sb)), .inl v135, .inl v134, .inr (.inr p1)]) [(.aload_n 0, 1), (.iload_n 3, 1), (.iconst 3, 1), (.iadd, 1)] (by decide +kernel) rfl ?_
                                  refine zV_xs hscr (by decide +kernel) h (fun v136 _ h => ?_)
                                  refine zV_b (pc' := 826) (lv' := [(0, .inr (.inr (some sb))), (1, .inr (.inr p1)), (2, .inr (.inr p2)), (3, .inl l3)]) (st' := [.inl (l3 + (4 : Int32)), .inr (.inr (some sb)), .inr (.inl ((v136.toInt64) <<< (((32 : Int32)).toInt64 &&& 63))), .inl v135, .inl v134, .inr (.inr p1)]) [(.i2l, 1), (.bipush 32, 2), (.lshl, 1), (.aload_n 0, 1), (.iload_n 3, 1), (.iconst 4, 1), (.iadd, 1)] (by decide +kernel) rfl ?_
                                  refine zV_xs hscr (by decide +kernel) h (fun v137 _ h => ?_)
                                  refine zV_b (pc' := 828) (lv' := [(0, .inr (.inr (some sb))), (1, .inr (.inr p1)), (2, .inr (.inr p2)), (3, .inl l3)]) (st' := [.inr (.inl (v137.toInt64)), .inr (.inl ((v136.toInt64) <<< (((32 : Int32)).toInt64 &&& 63))), .inl v135, .inl v134, .inr (.inr p1)]) [(.i2l, 1)] (by decide +kernel) rfl ?_
                                  refine zV_ldc2 (by decide +kernel) zw_2045 ?_
                                  refine zV_b (pc' := 833) (lv' := [(0, .inr (.inr (some sb))), (1, .inr (.inr p1)), (2, .inr (.inr p2)), (3, .inl l3)]) (st' := [.inr (.inl (((v136.toInt64) <<< (((32 : Int32)).toInt64 &&& 63)) ||| ((v137.toInt64) &&& (4294967295 : Int64)))), .inl v135, .inl v134, .inr (.inr p1)]) [(.land, 1), (.lor, 1)] (by decide +kernel) rfl ?_
                                  refine zV_cvj (As := [.inl v134, .inl v135, .inr (.inl (((v136.toInt64) <<< (((32 : Int32)).toInt64 &&& 63)) ||| ((v137.toInt64) &&& (4294967295 : Int64))))]) (st := []) (c := 12) (by decide +kernel) (zcl_X11_bottle (by decide) (by decide)) ⟨zw_1015, zw_1016, zw_1017⟩ ⟨⟨_, _, rfl⟩, by decide⟩ rfl rfl (Nat.le_of_ble_eq_true rfl) h (fun _ _ e => zc_X11_bottle e) (fun M139 v139 _ h => ?_)
                                  refine zV_b (pc' := 841) (lv' := [(0, .inr (.inr (some sb))), (1, .inr (.inr p1)), (2, .inr (.inr p2)), (3, .inl l3)]) (st' := [.inl (l3 + (1 : Int32)), .inr (.inr (some sb)), .inr (.inr p2), .inr (.inl v139)]) [(.aload_n 2, 1), (.aload_n 0, 1), (.iload_n 3, 1), (.iconst 1, 1), (.iadd, 1)] (by decide +kernel) rfl ?_
                                  refine zV_xs hscr (by decide +kernel) h (fun v140 _ h => ?_)
                                  refine zV_b (pc' := 846) (lv' := [(0, .inr (.inr (some sb))), (1, .inr (.inr p1)), (2, .inr (.inr p2)), (3, .inl l3)]) (st' := [.inl (l3 + (2 : Int32)), .inr (.inr (some sb)), .inl v140, .inr (.inr p2), .inr (.inl v139)]) [(.aload_n 0, 1), (.iload_n 3, 1), (.iconst 2, 1), (.iadd, 1)] (by decide +kernel) rfl ?_
                                  refine zV_xs hscr (by decide +kernel) h (fun v141 _ h => ?_)
                                  refine zV_b (pc' := 851) (lv' := [(0, .inr (.inr (some sb))), (1, .inr (.inr p1)), (2, .inr (.inr p2)), (3, .inl l3)]) (st' := [.inl (l3 + (3 : Int32)), .inr (.inr (some sb)), .inl v141, .inl v140, .inr (.inr p2), .inr (.inl v139)]) [(.aload_n 0, 1), (.iload_n 3, 1), (.iconst 3, 1), (.iadd, 1)] (by decide +kernel) rfl ?_
                                  refine zV_xs hscr (by decide +kernel) h (fun v142 _ h => ?_)
                                  refine zV_b (pc' := 860) (lv' := [(0, .inr (.inr (some sb))), (1, .inr (.inr p1)), (2, .inr (.inr p2)), (3, .inl l3)]) (st' := [.inl (l3 + (4 : Int32)), .inr (.inr (some sb)), .inr (.inl ((v142.toInt64) <<< (((32 : Int32)).toInt64 &&& 63))), .inl v141, .inl v140, .inr (.inr p2), .inr (.inl v139)]) [(.i2l, 1), (.bipush 32, 2), (.lshl, 1), (.aload_n 0, 1), (.iload_n 3, 1), (.iconst 4, 1), (.iadd, 1)] (by decide +kernel) rfl ?_
                                  refine zV_xs hscr (by decide +kernel) h (fun v143 _ h => ?_)
                                  refine zV_b (pc' := 862) (lv' := [(0, .inr (.inr (some sb))), (1, .inr (.inr p1)), (2, .inr (.inr p2)), (3, .inl l3)]) (st' := [.inr (.inl (v143.toInt64)), .inr (.inl ((v142.toInt64) <<< (((32 : Int32)).toInt64 &&& 63))), .inl v141, .inl v140, .inr (.inr p2), .inr (.inl v139)]) [(.i2l, 1)] (by decide +kernel) rfl ?_
                                  refine zV_ldc2 (by decide +kernel) zw_2045 ?_
                                  refine zV_b (pc' := 867) (lv' := [(0, .inr (.inr (some sb))), (1, .inr (.inr p1)), (2, .inr (.inr p2)), (3, .inl l3)]) (st' := [.inr (.inl (((v142.toInt64) <<< (((32 : Int32)).toInt64 &&& 63)) ||| ((v143.toInt64) &&& (4294967295 : Int64)))), .inl v141, .inl v140, .inr (.inr p2), .inr (.inl v139)]) [(.land, 1), (.lor, 1)] (by decide +kernel) rfl ?_
                                  refine zV_cvj (As := [.inl v140, .inl v141, .inr (.inl (((v142.toInt64) <<< (((32 : Int32)).toInt64 &&& 63)) ||| ((v143.toInt64) &&& (4294967295 : Int64))))]) (st := [.inr (.inl v139)]) (c := 13) (by decide +kernel) (zcl_X12_bottle (by decide) (by decide)) ⟨zw_1858, zw_1859, zw_1860⟩ ⟨⟨_, _, rfl⟩, by decide⟩ rfl rfl (Nat.le_of_ble_eq_true rfl) h (fun _ _ e => zc_X12_bottle e) (fun M145 v145 _ h => ?_)
                                  refine zV_lcmp_eq (off := 848) (tgt := 1719) (by decide +kernel) (by decide +kernel) (by decide) h (fun c146 h => ?_) (fun c146 h => ?_)
                                  · exact zV_lv (lv' := [(0, .inr (.inr (some sb))), (1, .inr (.inr p1)), (2, .inr (.inr p2)), (3, .inl l3)]) [0, 1, 2, 3] rfl (zt_L_law_J1719 hscr h k1 k2)
                                  · refine zV_b (pc' := 875) (lv' := [(0, .inr (.inr (some sb))), (1, .inr (.inr p1)), (2, .inr (.inr p2)), (3, .inl l3)]) (st' := [.inl (0 : Int32)]) [(.iconst 0, 1)] (by decide +kernel) rfl ?_
                                    obtain ⟨w, ew, h⟩ := zb1_inv h
                                    obtain ⟨rfl, hv⟩ := zo_b_inv ew
                                    have hq : zRz X zC_L_law M145 (0 : Int32) := k2 _ (Option.some.inj h).symm
                                    exact hq hv _ _ (by decide +kernel)
                                · have h := (zite h).2 e8_14
                                  by_cases e8_15 : (v7 &&& (63 : Int32)) = 15
                                  · have h := (zite h).1 e8_15
                                    refine zV_top e8_15 (zV_tin (tgt := 876) zd_L_law_33 (by decide) (by decide) rfl (by decide) ?_)
                                    refine zV_b (pc' := 881) (lv' := [(0, .inr (.inr (some sb))), (1, .inr (.inr p1)), (2, .inr (.inr p2)), (3, .inl l3)]) (st' := [.inl (l3 + (1 : Int32)), .inr (.inr (some sb)), .inr (.inr p1)]) [(.aload_n 1, 1), (.aload_n 0, 1), (.iload_n 3, 1), (.iconst 1, 1), (.iadd, 1)] (by decide +kernel) rfl ?_
                                    refine zV_xs hscr (by decide +kernel) h (fun v148 _ h => ?_)
                                    refine zV_b (pc' := 886) (lv' := [(0, .inr (.inr (some sb))), (1, .inr (.inr p1)), (2, .inr (.inr p2)), (3, .inl l3)]) (st' := [.inl (l3 + (2 : Int32)), .inr (.inr (some sb)), .inl v148, .inr (.inr p1)]) [(.aload_n 0, 1), (.iload_n 3, 1), (.iconst 2, 1), (.iadd, 1)] (by decide +kernel) rfl ?_
                                    refine zV_xs hscr (by decide +kernel) h (fun v149 _ h => ?_)
                                    refine zV_b (pc' := 895) (lv' := [(0, .inr (.inr (some sb))), (1, .inr (.inr p1)), (2, .inr (.inr p2)), (3, .inl l3)]) (st' := [.inl (l3 + (3 : Int32)), .inr (.inr (some sb)), .inr (.inl ((v149.toInt64) <<< (((32 : Int32)).toInt64 &&& 63))), .inl v148, .inr (.inr p1)]) [(.i2l, 1), (.bipush 32, 2), (.lshl, 1), (.aload_n 0, 1), (.iload_n 3, 1), (.iconst 3, 1), (.iadd, 1)] (by decide +kernel) rfl ?_
                                    refine zV_xs hscr (by decide +kernel) h (fun v150 _ h => ?_)
                                    refine zV_b (pc' := 897) (lv' := [(0, .inr (.inr (some sb))), (1, .inr (.inr p1)), (2, .inr (.inr p2)), (3, .inl l3)]) (st' := [.inr (.inl (v150.toInt64)), .inr (.inl ((v149.toInt64) <<< (((32 : Int32)).toInt64 &&& 63))), .inl v148, .inr (.inr p1)]) [(.i2l, 1)] (by decide +kernel) rfl ?_
                                    refine zV_ldc2 (by decide +kernel) zw_2045 ?_
                                    refine zV_b (pc' := 906) (lv' := [(0, .inr (.inr (some sb))), (1, .inr (.inr p1)), (2, .inr (.inr p2)), (3, .inl l3)]) (st' := [.inl (l3 + (4 : Int32)), .inr (.inr (some sb)), .inr (.inl (((v149.toInt64) <<< (((32 : Int32)).toInt64 &&& 63)) ||| ((v150.toInt64) &&& (4294967295 : Int64)))), .inl v148, .inr (.inr p1)]) [(.land, 1), (.lor, 1), (.aload_n 0, 1), (.iload_n 3, 1), (.iconst 4, 1), (.iadd, 1)] (by decide +kernel) rfl ?_
                                    refine zV_xs hscr (by decide +kernel) h (fun v152 _ h => ?_)
                                    refine zV_cvj (As := [.inl v148, .inr (.inl (((v149.toInt64) <<< (((32 : Int32)).toInt64 &&& 63)) ||| ((v150.toInt64) &&& (4294967295 : Int64)))), .inl v152]) (st := []) (c := 12) (by decide +kernel) (zcl_X11_drain (by decide) (by decide)) ⟨zw_1029, zw_1030, zw_1031⟩ ⟨⟨_, _, rfl⟩, by decide⟩ rfl rfl (Nat.le_of_ble_eq_true rfl) h (fun _ _ e => zc_X11_drain e) (fun M153 v153 _ h => ?_)
                                    refine zV_b (pc' := 915) (lv' := [(0, .inr (.inr (some sb))), (1, .inr (.inr p1)), (2, .inr (.inr p2)), (3, .inl l3)]) (st' := [.inl (l3 + (1 : Int32)), .inr (.inr (some sb)), .inr (.inr p2), .inr (.inl v153)]) [(.aload_n 2, 1), (.aload_n 0, 1), (.iload_n 3, 1), (.iconst 1, 1), (.iadd, 1)] (by decide +kernel) rfl ?_
                                    refine zV_xs hscr (by decide +kernel) h (fun v154 _ h => ?_)
                                    refine zV_b (pc' := 920) (lv' := [(0, .inr (.inr (some sb))), (1, .inr (.inr p1)), (2, .inr (.inr p2)), (3, .inl l3)]) (st' := [.inl (l3 + (2 : Int32)), .inr (.inr (some sb)), .inl v154, .inr (.inr p2), .inr (.inl v153)]) [(.aload_n 0, 1), (.iload_n 3, 1), (.iconst 2, 1), (.iadd, 1)] (by decide +kernel) rfl ?_
                                    refine zV_xs hscr (by decide +kernel) h (fun v155 _ h => ?_)
                                    refine zV_b (pc' := 929) (lv' := [(0, .inr (.inr (some sb))), (1, .inr (.inr p1)), (2, .inr (.inr p2)), (3, .inl l3)]) (st' := [.inl (l3 + (3 : Int32)), .inr (.inr (some sb)), .inr (.inl ((v155.toInt64) <<< (((32 : Int32)).toInt64 &&& 63))), .inl v154, .inr (.inr p2), .inr (.inl v153)]) [(.i2l, 1), (.bipush 32, 2), (.lshl, 1), (.aload_n 0, 1), (.iload_n 3, 1), (.iconst 3, 1), (.iadd, 1)] (by decide +kernel) rfl ?_
                                    refine zV_xs hscr (by decide +kernel) h (fun v156 _ h => ?_)
                                    refine zV_b (pc' := 931) (lv' := [(0, .inr (.inr (some sb))), (1, .inr (.inr p1)), (2, .inr (.inr p2)), (3, .inl l3)]) (st' := [.inr (.inl (v156.toInt64)), .inr (.inl ((v155.toInt64) <<< (((32 : Int32)).toInt64 &&& 63))), .inl v154, .inr (.inr p2), .inr (.inl v153)]) [(.i2l, 1)] (by decide +kernel) rfl ?_
                                    refine zV_ldc2 (by decide +kernel) zw_2045 ?_
                                    refine zV_b (pc' := 940) (lv' := [(0, .inr (.inr (some sb))), (1, .inr (.inr p1)), (2, .inr (.inr p2)), (3, .inl l3)]) (st' := [.inl (l3 + (4 : Int32)), .inr (.inr (some sb)), .inr (.inl (((v155.toInt64) <<< (((32 : Int32)).toInt64 &&& 63)) ||| ((v156.toInt64) &&& (4294967295 : Int64)))), .inl v154, .inr (.inr p2), .inr (.inl v153)]) [(.land, 1), (.lor, 1), (.aload_n 0, 1), (.iload_n 3, 1), (.iconst 4, 1), (.iadd, 1)] (by decide +kernel) rfl ?_
                                    refine zV_xs hscr (by decide +kernel) h (fun v158 _ h => ?_)
                                    refine zV_cvj (As := [.inl v154, .inr (.inl (((v155.toInt64) <<< (((32 : Int32)).toInt64 &&& 63)) ||| ((v156.toInt64) &&& (4294967295 : Int64)))), .inl v158]) (st := [.inr (.inl v153)]) (c := 13) (by decide +kernel) (zcl_X12_drain (by decide) (by decide)) ⟨zw_1862, zw_1863, zw_1864⟩ ⟨⟨_, _, rfl⟩, by decide⟩ rfl rfl (Nat.le_of_ble_eq_true rfl) h (fun _ _ e => zc_X12_drain e) (fun M159 v159 _ h => ?_)
                                    refine zV_lcmp_eq (off := 774) (tgt := 1719) (by decide +kernel) (by decide +kernel) (by decide) h (fun c160 h => ?_) (fun c160 h => ?_)
                                    · exact zV_lv (lv' := [(0, .inr (.inr (some sb))), (1, .inr (.inr p1)), (2, .inr (.inr p2)), (3, .inl l3)]) [0, 1, 2, 3] rfl (zt_L_law_J1719 hscr h k1 k2)
                                    · refine zV_b (pc' := 949) (lv' := [(0, .inr (.inr (some sb))), (1, .inr (.inr p1)), (2, .inr (.inr p2)), (3, .inl l3)]) (st' := [.inl (0 : Int32)]) [(.iconst 0, 1)] (by decide +kernel) rfl ?_
                                      obtain ⟨w, ew, h⟩ := zb1_inv h
                                      obtain ⟨rfl, hv⟩ := zo_b_inv ew
                                      have hq : zRz X zC_L_law M159 (0 : Int32) := k2 _ (Option.some.inj h).symm
                                      exact hq hv _ _ (by decide +kernel)
                                  · have h := (zite h).2 e8_15
                                    by_cases e8_16 : (v7 &&& (63 : Int32)) = 16
                                    · have h := (zite h).1 e8_16
                                      refine zV_top e8_16 (zV_tin (tgt := 950) zd_L_law_33 (by decide) (by decide) rfl (by decide) ?_)
                                      refine zV_b (pc' := 955) (lv' := [(0, .inr (.inr (some sb))), (1, .inr (.inr p1)), (2, .inr (.inr p2)), (3, .inl l3)]) (st' := [.inl (l3 + (1 : Int32)), .inr (.inr (some sb)), .inr (.inr p1)]) [(.aload_n 1, 1), (.aload_n 0, 1), (.iload_n 3, 1), (.iconst 1, 1), (.iadd, 1)] (by decide +kernel) rfl ?_
                                      refine zV_xs hscr (by decide +kernel) h (fun v162 _ h => ?_)
                                      refine zV_cvj (As := [.inl v162]) (st := []) (c := 12) (by decide +kernel) (zcl_X11_wash (by decide) (by decide)) ⟨zw_1039, zw_1040, zw_1041⟩ ⟨⟨_, _, rfl⟩, by decide⟩ rfl rfl (Nat.le_of_ble_eq_true rfl) h (fun _ _ e => zc_X11_wash e) (fun M163 v163 _ h => ?_)
                                      refine zV_b (pc' := 964) (lv' := [(0, .inr (.inr (some sb))), (1, .inr (.inr p1)), (2, .inr (.inr p2)), (3, .inl l3)]) (st' := [.inl (l3 + (1 : Int32)), .inr (.inr (some sb)), .inr (.inr p2), .inr (.inl v163)]) [(.aload_n 2, 1), (.aload_n 0, 1), (.iload_n 3, 1), (.iconst 1, 1), (.iadd, 1)] (by decide +kernel) rfl ?_
                                      refine zV_xs hscr (by decide +kernel) h (fun v164 _ h => ?_)
                                      refine zV_cvj (As := [.inl v164]) (st := [.inr (.inl v163)]) (c := 13) (by decide +kernel) (zcl_X12_wash (by decide) (by decide)) ⟨zw_1866, zw_1867, zw_1868⟩ ⟨⟨_, _, rfl⟩, by decide⟩ rfl rfl (Nat.le_of_ble_eq_true rfl) h (fun _ _ e => zc_X12_wash e) (fun M165 v165 _ h => ?_)
                                      refine zV_lcmp_eq (off := 750) (tgt := 1719) (by decide +kernel) (by decide +kernel) (by decide) h (fun c166 h => ?_) (fun c166 h => ?_)
                                      · exact zV_lv (lv' := [(0, .inr (.inr (some sb))), (1, .inr (.inr p1)), (2, .inr (.inr p2)), (3, .inl l3)]) [0, 1, 2, 3] rfl (zt_L_law_J1719 hscr h k1 k2)
                                      · refine zV_b (pc' := 973) (lv' := [(0, .inr (.inr (some sb))), (1, .inr (.inr p1)), (2, .inr (.inr p2)), (3, .inl l3)]) (st' := [.inl (0 : Int32)]) [(.iconst 0, 1)] (by decide +kernel) rfl ?_
                                        obtain ⟨w, ew, h⟩ := zb1_inv h
                                        obtain ⟨rfl, hv⟩ := zo_b_inv ew
                                        have hq : zRz X zC_L_law M165 (0 : Int32) := k2 _ (Option.some.inj h).symm
                                        exact hq hv _ _ (by decide +kernel)
                                    · have h := (zite h).2 e8_16
                                      by_cases e8_17 : (v7 &&& (63 : Int32)) = 17
                                      · have h := (zite h).1 e8_17
                                        refine zV_top e8_17 (zV_tin (tgt := 974) zd_L_law_33 (by decide) (by decide) rfl (by decide) ?_)
                                        refine zV_b (pc' := 979) (lv' := [(0, .inr (.inr (some sb))), (1, .inr (.inr p1)), (2, .inr (.inr p2)), (3, .inl l3)]) (st' := [.inl (l3 + (1 : Int32)), .inr (.inr (some sb)), .inr (.inr p1)]) [(.aload_n 1, 1), (.aload_n 0, 1), (.iload_n 3, 1), (.iconst 1, 1), (.iadd, 1)] (by decide +kernel) rfl ?_
                                        refine zV_xs hscr (by decide +kernel) h (fun v168 _ h => ?_)
                                        refine zV_b (pc' := 984) (lv' := [(0, .inr (.inr (some sb))), (1, .inr (.inr p1)), (2, .inr (.inr p2)), (3, .inl l3)]) (st' := [.inl (l3 + (2 : Int32)), .inr (.inr (some sb)), .inl v168, .inr (.inr p1)]) [(.aload_n 0, 1), (.iload_n 3, 1), (.iconst 2, 1), (.iadd, 1)] (by decide +kernel) rfl ?_
                                        refine zV_xs hscr (by decide +kernel) h (fun v169 _ h => ?_)
                                        refine zV_cvj (As := [.inl v168, .inl v169]) (st := []) (c := 12) (by decide +kernel) (zcl_X11_partAt (by decide) (by decide)) ⟨zw_1048, zw_1049, zw_1050⟩ ⟨⟨_, _, rfl⟩, by decide⟩ rfl rfl (Nat.le_of_ble_eq_true rfl) h (fun _ _ e => zc_X11_partAt e) (fun M170 v170 _ h => ?_)
                                        refine zV_b (pc' := 993) (lv' := [(0, .inr (.inr (some sb))), (1, .inr (.inr p1)), (2, .inr (.inr p2)), (3, .inl l3)]) (st' := [.inl (l3 + (1 : Int32)), .inr (.inr (some sb)), .inr (.inr p2), .inr (.inl v170)]) [(.aload_n 2, 1), (.aload_n 0, 1), (.iload_n 3, 1), (.iconst 1, 1), (.iadd, 1)] (by decide +kernel) rfl ?_
                                        refine zV_xs hscr (by decide +kernel) h (fun v171 _ h => ?_)
                                        refine zV_b (pc' := 998) (lv' := [(0, .inr (.inr (some sb))), (1, .inr (.inr p1)), (2, .inr (.inr p2)), (3, .inl l3)]) (st' := [.inl (l3 + (2 : Int32)), .inr (.inr (some sb)), .inl v171, .inr (.inr p2), .inr (.inl v170)]) [(.aload_n 0, 1), (.iload_n 3, 1), (.iconst 2, 1), (.iadd, 1)] (by decide +kernel) rfl ?_
                                        refine zV_xs hscr (by decide +kernel) h (fun v172 _ h => ?_)
                                        refine zV_cvj (As := [.inl v171, .inl v172]) (st := [.inr (.inl v170)]) (c := 13) (by decide +kernel) (zcl_X12_partAt (by decide) (by decide)) ⟨zw_1870, zw_1871, zw_1872⟩ ⟨⟨_, _, rfl⟩, by decide⟩ rfl rfl (Nat.le_of_ble_eq_true rfl) h (fun _ _ e => zc_X12_partAt e) (fun M173 v173 _ h => ?_)
                                        refine zV_lcmp_eq (off := 716) (tgt := 1719) (by decide +kernel) (by decide +kernel) (by decide) h (fun c174 h => ?_) (fun c174 h => ?_)
                                        · exact zV_lv (lv' := [(0, .inr (.inr (some sb))), (1, .inr (.inr p1)), (2, .inr (.inr p2)), (3, .inl l3)]) [0, 1, 2, 3] rfl (zt_L_law_J1719 hscr h k1 k2)
                                        · refine zV_b (pc' := 1007) (lv' := [(0, .inr (.inr (some sb))), (1, .inr (.inr p1)), (2, .inr (.inr p2)), (3, .inl l3)]) (st' := [.inl (0 : Int32)]) [(.iconst 0, 1)] (by decide +kernel) rfl ?_
                                          obtain ⟨w, ew, h⟩ := zb1_inv h
                                          obtain ⟨rfl, hv⟩ := zo_b_inv ew
                                          have hq : zRz X zC_L_law M173 (0 : Int32) := k2 _ (Option.some.inj h).symm
                                          exact hq hv _ _ (by decide +kernel)
                                      · have h := (zite h).2 e8_17
                                        by_cases e8_18 : (v7 &&& (63 : Int32)) = 18
                                        · have h := (zite h).1 e8_18
                                          refine zV_top e8_18 (zV_tin (tgt := 1008) zd_L_law_33 (by decide) (by decide) rfl (by decide) ?_)
                                          refine zV_b (pc' := 1013) (lv' := [(0, .inr (.inr (some sb))), (1, .inr (.inr p1)), (2, .inr (.inr p2)), (3, .inl l3)]) (st' := [.inl (l3 + (1 : Int32)), .inr (.inr (some sb)), .inr (.inr p1)]) [(.aload_n 1, 1), (.aload_n 0, 1), (.iload_n 3, 1), (.iconst 1, 1), (.iadd, 1)] (by decide +kernel) rfl ?_
                                          refine zV_xs hscr (by decide +kernel) h (fun v176 _ h => ?_)
                                          refine zV_b (pc' := 1018) (lv' := [(0, .inr (.inr (some sb))), (1, .inr (.inr p1)), (2, .inr (.inr p2)), (3, .inl l3)]) (st' := [.inl (l3 + (2 : Int32)), .inr (.inr (some sb)), .inl v176, .inr (.inr p1)]) [(.aload_n 0, 1), (.iload_n 3, 1), (.iconst 2, 1), (.iadd, 1)] (by decide +kernel) rfl ?_
                                          refine zV_xs hscr (by decide +kernel) h (fun v177 _ h => ?_)
                                          refine zV_cvj (As := [.inl v176, .inl v177]) (st := []) (c := 12) (by decide +kernel) (zcl_X11_amountAt (by decide) (by decide)) ⟨zw_1056, zw_1057, zw_1058⟩ ⟨⟨_, _, rfl⟩, by decide⟩ rfl rfl (Nat.le_of_ble_eq_true rfl) h (fun _ _ e => zc_X11_amountAt e) (fun M178 v178 _ h => ?_)
                                          refine zV_b (pc' := 1027) (lv' := [(0, .inr (.inr (some sb))), (1, .inr (.inr p1)), (2, .inr (.inr p2)), (3, .inl l3)]) (st' := [.inl (l3 + (1 : Int32)), .inr (.inr (some sb)), .inr (.inr p2), .inr (.inl v178)]) [(.aload_n 2, 1), (.aload_n 0, 1), (.iload_n 3, 1), (.iconst 1, 1), (.iadd, 1)] (by decide +kernel) rfl ?_
                                          refine zV_xs hscr (by decide +kernel) h (fun v179 _ h => ?_)
                                          refine zV_b (pc' := 1032) (lv' := [(0, .inr (.inr (some sb))), (1, .inr (.inr p1)), (2, .inr (.inr p2)), (3, .inl l3)]) (st' := [.inl (l3 + (2 : Int32)), .inr (.inr (some sb)), .inl v179, .inr (.inr p2), .inr (.inl v178)]) [(.aload_n 0, 1), (.iload_n 3, 1), (.iconst 2, 1), (.iadd, 1)] (by decide +kernel) rfl ?_
                                          refine zV_xs hscr (by decide +kernel) h (fun v180 _ h => ?_)
                                          refine zV_cvj (As := [.inl v179, .inl v180]) (st := [.inr (.inl v178)]) (c := 13) (by decide +kernel) (zcl_X12_amountAt (by decide) (by decide)) ⟨zw_1878, zw_1879, zw_1880⟩ ⟨⟨_, _, rfl⟩, by decide⟩ rfl rfl (Nat.le_of_ble_eq_true rfl) h (fun _ _ e => zc_X12_amountAt e) (fun M181 v181 _ h => ?_)
                                          refine zV_lcmp_eq (off := 682) (tgt := 1719) (by decide +kernel) (by decide +kernel) (by decide) h (fun c182 h => ?_) (fun c182 h => ?_)
                                          · exact zV_lv (lv' := [(0, .inr (.inr (some sb))), (1, .inr (.inr p1)), (2, .inr (.inr p2)), (3, .inl l3)]) [0, 1, 2, 3] rfl (zt_L_law_J1719 hscr h k1 k2)
                                          · refine zV_b (pc' := 1041) (lv' := [(0, .inr (.inr (some sb))), (1, .inr (.inr p1)), (2, .inr (.inr p2)), (3, .inl l3)]) (st' := [.inl (0 : Int32)]) [(.iconst 0, 1)] (by decide +kernel) rfl ?_
                                            obtain ⟨w, ew, h⟩ := zb1_inv h
                                            obtain ⟨rfl, hv⟩ := zo_b_inv ew
                                            have hq : zRz X zC_L_law M181 (0 : Int32) := k2 _ (Option.some.inj h).symm
                                            exact hq hv _ _ (by decide +kernel)
                                        · have h := (zite h).2 e8_18
                                          by_cases e8_19 : (v7 &&& (63 : Int32)) = 19
                                          · have h := (zite h).1 e8_19
                                            refine zV_top e8_19 (zV_tin (tgt := 1042) zd_L_law_33 (by decide) (by decide) rfl (by decide) ?_)
                                            refine zV_b (pc' := 1047) (lv' := [(0, .inr (.inr (some sb))), (1, .inr (.inr p1)), (2, .inr (.inr p2)), (3, .inl l3)]) (st' := [.inl (l3 + (1 : Int32)), .inr (.inr (some sb)), .inr (.inr p1)]) [(.aload_n 1, 1), (.aload_n 0, 1), (.iload_n 3, 1), (.iconst 1, 1), (.iadd, 1)] (by decide +kernel) rfl ?_
                                            refine zV_xs hscr (by decide +kernel) h (fun v184 _ h => ?_)
                                            refine zV_cvj (As := [.inl v184]) (st := []) (c := 12) (by decide +kernel) (zcl_X11_room (by decide) (by decide)) ⟨zw_1060, zw_1061, zw_1062⟩ ⟨⟨_, _, rfl⟩, by decide⟩ rfl rfl (Nat.le_of_ble_eq_true rfl) h (fun _ _ e => zc_X11_room e) (fun M185 v185 _ h => ?_)
                                            refine zV_b (pc' := 1056) (lv' := [(0, .inr (.inr (some sb))), (1, .inr (.inr p1)), (2, .inr (.inr p2)), (3, .inl l3)]) (st' := [.inl (l3 + (1 : Int32)), .inr (.inr (some sb)), .inr (.inr p2), .inr (.inl v185)]) [(.aload_n 2, 1), (.aload_n 0, 1), (.iload_n 3, 1), (.iconst 1, 1), (.iadd, 1)] (by decide +kernel) rfl ?_
                                            refine zV_xs hscr (by decide +kernel) h (fun v186 _ h => ?_)
                                            refine zV_cvj (As := [.inl v186]) (st := [.inr (.inl v185)]) (c := 13) (by decide +kernel) (zcl_X12_room (by decide) (by decide)) ⟨zw_1882, zw_1883, zw_1884⟩ ⟨⟨_, _, rfl⟩, by decide⟩ rfl rfl (Nat.le_of_ble_eq_true rfl) h (fun _ _ e => zc_X12_room e) (fun M187 v187 _ h => ?_)
                                            refine zV_lcmp_eq (off := 658) (tgt := 1719) (by decide +kernel) (by decide +kernel) (by decide) h (fun c188 h => ?_) (fun c188 h => ?_)
                                            · exact zV_lv (lv' := [(0, .inr (.inr (some sb))), (1, .inr (.inr p1)), (2, .inr (.inr p2)), (3, .inl l3)]) [0, 1, 2, 3] rfl (zt_L_law_J1719 hscr h k1 k2)
                                            · refine zV_b (pc' := 1065) (lv' := [(0, .inr (.inr (some sb))), (1, .inr (.inr p1)), (2, .inr (.inr p2)), (3, .inl l3)]) (st' := [.inl (0 : Int32)]) [(.iconst 0, 1)] (by decide +kernel) rfl ?_
                                              obtain ⟨w, ew, h⟩ := zb1_inv h
                                              obtain ⟨rfl, hv⟩ := zo_b_inv ew
                                              have hq : zRz X zC_L_law M187 (0 : Int32) := k2 _ (Option.some.inj h).symm
                                              exact hq hv _ _ (by decide +kernel)
                                          · have h := (zite h).2 e8_19
                                            by_cases e8_20 : (v7 &&& (63 : Int32)) = 20
                                            · have h := (zite h).1 e8_20
                                              refine zV_top e8_20 (zV_tin (tgt := 1066) zd_L_law_33 (by decide) (by decide) rfl (by decide) ?_)
                                              refine zV_b (pc' := 1067) (lv' := [(0, .inr (.inr (some sb))), (1, .inr (.inr p1)), (2, .inr (.inr p2)), (3, .inl l3)]) (st' := [.inr (.inr p1)]) [(.aload_n 1, 1)] (by decide +kernel) rfl ?_
                                              refine zV_cvj (As := []) (st := []) (c := 12) (by decide +kernel) (zcl_X11_label (by decide) (by decide)) ⟨zw_1072, zw_1073, zw_1074⟩ ⟨⟨_, _, rfl⟩, by decide⟩ rfl rfl (Nat.le_of_ble_eq_true rfl) h (fun _ _ e => zc_X11_label e) (fun M190 v190 _ h => ?_)
                                              refine zV_b (pc' := 1071) (lv' := [(0, .inr (.inr (some sb))), (1, .inr (.inr p1)), (2, .inr (.inr p2)), (3, .inl l3)]) (st' := [.inr (.inr p2), .inr (.inl v190)]) [(.aload_n 2, 1)] (by decide +kernel) rfl ?_
                                              refine zV_cvj (As := []) (st := [.inr (.inl v190)]) (c := 13) (by decide +kernel) (zcl_X12_label (by decide) (by decide)) ⟨zw_1890, zw_1891, zw_1892⟩ ⟨⟨_, _, rfl⟩, by decide⟩ rfl rfl (Nat.le_of_ble_eq_true rfl) h (fun _ _ e => zc_X12_label e) (fun M191 v191 _ h => ?_)
                                              refine zV_lcmp_eq (off := 644) (tgt := 1719) (by decide +kernel) (by decide +kernel) (by decide) h (fun c192 h => ?_) (fun c192 h => ?_)
                                              · exact zV_lv (lv' := [(0, .inr (.inr (some sb))), (1, .inr (.inr p1)), (2, .inr (.inr p2)), (3, .inl l3)]) [0, 1, 2, 3] rfl (zt_L_law_J1719 hscr h k1 k2)
                                              · refine zV_b (pc' := 1079) (lv' := [(0, .inr (.inr (some sb))), (1, .inr (.inr p1)), (2, .inr (.inr p2)), (3, .inl l3)]) (st' := [.inl (0 : Int32)]) [(.iconst 0, 1)] (by decide +kernel) rfl ?_
                                                obtain ⟨w, ew, h⟩ := zb1_inv h
                                                obtain ⟨rfl, hv⟩ := zo_b_inv ew
                                                have hq : zRz X zC_L_law M191 (0 : Int32) := k2 _ (Option.some.inj h).symm
                                                exact hq hv _ _ (by decide +kernel)
                                            · have h := (zite h).2 e8_20
                                              by_cases e8_21 : (v7 &&& (63 : Int32)) = 21
                                              · have h := (zite h).1 e8_21
                                                refine zV_top e8_21 (zV_tin (tgt := 1080) zd_L_law_33 (by decide) (by decide) rfl (by decide) ?_)
                                                refine zV_b (pc' := 1085) (lv' := [(0, .inr (.inr (some sb))), (1, .inr (.inr p1)), (2, .inr (.inr p2)), (3, .inl l3)]) (st' := [.inl (l3 + (1 : Int32)), .inr (.inr (some sb)), .inr (.inr p1)]) [(.aload_n 1, 1), (.aload_n 0, 1), (.iload_n 3, 1), (.iconst 1, 1), (.iadd, 1)] (by decide +kernel) rfl ?_
                                                refine zV_xs hscr (by decide +kernel) h (fun v194 _ h => ?_)
                                                refine zV_b (pc' := 1090) (lv' := [(0, .inr (.inr (some sb))), (1, .inr (.inr p1)), (2, .inr (.inr p2)), (3, .inl l3)]) (st' := [.inl (l3 + (2 : Int32)), .inr (.inr (some sb)), .inl v194, .inr (.inr p1)]) [(.aload_n 0, 1), (.iload_n 3, 1), (.iconst 2, 1), (.iadd, 1)] (by decide +kernel) rfl ?_
                                                refine zV_xs hscr (by decide +kernel) h (fun v195 _ h => ?_)
                                                refine zV_b (pc' := 1095) (lv' := [(0, .inr (.inr (some sb))), (1, .inr (.inr p1)), (2, .inr (.inr p2)), (3, .inl l3)]) (st' := [.inl (l3 + (3 : Int32)), .inr (.inr (some sb)), .inl v195, .inl v194, .inr (.inr p1)]) [(.aload_n 0, 1), (.iload_n 3, 1), (.iconst 3, 1), (.iadd, 1)] (by decide +kernel) rfl ?_
                                                refine zV_xs hscr (by decide +kernel) h (fun v196 _ h => ?_)
                                                refine zV_b (pc' := 1100) (lv' := [(0, .inr (.inr (some sb))), (1, .inr (.inr p1)), (2, .inr (.inr p2)), (3, .inl l3)]) (st' := [.inl (l3 + (4 : Int32)), .inr (.inr (some sb)), .inl v196, .inl v195, .inl v194, .inr (.inr p1)]) [(.aload_n 0, 1), (.iload_n 3, 1), (.iconst 4, 1), (.iadd, 1)] (by decide +kernel) rfl ?_
                                                refine zV_xs hscr (by decide +kernel) h (fun v197 _ h => ?_)
                                                refine zV_b (pc' := 1105) (lv' := [(0, .inr (.inr (some sb))), (1, .inr (.inr p1)), (2, .inr (.inr p2)), (3, .inl l3)]) (st' := [.inl (l3 + (5 : Int32)), .inr (.inr (some sb)), .inl v197, .inl v196, .inl v195, .inl v194, .inr (.inr p1)]) [(.aload_n 0, 1), (.iload_n 3, 1), (.iconst 5, 1), (.iadd, 1)] (by decide +kernel) rfl ?_
                                                refine zV_xs hscr (by decide +kernel) h (fun v198 _ h => ?_)
                                                refine zV_cvj (As := [.inl v194, .inl v195, .inl v196, .inl v197, .inl v198]) (st := []) (c := 12) (by decide +kernel) (zcl_X11_rule (by decide) (by decide)) ⟨zw_1113, zw_1114, zw_1115⟩ ⟨⟨_, _, rfl⟩, by decide⟩ rfl rfl (Nat.le_of_ble_eq_true rfl) h (fun _ _ e => zc_X11_rule e) (fun M199 v199 _ h => ?_)
                                                refine zV_b (pc' := 1114) (lv' := [(0, .inr (.inr (some sb))), (1, .inr (.inr p1)), (2, .inr (.inr p2)), (3, .inl l3)]) (st' := [.inl (l3 + (1 : Int32)), .inr (.inr (some sb)), .inr (.inr p2), .inr (.inl v199)]) [(.aload_n 2, 1), (.aload_n 0, 1), (.iload_n 3, 1), (.iconst 1, 1), (.iadd, 1)] (by decide +kernel) rfl ?_
                                                refine zV_xs hscr (by decide +kernel) h (fun v200 _ h => ?_)
                                                refine zV_b (pc' := 1119) (lv' := [(0, .inr (.inr (some sb))), (1, .inr (.inr p1)), (2, .inr (.inr p2)), (3, .inl l3)]) (st' := [.inl (l3 + (2 : Int32)), .inr (.inr (some sb)), .inl v200, .inr (.inr p2), .inr (.inl v199)]) [(.aload_n 0, 1), (.iload_n 3, 1), (.iconst 2, 1), (.iadd, 1)] (by decide +kernel) rfl ?_
                                                refine zV_xs hscr (by decide +kernel) h (fun v201 _ h => ?_)
                                                refine zV_b (pc' := 1124) (lv' := [(0, .inr (.inr (some sb))), (1, .inr (.inr p1)), (2, .inr (.inr p2)), (3, .inl l3)]) (st' := [.inl (l3 + (3 : Int32)), .inr (.inr (some sb)), .inl v201, .inl v200, .inr (.inr p2), .inr (.inl v199)]) [(.aload_n 0, 1), (.iload_n 3, 1), (.iconst 3, 1), (.iadd, 1)] (by decide +kernel) rfl ?_
                                                refine zV_xs hscr (by decide +kernel) h (fun v202 _ h => ?_)
                                                refine zV_b (pc' := 1129) (lv' := [(0, .inr (.inr (some sb))), (1, .inr (.inr p1)), (2, .inr (.inr p2)), (3, .inl l3)]) (st' := [.inl (l3 + (4 : Int32)), .inr (.inr (some sb)), .inl v202, .inl v201, .inl v200, .inr (.inr p2), .inr (.inl v199)]) [(.aload_n 0, 1), (.iload_n 3, 1), (.iconst 4, 1), (.iadd, 1)] (by decide +kernel) rfl ?_
                                                refine zV_xs hscr (by decide +kernel) h (fun v203 _ h => ?_)
                                                refine zV_b (pc' := 1134) (lv' := [(0, .inr (.inr (some sb))), (1, .inr (.inr p1)), (2, .inr (.inr p2)), (3, .inl l3)]) (st' := [.inl (l3 + (5 : Int32)), .inr (.inr (some sb)), .inl v203, .inl v202, .inl v201, .inl v200, .inr (.inr p2), .inr (.inl v199)]) [(.aload_n 0, 1), (.iload_n 3, 1), (.iconst 5, 1), (.iadd, 1)] (by decide +kernel) rfl ?_
                                                refine zV_xs hscr (by decide +kernel) h (fun v204 _ h => ?_)
                                                refine zV_cvj (As := [.inl v200, .inl v201, .inl v202, .inl v203, .inl v204]) (st := [.inr (.inl v199)]) (c := 13) (by decide +kernel) (zcl_X12_rule (by decide) (by decide)) ⟨zw_1894, zw_1895, zw_1896⟩ ⟨⟨_, _, rfl⟩, by decide⟩ rfl rfl (Nat.le_of_ble_eq_true rfl) h (fun _ _ e => zc_X12_rule e) (fun M205 v205 _ h => ?_)
                                                refine zV_lcmp_eq (off := 580) (tgt := 1719) (by decide +kernel) (by decide +kernel) (by decide) h (fun c206 h => ?_) (fun c206 h => ?_)
                                                · exact zV_lv (lv' := [(0, .inr (.inr (some sb))), (1, .inr (.inr p1)), (2, .inr (.inr p2)), (3, .inl l3)]) [0, 1, 2, 3] rfl (zt_L_law_J1719 hscr h k1 k2)
                                                · refine zV_b (pc' := 1143) (lv' := [(0, .inr (.inr (some sb))), (1, .inr (.inr p1)), (2, .inr (.inr p2)), (3, .inl l3)]) (st' := [.inl (0 : Int32)]) [(.iconst 0, 1)] (by decide +kernel) rfl ?_
                                                  obtain ⟨w, ew, h⟩ := zb1_inv h
                                                  obtain ⟨rfl, hv⟩ := zo_b_inv ew
                                                  have hq : zRz X zC_L_law M205 (0 : Int32) := k2 _ (Option.some.inj h).symm
                                                  exact hq hv _ _ (by decide +kernel)
                                              · have h := (zite h).2 e8_21
                                                by_cases e8_22 : (v7 &&& (63 : Int32)) = 22
                                                · have h := (zite h).1 e8_22
                                                  refine zV_top e8_22 (zV_tin (tgt := 1144) zd_L_law_33 (by decide) (by decide) rfl (by decide) ?_)
                                                  refine zV_b (pc' := 1149) (lv' := [(0, .inr (.inr (some sb))), (1, .inr (.inr p1)), (2, .inr (.inr p2)), (3, .inl l3)]) (st' := [.inl (l3 + (1 : Int32)), .inr (.inr (some sb)), .inr (.inr p1)]) [(.aload_n 1, 1), (.aload_n 0, 1), (.iload_n 3, 1), (.iconst 1, 1), (.iadd, 1)] (by decide +kernel) rfl ?_
                                                  refine zV_xs hscr (by decide +kernel) h (fun v208 _ h => ?_)
                                                  refine zV_b (pc' := 1154) (lv' := [(0, .inr (.inr (some sb))), (1, .inr (.inr p1)), (2, .inr (.inr p2)), (3, .inl l3)]) (st' := [.inl (l3 + (2 : Int32)), .inr (.inr (some sb)), .inl v208, .inr (.inr p1)]) [(.aload_n 0, 1), (.iload_n 3, 1), (.iconst 2, 1), (.iadd, 1)] (by decide +kernel) rfl ?_
                                                  refine zV_xs hscr (by decide +kernel) h (fun v209 _ h => ?_)
                                                  refine zV_cvj (As := [.inl v208, .inl v209]) (st := []) (c := 12) (by decide +kernel) (zcl_X11_judge (by decide) (by decide)) ⟨zw_1136, zw_1137, zw_1138⟩ ⟨⟨_, _, rfl⟩, by decide⟩ rfl rfl (Nat.le_of_ble_eq_true rfl) h (fun _ _ e => zc_X11_judge e) (fun M210 v210 _ h => ?_)
                                                  refine zV_b (pc' := 1163) (lv' := [(0, .inr (.inr (some sb))), (1, .inr (.inr p1)), (2, .inr (.inr p2)), (3, .inl l3)]) (st' := [.inl (l3 + (1 : Int32)), .inr (.inr (some sb)), .inr (.inr p2), .inr (.inl v210)]) [(.aload_n 2, 1), (.aload_n 0, 1), (.iload_n 3, 1), (.iconst 1, 1), (.iadd, 1)] (by decide +kernel) rfl ?_
                                                  refine zV_xs hscr (by decide +kernel) h (fun v211 _ h => ?_)
                                                  refine zV_b (pc' := 1168) (lv' := [(0, .inr (.inr (some sb))), (1, .inr (.inr p1)), (2, .inr (.inr p2)), (3, .inl l3)]) (st' := [.inl (l3 + (2 : Int32)), .inr (.inr (some sb)), .inl v211, .inr (.inr p2), .inr (.inl v210)]) [(.aload_n 0, 1), (.iload_n 3, 1), (.iconst 2, 1), (.iadd, 1)] (by decide +kernel) rfl ?_
                                                  refine zV_xs hscr (by decide +kernel) h (fun v212 _ h => ?_)
                                                  refine zV_cvj (As := [.inl v211, .inl v212]) (st := [.inr (.inl v210)]) (c := 13) (by decide +kernel) (zcl_X12_judge (by decide) (by decide)) ⟨zw_1902, zw_1903, zw_1904⟩ ⟨⟨_, _, rfl⟩, by decide⟩ rfl rfl (Nat.le_of_ble_eq_true rfl) h (fun _ _ e => zc_X12_judge e) (fun M213 v213 _ h => ?_)
                                                  refine zV_lcmp_eq (off := 546) (tgt := 1719) (by decide +kernel) (by decide +kernel) (by decide) h (fun c214 h => ?_) (fun c214 h => ?_)
                                                  · exact zV_lv (lv' := [(0, .inr (.inr (some sb))), (1, .inr (.inr p1)), (2, .inr (.inr p2)), (3, .inl l3)]) [0, 1, 2, 3] rfl (zt_L_law_J1719 hscr h k1 k2)
                                                  · refine zV_b (pc' := 1177) (lv' := [(0, .inr (.inr (some sb))), (1, .inr (.inr p1)), (2, .inr (.inr p2)), (3, .inl l3)]) (st' := [.inl (0 : Int32)]) [(.iconst 0, 1)] (by decide +kernel) rfl ?_
                                                    obtain ⟨w, ew, h⟩ := zb1_inv h
                                                    obtain ⟨rfl, hv⟩ := zo_b_inv ew
                                                    have hq : zRz X zC_L_law M213 (0 : Int32) := k2 _ (Option.some.inj h).symm
                                                    exact hq hv _ _ (by decide +kernel)
                                                · have h := (zite h).2 e8_22
                                                  by_cases e8_23 : (v7 &&& (63 : Int32)) = 23
                                                  · have h := (zite h).1 e8_23
                                                    refine zV_top e8_23 (zV_tin (tgt := 1178) zd_L_law_33 (by decide) (by decide) rfl (by decide) ?_)
                                                    refine zV_b (pc' := 1183) (lv' := [(0, .inr (.inr (some sb))), (1, .inr (.inr p1)), (2, .inr (.inr p2)), (3, .inl l3)]) (st' := [.inl (l3 + (1 : Int32)), .inr (.inr (some sb)), .inr (.inr p1)]) [(.aload_n 1, 1), (.aload_n 0, 1), (.iload_n 3, 1), (.iconst 1, 1), (.iadd, 1)] (by decide +kernel) rfl ?_
                                                    refine zV_xs hscr (by decide +kernel) h (fun v216 _ h => ?_)
                                                    refine zV_b (pc' := 1188) (lv' := [(0, .inr (.inr (some sb))), (1, .inr (.inr p1)), (2, .inr (.inr p2)), (3, .inl l3)]) (st' := [.inl (l3 + (2 : Int32)), .inr (.inr (some sb)), .inl v216, .inr (.inr p1)]) [(.aload_n 0, 1), (.iload_n 3, 1), (.iconst 2, 1), (.iadd, 1)] (by decide +kernel) rfl ?_
                                                    refine zV_xs hscr (by decide +kernel) h (fun v217 _ h => ?_)
                                                    refine zV_b (pc' := 1197) (lv' := [(0, .inr (.inr (some sb))), (1, .inr (.inr p1)), (2, .inr (.inr p2)), (3, .inl l3)]) (st' := [.inl (l3 + (3 : Int32)), .inr (.inr (some sb)), .inr (.inl ((v217.toInt64) <<< (((32 : Int32)).toInt64 &&& 63))), .inl v216, .inr (.inr p1)]) [(.i2l, 1), (.bipush 32, 2), (.lshl, 1), (.aload_n 0, 1), (.iload_n 3, 1), (.iconst 3, 1), (.iadd, 1)] (by decide +kernel) rfl ?_
                                                    refine zV_xs hscr (by decide +kernel) h (fun v218 _ h => ?_)
                                                    refine zV_b (pc' := 1199) (lv' := [(0, .inr (.inr (some sb))), (1, .inr (.inr p1)), (2, .inr (.inr p2)), (3, .inl l3)]) (st' := [.inr (.inl (v218.toInt64)), .inr (.inl ((v217.toInt64) <<< (((32 : Int32)).toInt64 &&& 63))), .inl v216, .inr (.inr p1)]) [(.i2l, 1)] (by decide +kernel) rfl ?_
                                                    refine zV_ldc2 (by decide +kernel) zw_2045 ?_
                                                    refine zV_b (pc' := 1208) (lv' := [(0, .inr (.inr (some sb))), (1, .inr (.inr p1)), (2, .inr (.inr p2)), (3, .inl l3)]) (st' := [.inl (l3 + (4 : Int32)), .inr (.inr (some sb)), .inr (.inl (((v217.toInt64) <<< (((32 : Int32)).toInt64 &&& 63)) ||| ((v218.toInt64) &&& (4294967295 : Int64)))), .inl v216, .inr (.inr p1)]) [(.land, 1), (.lor, 1), (.aload_n 0, 1), (.iload_n 3, 1), (.iconst 4, 1), (.iadd, 1)] (by decide +kernel) rfl ?_
                                                    refine zV_xs hscr (by decide +kernel) h (fun v220 _ h => ?_)
                                                    refine zV_cvj (As := [.inl v216, .inr (.inl (((v217.toInt64) <<< (((32 : Int32)).toInt64 &&& 63)) ||| ((v218.toInt64) &&& (4294967295 : Int64)))), .inl v220]) (st := []) (c := 12) (by decide +kernel) (zcl_X11_plan (by decide) (by decide)) ⟨zw_1187, zw_1188, zw_1189⟩ ⟨⟨_, _, rfl⟩, by decide⟩ rfl rfl (Nat.le_of_ble_eq_true rfl) h (fun _ _ e => zc_X11_plan e) (fun M221 v221 _ h => ?_)
                                                    refine zV_b (pc' := 1217) (lv' := [(0, .inr (.inr (some sb))), (1, .inr (.inr p1)), (2, .inr (.inr p2)), (3, .inl l3)]) (st' := [.inl (l3 + (1 : Int32)), .inr (.inr (some sb)), .inr (.inr p2), .inr (.inl v221)]) [(.aload_n 2, 1), (.aload_n 0, 1), (.iload_n 3, 1), (.iconst 1, 1), (.iadd, 1)] (by decide +kernel) rfl ?_
                                                    refine zV_xs hscr (by decide +kernel) h (fun v222 _ h => ?_)
                                                    refine zV_b (pc' := 1222) (lv' := [(0, .inr (.inr (some sb))), (1, .inr (.inr p1)), (2, .inr (.inr p2)), (3, .inl l3)]) (st' := [.inl (l3 + (2 : Int32)), .inr (.inr (some sb)), .inl v222, .inr (.inr p2), .inr (.inl v221)]) [(.aload_n 0, 1), (.iload_n 3, 1), (.iconst 2, 1), (.iadd, 1)] (by decide +kernel) rfl ?_
                                                    refine zV_xs hscr (by decide +kernel) h (fun v223 _ h => ?_)
                                                    refine zV_b (pc' := 1231) (lv' := [(0, .inr (.inr (some sb))), (1, .inr (.inr p1)), (2, .inr (.inr p2)), (3, .inl l3)]) (st' := [.inl (l3 + (3 : Int32)), .inr (.inr (some sb)), .inr (.inl ((v223.toInt64) <<< (((32 : Int32)).toInt64 &&& 63))), .inl v222, .inr (.inr p2), .inr (.inl v221)]) [(.i2l, 1), (.bipush 32, 2), (.lshl, 1), (.aload_n 0, 1), (.iload_n 3, 1), (.iconst 3, 1), (.iadd, 1)] (by decide +kernel) rfl ?_
                                                    refine zV_xs hscr (by decide +kernel) h (fun v224 _ h => ?_)
                                                    refine zV_b (pc' := 1233) (lv' := [(0, .inr (.inr (some sb))), (1, .inr (.inr p1)), (2, .inr (.inr p2)), (3, .inl l3)]) (st' := [.inr (.inl (v224.toInt64)), .inr (.inl ((v223.toInt64) <<< (((32 : Int32)).toInt64 &&& 63))), .inl v222, .inr (.inr p2), .inr (.inl v221)]) [(.i2l, 1)] (by decide +kernel) rfl ?_
                                                    refine zV_ldc2 (by decide +kernel) zw_2045 ?_
                                                    refine zV_b (pc' := 1242) (lv' := [(0, .inr (.inr (some sb))), (1, .inr (.inr p1)), (2, .inr (.inr p2)), (3, .inl l3)]) (st' := [.inl (l3 + (4 : Int32)), .inr (.inr (some sb)), .inr (.inl (((v223.toInt64) <<< (((32 : Int32)).toInt64 &&& 63)) ||| ((v224.toInt64) &&& (4294967295 : Int64)))), .inl v222, .inr (.inr p2), .inr (.inl v221)]) [(.land, 1), (.lor, 1), (.aload_n 0, 1), (.iload_n 3, 1), (.iconst 4, 1), (.iadd, 1)] (by decide +kernel) rfl ?_
                                                    refine zV_xs hscr (by decide +kernel) h (fun v226 _ h => ?_)
                                                    refine zV_cvj (As := [.inl v222, .inr (.inl (((v223.toInt64) <<< (((32 : Int32)).toInt64 &&& 63)) ||| ((v224.toInt64) &&& (4294967295 : Int64)))), .inl v226]) (st := [.inr (.inl v221)]) (c := 13) (by decide +kernel) (zcl_X12_plan (by decide) (by decide)) ⟨zw_1923, zw_1924, zw_1925⟩ ⟨⟨_, _, rfl⟩, by decide⟩ rfl rfl (Nat.le_of_ble_eq_true rfl) h (fun _ _ e => zc_X12_plan e) (fun M227 v227 _ h => ?_)
                                                    refine zV_lcmp_eq (off := 472) (tgt := 1719) (by decide +kernel) (by decide +kernel) (by decide) h (fun c228 h => ?_) (fun c228 h => ?_)
                                                    · exact zV_lv (lv' := [(0, .inr (.inr (some sb))), (1, .inr (.inr p1)), (2, .inr (.inr p2)), (3, .inl l3)]) [0, 1, 2, 3] rfl (zt_L_law_J1719 hscr h k1 k2)
                                                    · refine zV_b (pc' := 1251) (lv' := [(0, .inr (.inr (some sb))), (1, .inr (.inr p1)), (2, .inr (.inr p2)), (3, .inl l3)]) (st' := [.inl (0 : Int32)]) [(.iconst 0, 1)] (by decide +kernel) rfl ?_
                                                      obtain ⟨w, ew, h⟩ := zb1_inv h
                                                      obtain ⟨rfl, hv⟩ := zo_b_inv ew
                                                      have hq : zRz X zC_L_law M227 (0 : Int32) := k2 _ (Option.some.inj h).symm
                                                      exact hq hv _ _ (by decide +kernel)
                                                  · have h := (zite h).2 e8_23
                                                    by_cases e8_24 : (v7 &&& (63 : Int32)) = 24
                                                    · have h := (zite h).1 e8_24
                                                      refine zV_top e8_24 (zV_tin (tgt := 1252) zd_L_law_33 (by decide) (by decide) rfl (by decide) ?_)
                                                      refine zV_b (pc' := 1253) (lv' := [(0, .inr (.inr (some sb))), (1, .inr (.inr p1)), (2, .inr (.inr p2)), (3, .inl l3)]) (st' := [.inr (.inr p1)]) [(.aload_n 1, 1)] (by decide +kernel) rfl ?_
                                                      refine zV_cvj (As := []) (st := []) (c := 12) (by decide +kernel) (zcl_X11_undo (by decide) (by decide)) ⟨zw_1248, zw_1249, zw_1250⟩ ⟨⟨_, _, rfl⟩, by decide⟩ rfl rfl (Nat.le_of_ble_eq_true rfl) h (fun _ _ e => zc_X11_undo e) (fun M230 v230 _ h => ?_)
                                                      refine zV_b (pc' := 1257) (lv' := [(0, .inr (.inr (some sb))), (1, .inr (.inr p1)), (2, .inr (.inr p2)), (3, .inl l3)]) (st' := [.inr (.inr p2), .inr (.inl v230)]) [(.aload_n 2, 1)] (by decide +kernel) rfl ?_
                                                      refine zV_cvj (As := []) (st := [.inr (.inl v230)]) (c := 13) (by decide +kernel) (zcl_X12_undo (by decide) (by decide)) ⟨zw_1938, zw_1939, zw_1940⟩ ⟨⟨_, _, rfl⟩, by decide⟩ rfl rfl (Nat.le_of_ble_eq_true rfl) h (fun _ _ e => zc_X12_undo e) (fun M231 v231 _ h => ?_)
                                                      refine zV_lcmp_eq (off := 458) (tgt := 1719) (by decide +kernel) (by decide +kernel) (by decide) h (fun c232 h => ?_) (fun c232 h => ?_)
                                                      · exact zV_lv (lv' := [(0, .inr (.inr (some sb))), (1, .inr (.inr p1)), (2, .inr (.inr p2)), (3, .inl l3)]) [0, 1, 2, 3] rfl (zt_L_law_J1719 hscr h k1 k2)
                                                      · refine zV_b (pc' := 1265) (lv' := [(0, .inr (.inr (some sb))), (1, .inr (.inr p1)), (2, .inr (.inr p2)), (3, .inl l3)]) (st' := [.inl (0 : Int32)]) [(.iconst 0, 1)] (by decide +kernel) rfl ?_
                                                        obtain ⟨w, ew, h⟩ := zb1_inv h
                                                        obtain ⟨rfl, hv⟩ := zo_b_inv ew
                                                        have hq : zRz X zC_L_law M231 (0 : Int32) := k2 _ (Option.some.inj h).symm
                                                        exact hq hv _ _ (by decide +kernel)
                                                    · have h := (zite h).2 e8_24
                                                      by_cases e8_25 : (v7 &&& (63 : Int32)) = 25
                                                      · have h := (zite h).1 e8_25
                                                        refine zV_top e8_25 (zV_tin (tgt := 1266) zd_L_law_33 (by decide) (by decide) rfl (by decide) ?_)
                                                        refine zV_b (pc' := 1271) (lv' := [(0, .inr (.inr (some sb))), (1, .inr (.inr p1)), (2, .inr (.inr p2)), (3, .inl l3)]) (st' := [.inl (l3 + (1 : Int32)), .inr (.inr (some sb)), .inr (.inr p1)]) [(.aload_n 1, 1), (.aload_n 0, 1), (.iload_n 3, 1), (.iconst 1, 1), (.iadd, 1)] (by decide +kernel) rfl ?_
                                                        refine zV_xs hscr (by decide +kernel) h (fun v234 _ h => ?_)
                                                        refine zV_cvi (As := [.inl v234]) (st := []) (c := 12) (by decide +kernel) (zcl_X11_kindOf (by decide) (by decide)) ⟨zw_1286, zw_1287, zw_1288⟩ ⟨⟨_, _, rfl⟩, by decide⟩ rfl rfl (Nat.le_of_ble_eq_true rfl) h (fun _ _ e => zc_X11_kindOf e) (fun M235 v235 _ h => ?_)
                                                        refine zV_b (pc' := 1280) (lv' := [(0, .inr (.inr (some sb))), (1, .inr (.inr p1)), (2, .inr (.inr p2)), (3, .inl l3)]) (st' := [.inl (l3 + (1 : Int32)), .inr (.inr (some sb)), .inr (.inr p2), .inl v235]) [(.aload_n 2, 1), (.aload_n 0, 1), (.iload_n 3, 1), (.iconst 1, 1), (.iadd, 1)] (by decide +kernel) rfl ?_
                                                        refine zV_xs hscr (by decide +kernel) h (fun v236 _ h => ?_)
                                                        refine zV_cvi (As := [.inl v236]) (st := [.inl v235]) (c := 13) (by decide +kernel) (zcl_X12_kindOf (by decide) (by decide)) ⟨zw_1946, zw_1947, zw_1948⟩ ⟨⟨_, _, rfl⟩, by decide⟩ rfl rfl (Nat.le_of_ble_eq_true rfl) h (fun _ _ e => zc_X12_kindOf e) (fun M237 v237 _ h => ?_)
                                                        refine zV_icmp_eq (off := 435) (tgt := 1719) (by decide +kernel) (by decide) h (fun c238 h => ?_) (fun c238 h => ?_)
                                                        · exact zV_lv (lv' := [(0, .inr (.inr (some sb))), (1, .inr (.inr p1)), (2, .inr (.inr p2)), (3, .inl l3)]) [0, 1, 2, 3] rfl (zt_L_law_J1719 hscr h k1 k2)
                                                        · refine zV_b (pc' := 1288) (lv' := [(0, .inr (.inr (some sb))), (1, .inr (.inr p1)), (2, .inr (.inr p2)), (3, .inl l3)]) (st' := [.inl (0 : Int32)]) [(.iconst 0, 1)] (by decide +kernel) rfl ?_
                                                          obtain ⟨w, ew, h⟩ := zb1_inv h
                                                          obtain ⟨rfl, hv⟩ := zo_b_inv ew
                                                          have hq : zRz X zC_L_law M237 (0 : Int32) := k2 _ (Option.some.inj h).symm
                                                          exact hq hv _ _ (by decide +kernel)
                                                      · have h := (zite h).2 e8_25
                                                        by_cases e8_26 : (v7 &&& (63 : Int32)) = 26
                                                        · have h := (zite h).1 e8_26
                                                          refine zV_top e8_26 (zV_tin (tgt := 1289) zd_L_law_33 (by decide) (by decide) rfl (by decide) ?_)
                                                          refine zV_b (pc' := 1294) (lv' := [(0, .inr (.inr (some sb))), (1, .inr (.inr p1)), (2, .inr (.inr p2)), (3, .inl l3)]) (st' := [.inl (l3 + (1 : Int32)), .inr (.inr (some sb)), .inr (.inr p1)]) [(.aload_n 1, 1), (.aload_n 0, 1), (.iload_n 3, 1), (.iconst 1, 1), (.iadd, 1)] (by decide +kernel) rfl ?_
                                                          refine zV_xs hscr (by decide +kernel) h (fun v240 _ h => ?_)
                                                          refine zV_cvi (As := [.inl v240]) (st := []) (c := 12) (by decide +kernel) (zcl_X11_where (by decide) (by decide)) ⟨zw_1290, zw_1291, zw_1292⟩ ⟨⟨_, _, rfl⟩, by decide⟩ rfl rfl (Nat.le_of_ble_eq_true rfl) h (fun _ _ e => zc_X11_where e) (fun M241 v241 _ h => ?_)
                                                          refine zV_b (pc' := 1303) (lv' := [(0, .inr (.inr (some sb))), (1, .inr (.inr p1)), (2, .inr (.inr p2)), (3, .inl l3)]) (st' := [.inl (l3 + (1 : Int32)), .inr (.inr (some sb)), .inr (.inr p2), .inl v241]) [(.aload_n 2, 1), (.aload_n 0, 1), (.iload_n 3, 1), (.iconst 1, 1), (.iadd, 1)] (by decide +kernel) rfl ?_
                                                          refine zV_xs hscr (by decide +kernel) h (fun v242 _ h => ?_)
                                                          refine zV_cvi (As := [.inl v242]) (st := [.inl v241]) (c := 13) (by decide +kernel) (zcl_X12_where (by decide) (by decide)) ⟨zw_1954, zw_1955, zw_1956⟩ ⟨⟨_, _, rfl⟩, by decide⟩ rfl rfl (Nat.le_of_ble_eq_true rfl) h (fun _ _ e => zc_X12_where e) (fun M243 v243 _ h => ?_)
                                                          refine zV_icmp_eq (off := 412) (tgt := 1719) (by decide +kernel) (by decide) h (fun c244 h => ?_) (fun c244 h => ?_)
                                                          · exact zV_lv (lv' := [(0, .inr (.inr (some sb))), (1, .inr (.inr p1)), (2, .inr (.inr p2)), (3, .inl l3)]) [0, 1, 2, 3] rfl (zt_L_law_J1719 hscr h k1 k2)
                                                          · refine zV_b (pc' := 1311) (lv' := [(0, .inr (.inr (some sb))), (1, .inr (.inr p1)), (2, .inr (.inr p2)), (3, .inl l3)]) (st' := [.inl (0 : Int32)]) [(.iconst 0, 1)] (by decide +kernel) rfl ?_
                                                            obtain ⟨w, ew, h⟩ := zb1_inv h
                                                            obtain ⟨rfl, hv⟩ := zo_b_inv ew
                                                            have hq : zRz X zC_L_law M243 (0 : Int32) := k2 _ (Option.some.inj h).symm
                                                            exact hq hv _ _ (by decide +kernel)
                                                        · have h := (zite h).2 e8_26
                                                          by_cases e8_27 : (v7 &&& (63 : Int32)) = 27
                                                          · have h := (zite h).1 e8_27
                                                            refine zV_top e8_27 (zV_tin (tgt := 1312) zd_L_law_33 (by decide) (by decide) rfl (by decide) ?_)
                                                            refine zV_b (pc' := 1317) (lv' := [(0, .inr (.inr (some sb))), (1, .inr (.inr p1)), (2, .inr (.inr p2)), (3, .inl l3)]) (st' := [.inl (l3 + (1 : Int32)), .inr (.inr (some sb)), .inr (.inr p1)]) [(.aload_n 1, 1), (.aload_n 0, 1), (.iload_n 3, 1), (.iconst 1, 1), (.iadd, 1)] (by decide +kernel) rfl ?_
                                                            refine zV_xs hscr (by decide +kernel) h (fun v246 _ h => ?_)
                                                            refine zV_b (pc' := 1322) (lv' := [(0, .inr (.inr (some sb))), (1, .inr (.inr p1)), (2, .inr (.inr p2)), (3, .inl l3)]) (st' := [.inl (l3 + (2 : Int32)), .inr (.inr (some sb)), .inl v246, .inr (.inr p1)]) [(.aload_n 0, 1), (.iload_n 3, 1), (.iconst 2, 1), (.iadd, 1)] (by decide +kernel) rfl ?_
                                                            refine zV_xs hscr (by decide +kernel) h (fun v247 _ h => ?_)
                                                            refine zV_cvi (As := [.inl v246, .inl v247]) (st := []) (c := 12) (by decide +kernel) (zcl_X11_at (by decide) (by decide)) ⟨zw_1294, zw_1295, zw_1296⟩ ⟨⟨_, _, rfl⟩, by decide⟩ rfl rfl (Nat.le_of_ble_eq_true rfl) h (fun _ _ e => zc_X11_at e) (fun M248 v248 _ h => ?_)
                                                            refine zV_b (pc' := 1331) (lv' := [(0, .inr (.inr (some sb))), (1, .inr (.inr p1)), (2, .inr (.inr p2)), (3, .inl l3)]) (st' := [.inl (l3 + (1 : Int32)), .inr (.inr (some sb)), .inr (.inr p2), .inl v248]) [(.aload_n 2, 1), (.aload_n 0, 1), (.iload_n 3, 1), (.iconst 1, 1), (.iadd, 1)] (by decide +kernel) rfl ?_
                                                            refine zV_xs hscr (by decide +kernel) h (fun v249 _ h => ?_)
                                                            refine zV_b (pc' := 1336) (lv' := [(0, .inr (.inr (some sb))), (1, .inr (.inr p1)), (2, .inr (.inr p2)), (3, .inl l3)]) (st' := [.inl (l3 + (2 : Int32)), .inr (.inr (some sb)), .inl v249, .inr (.inr p2), .inl v248]) [(.aload_n 0, 1), (.iload_n 3, 1), (.iconst 2, 1), (.iadd, 1)] (by decide +kernel) rfl ?_
                                                            refine zV_xs hscr (by decide +kernel) h (fun v250 _ h => ?_)
                                                            refine zV_cvi (As := [.inl v249, .inl v250]) (st := [.inl v248]) (c := 13) (by decide +kernel) (zcl_X12_at (by decide) (by decide)) ⟨zw_1958, zw_1959, zw_1960⟩ ⟨⟨_, _, rfl⟩, by decide⟩ rfl rfl (Nat.le_of_ble_eq_true rfl) h (fun _ _ e => zc_X12_at e) (fun M251 v251 _ h => ?_)
                                                            refine zV_icmp_eq (off := 379) (tgt := 1719) (by decide +kernel) (by decide) h (fun c252 h => ?_) (fun c252 h => ?_)
                                                            · exact zV_lv (lv' := [(0, .inr (.inr (some sb))), (1, .inr (.inr p1)), (2, .inr (.inr p2)), (3, .inl l3)]) [0, 1, 2, 3] rfl (zt_L_law_J1719 hscr h k1 k2)
                                                            · refine zV_b (pc' := 1344) (lv' := [(0, .inr (.inr (some sb))), (1, .inr (.inr p1)), (2, .inr (.inr p2)), (3, .inl l3)]) (st' := [.inl (0 : Int32)]) [(.iconst 0, 1)] (by decide +kernel) rfl ?_
                                                              obtain ⟨w, ew, h⟩ := zb1_inv h
                                                              obtain ⟨rfl, hv⟩ := zo_b_inv ew
                                                              have hq : zRz X zC_L_law M251 (0 : Int32) := k2 _ (Option.some.inj h).symm
                                                              exact hq hv _ _ (by decide +kernel)
                                                          · have h := (zite h).2 e8_27
                                                            by_cases e8_28 : (v7 &&& (63 : Int32)) = 28
                                                            · have h := (zite h).1 e8_28
                                                              refine zV_top e8_28 (zV_tin (tgt := 1345) zd_L_law_33 (by decide) (by decide) rfl (by decide) ?_)
                                                              refine zV_b (pc' := 1350) (lv' := [(0, .inr (.inr (some sb))), (1, .inr (.inr p1)), (2, .inr (.inr p2)), (3, .inl l3)]) (st' := [.inl (l3 + (1 : Int32)), .inr (.inr (some sb)), .inr (.inr p1)]) [(.aload_n 1, 1), (.aload_n 0, 1), (.iload_n 3, 1), (.iconst 1, 1), (.iadd, 1)] (by decide +kernel) rfl ?_
                                                              refine zV_xs hscr (by decide +kernel) h (fun v254 _ h => ?_)
                                                              refine zV_cvj (As := [.inl v254]) (st := []) (c := 12) (by decide +kernel) (zcl_X11_amount (by decide) (by decide)) ⟨zw_1298, zw_1299, zw_1300⟩ ⟨⟨_, _, rfl⟩, by decide⟩ rfl rfl (Nat.le_of_ble_eq_true rfl) h (fun _ _ e => zc_X11_amount e) (fun M255 v255 _ h => ?_)
                                                              refine zV_b (pc' := 1359) (lv' := [(0, .inr (.inr (some sb))), (1, .inr (.inr p1)), (2, .inr (.inr p2)), (3, .inl l3)]) (st' := [.inl (l3 + (1 : Int32)), .inr (.inr (some sb)), .inr (.inr p2), .inr (.inl v255)]) [(.aload_n 2, 1), (.aload_n 0, 1), (.iload_n 3, 1), (.iconst 1, 1), (.iadd, 1)] (by decide +kernel) rfl ?_
                                                              refine zV_xs hscr (by decide +kernel) h (fun v256 _ h => ?_)
                                                              refine zV_cvj (As := [.inl v256]) (st := [.inr (.inl v255)]) (c := 13) (by decide +kernel) (zcl_X12_amount (by decide) (by decide)) ⟨zw_1962, zw_1963, zw_1964⟩ ⟨⟨_, _, rfl⟩, by decide⟩ rfl rfl (Nat.le_of_ble_eq_true rfl) h (fun _ _ e => zc_X12_amount e) (fun M257 v257 _ h => ?_)
                                                              refine zV_lcmp_eq (off := 355) (tgt := 1719) (by decide +kernel) (by decide +kernel) (by decide) h (fun c258 h => ?_) (fun c258 h => ?_)
                                                              · exact zV_lv (lv' := [(0, .inr (.inr (some sb))), (1, .inr (.inr p1)), (2, .inr (.inr p2)), (3, .inl l3)]) [0, 1, 2, 3] rfl (zt_L_law_J1719 hscr h k1 k2)
                                                              · refine zV_b (pc' := 1368) (lv' := [(0, .inr (.inr (some sb))), (1, .inr (.inr p1)), (2, .inr (.inr p2)), (3, .inl l3)]) (st' := [.inl (0 : Int32)]) [(.iconst 0, 1)] (by decide +kernel) rfl ?_
                                                                obtain ⟨w, ew, h⟩ := zb1_inv h
                                                                obtain ⟨rfl, hv⟩ := zo_b_inv ew
                                                                have hq : zRz X zC_L_law M257 (0 : Int32) := k2 _ (Option.some.inj h).symm
                                                                exact hq hv _ _ (by decide +kernel)
                                                            · have h := (zite h).2 e8_28
                                                              by_cases e8_29 : (v7 &&& (63 : Int32)) = 29
                                                              · have h := (zite h).1 e8_29
                                                                refine zV_top e8_29 (zV_tin (tgt := 1369) zd_L_law_33 (by decide) (by decide) rfl (by decide) ?_)
                                                                refine zV_b (pc' := 1374) (lv' := [(0, .inr (.inr (some sb))), (1, .inr (.inr p1)), (2, .inr (.inr p2)), (3, .inl l3)]) (st' := [.inl (l3 + (1 : Int32)), .inr (.inr (some sb)), .inr (.inr p1)]) [(.aload_n 1, 1), (.aload_n 0, 1), (.iload_n 3, 1), (.iconst 1, 1), (.iadd, 1)] (by decide +kernel) rfl ?_
                                                                refine zV_xs hscr (by decide +kernel) h (fun v260 _ h => ?_)
                                                                refine zV_b (pc' := 1379) (lv' := [(0, .inr (.inr (some sb))), (1, .inr (.inr p1)), (2, .inr (.inr p2)), (3, .inl l3)]) (st' := [.inl (l3 + (2 : Int32)), .inr (.inr (some sb)), .inl v260, .inr (.inr p1)]) [(.aload_n 0, 1), (.iload_n 3, 1), (.iconst 2, 1), (.iadd, 1)] (by decide +kernel) rfl ?_
                                                                refine zV_xs hscr (by decide +kernel) h (fun v261 _ h => ?_)
                                                                refine zV_cvj (As := [.inl v260, .inl v261]) (st := []) (c := 12) (by decide +kernel) (zcl_X11_part (by decide) (by decide)) ⟨zw_1302, zw_1303, zw_1304⟩ ⟨⟨_, _, rfl⟩, by decide⟩ rfl rfl (Nat.le_of_ble_eq_true rfl) h (fun _ _ e => zc_X11_part e) (fun M262 v262 _ h => ?_)
                                                                refine zV_b (pc' := 1388) (lv' := [(0, .inr (.inr (some sb))), (1, .inr (.inr p1)), (2, .inr (.inr p2)), (3, .inl l3)]) (st' := [.inl (l3 + (1 : Int32)), .inr (.inr (some sb)), .inr (.inr p2), .inr (.inl v262)]) [(.aload_n 2, 1), (.aload_n 0, 1), (.iload_n 3, 1), (.iconst 1, 1), (.iadd, 1)] (by decide +kernel) rfl ?_
                                                                refine zV_xs hscr (by decide +kernel) h (fun v263 _ h => ?_)
                                                                refine zV_b (pc' := 1393) (lv' := [(0, .inr (.inr (some sb))), (1, .inr (.inr p1)), (2, .inr (.inr p2)), (3, .inl l3)]) (st' := [.inl (l3 + (2 : Int32)), .inr (.inr (some sb)), .inl v263, .inr (.inr p2), .inr (.inl v262)]) [(.aload_n 0, 1), (.iload_n 3, 1), (.iconst 2, 1), (.iadd, 1)] (by decide +kernel) rfl ?_
                                                                refine zV_xs hscr (by decide +kernel) h (fun v264 _ h => ?_)
                                                                refine zV_cvj (As := [.inl v263, .inl v264]) (st := [.inr (.inl v262)]) (c := 13) (by decide +kernel) (zcl_X12_part (by decide) (by decide)) ⟨zw_1966, zw_1967, zw_1968⟩ ⟨⟨_, _, rfl⟩, by decide⟩ rfl rfl (Nat.le_of_ble_eq_true rfl) h (fun _ _ e => zc_X12_part e) (fun M265 v265 _ h => ?_)
                                                                refine zV_lcmp_eq (off := 321) (tgt := 1719) (by decide +kernel) (by decide +kernel) (by decide) h (fun c266 h => ?_) (fun c266 h => ?_)
                                                                · exact zV_lv (lv' := [(0, .inr (.inr (some sb))), (1, .inr (.inr p1)), (2, .inr (.inr p2)), (3, .inl l3)]) [0, 1, 2, 3] rfl (zt_L_law_J1719 hscr h k1 k2)
                                                                · refine zV_b (pc' := 1402) (lv' := [(0, .inr (.inr (some sb))), (1, .inr (.inr p1)), (2, .inr (.inr p2)), (3, .inl l3)]) (st' := [.inl (0 : Int32)]) [(.iconst 0, 1)] (by decide +kernel) rfl ?_
                                                                  obtain ⟨w, ew, h⟩ := zb1_inv h
                                                                  obtain ⟨rfl, hv⟩ := zo_b_inv ew
                                                                  have hq : zRz X zC_L_law M265 (0 : Int32) := k2 _ (Option.some.inj h).symm
                                                                  exact hq hv _ _ (by decide +kernel)
                                                              · have h := (zite h).2 e8_29
                                                                by_cases e8_30 : (v7 &&& (63 : Int32)) = 30
                                                                · have h := (zite h).1 e8_30
                                                                  refine zV_top e8_30 (zV_tin (tgt := 1403) zd_L_law_33 (by decide) (by decide) rfl (by decide) ?_)
                                                                  refine zV_b (pc' := 1408) (lv' := [(0, .inr (.inr (some sb))), (1, .inr (.inr p1)), (2, .inr (.inr p2)), (3, .inl l3)]) (st' := [.inl (l3 + (1 : Int32)), .inr (.inr (some sb)), .inr (.inr p1)]) [(.aload_n 1, 1), (.aload_n 0, 1), (.iload_n 3, 1), (.iconst 1, 1), (.iadd, 1)] (by decide +kernel) rfl ?_
                                                                  refine zV_xs hscr (by decide +kernel) h (fun v268 _ h => ?_)
                                                                  refine zV_cvi (As := [.inl v268]) (st := []) (c := 12) (by decide +kernel) (zcl_X11_parts (by decide) (by decide)) ⟨zw_1311, zw_1312, zw_1313⟩ ⟨⟨_, _, rfl⟩, by decide⟩ rfl rfl (Nat.le_of_ble_eq_true rfl) h (fun _ _ e => zc_X11_parts e) (fun M269 v269 _ h => ?_)
                                                                  refine zV_b (pc' := 1417) (lv' := [(0, .inr (.inr (some sb))), (1, .inr (.inr p1)), (2, .inr (.inr p2)), (3, .inl l3)]) (st' := [.inl (l3 + (1 : Int32)), .inr (.inr (some sb)), .inr (.inr p2), .inl v269]) [(.aload_n 2, 1), (.aload_n 0, 1), (.iload_n 3, 1), (.iconst 1, 1), (.iadd, 1)] (by decide +kernel) rfl ?_
                                                                  refine zV_xs hscr (by decide +kernel) h (fun v270 _ h => ?_)
                                                                  refine zV_cvi (As := [.inl v270]) (st := [.inl v269]) (c := 13) (by decide +kernel) (zcl_X12_parts (by decide) (by decide)) ⟨zw_1974, zw_1975, zw_1976⟩ ⟨⟨_, _, rfl⟩, by decide⟩ rfl rfl (Nat.le_of_ble_eq_true rfl) h (fun _ _ e => zc_X12_parts e) (fun M271 v271 _ h => ?_)
                                                                  refine zV_icmp_eq (off := 298) (tgt := 1719) (by decide +kernel) (by decide) h (fun c272 h => ?_) (fun c272 h => ?_)
                                                                  · exact zV_lv (lv' := [(0, .inr (.inr (some sb))), (1, .inr (.inr p1)), (2, .inr (.inr p2)), (3, .inl l3)]) [0, 1, 2, 3] rfl (zt_L_law_J1719 hscr h k1 k2)
                                                                  · refine zV_b (pc' := 1425) (lv' := [(0, .inr (.inr (some sb))), (1, .inr (.inr p1)), (2, .inr (.inr p2)), (3, .inl l3)]) (st' := [.inl (0 : Int32)]) [(.iconst 0, 1)] (by decide +kernel) rfl ?_
                                                                    obtain ⟨w, ew, h⟩ := zb1_inv h
                                                                    obtain ⟨rfl, hv⟩ := zo_b_inv ew
                                                                    have hq : zRz X zC_L_law M271 (0 : Int32) := k2 _ (Option.some.inj h).symm
                                                                    exact hq hv _ _ (by decide +kernel)
                                                                · have h := (zite h).2 e8_30
                                                                  by_cases e8_31 : (v7 &&& (63 : Int32)) = 31
                                                                  · have h := (zite h).1 e8_31
                                                                    refine zV_top e8_31 (zV_tin (tgt := 1426) zd_L_law_33 (by decide) (by decide) rfl (by decide) ?_)
                                                                    refine zV_b (pc' := 1431) (lv' := [(0, .inr (.inr (some sb))), (1, .inr (.inr p1)), (2, .inr (.inr p2)), (3, .inl l3)]) (st' := [.inl (l3 + (1 : Int32)), .inr (.inr (some sb)), .inr (.inr p1)]) [(.aload_n 1, 1), (.aload_n 0, 1), (.iload_n 3, 1), (.iconst 1, 1), (.iadd, 1)] (by decide +kernel) rfl ?_
                                                                    refine zV_xs hscr (by decide +kernel) h (fun v274 _ h => ?_)
                                                                    refine zV_b (pc' := 1436) (lv' := [(0, .inr (.inr (some sb))), (1, .inr (.inr p1)), (2, .inr (.inr p2)), (3, .inl l3)]) (st' := [.inl (l3 + (2 : Int32)), .inr (.inr (some sb)), .inl v274, .inr (.inr p1)]) [(.aload_n 0, 1), (.iload_n 3, 1), (.iconst 2, 1), (.iadd, 1)] (by decide +kernel) rfl ?_
                                                                    refine zV_xs hscr (by decide +kernel) h (fun v275 _ h => ?_)
                                                                    refine zV_cvj (As := [.inl v274, .inl v275]) (st := []) (c := 12) (by decide +kernel) (zcl_X11_account (by decide) (by decide)) ⟨zw_1319, zw_1320, zw_1321⟩ ⟨⟨_, _, rfl⟩, by decide⟩ rfl rfl (Nat.le_of_ble_eq_true rfl) h (fun _ _ e => zc_X11_account e) (fun M276 v276 _ h => ?_)
                                                                    refine zV_b (pc' := 1445) (lv' := [(0, .inr (.inr (some sb))), (1, .inr (.inr p1)), (2, .inr (.inr p2)), (3, .inl l3)]) (st' := [.inl (l3 + (1 : Int32)), .inr (.inr (some sb)), .inr (.inr p2), .inr (.inl v276)]) [(.aload_n 2, 1), (.aload_n 0, 1), (.iload_n 3, 1), (.iconst 1, 1), (.iadd, 1)] (by decide +kernel) rfl ?_
                                                                    refine zV_xs hscr (by decide +kernel) h (fun v277 _ h => ?_)
                                                                    refine zV_b (pc' := 1450) (lv' := [(0, .inr (.inr (some sb))), (1, .inr (.inr p1)), (2, .inr (.inr p2)), (3, .inl l3)]) (st' := [.inl (l3 + (2 : Int32)), .inr (.inr (some sb)), .inl v277, .inr (.inr p2), .inr (.inl v276)]) [(.aload_n 0, 1), (.iload_n 3, 1), (.iconst 2, 1), (.iadd, 1)] (by decide +kernel) rfl ?_
                                                                    refine zV_xs hscr (by decide +kernel) h (fun v278 _ h => ?_)
                                                                    refine zV_cvj (As := [.inl v277, .inl v278]) (st := [.inr (.inl v276)]) (c := 13) (by decide +kernel) (zcl_X12_account_ (by decide) (by decide)) ⟨zw_1978, zw_1979, zw_1980⟩ ⟨⟨_, _, rfl⟩, by decide⟩ rfl rfl (Nat.le_of_ble_eq_true rfl) h (fun _ _ e => zc_X12_account_ e) (fun M279 v279 _ h => ?_)
                                                                    refine zV_lcmp_eq (off := 264) (tgt := 1719) (by decide +kernel) (by decide +kernel) (by decide) h (fun c280 h => ?_) (fun c280 h => ?_)
                                                                    · exact zV_lv (lv' := [(0, .inr (.inr (some sb))), (1, .inr (.inr p1)), (2, .inr (.inr p2)), (3, .inl l3)]) [0, 1, 2, 3] rfl (zt_L_law_J1719 hscr h k1 k2)
                                                                    · refine zV_b (pc' := 1459) (lv' := [(0, .inr (.inr (some sb))), (1, .inr (.inr p1)), (2, .inr (.inr p2)), (3, .inl l3)]) (st' := [.inl (0 : Int32)]) [(.iconst 0, 1)] (by decide +kernel) rfl ?_
                                                                      obtain ⟨w, ew, h⟩ := zb1_inv h
                                                                      obtain ⟨rfl, hv⟩ := zo_b_inv ew
                                                                      have hq : zRz X zC_L_law M279 (0 : Int32) := k2 _ (Option.some.inj h).symm
                                                                      exact hq hv _ _ (by decide +kernel)
                                                                  · have h := (zite h).2 e8_31
                                                                    by_cases e8_32 : (v7 &&& (63 : Int32)) = 32
                                                                    · have h := (zite h).1 e8_32
                                                                      refine zV_top e8_32 (zV_tin (tgt := 1460) zd_L_law_33 (by decide) (by decide) rfl (by decide) ?_)
                                                                      refine zV_b (pc' := 1461) (lv' := [(0, .inr (.inr (some sb))), (1, .inr (.inr p1)), (2, .inr (.inr p2)), (3, .inl l3)]) (st' := [.inr (.inr p1)]) [(.aload_n 1, 1)] (by decide +kernel) rfl ?_
                                                                      refine zV_cvi (As := []) (st := []) (c := 12) (by decide +kernel) (zcl_X11_odd (by decide) (by decide)) ⟨zw_1323, zw_1324, zw_1325⟩ ⟨⟨_, _, rfl⟩, by decide⟩ rfl rfl (Nat.le_of_ble_eq_true rfl) h (fun _ _ e => zc_X11_odd e) (fun M282 v282 _ h => ?_)
                                                                      refine zV_b (pc' := 1465) (lv' := [(0, .inr (.inr (some sb))), (1, .inr (.inr p1)), (2, .inr (.inr p2)), (3, .inl l3)]) (st' := [.inr (.inr p2), .inl v282]) [(.aload_n 2, 1)] (by decide +kernel) rfl ?_
                                                                      refine zV_cvi (As := []) (st := [.inl v282]) (c := 13) (by decide +kernel) (zcl_X12_odd (by decide) (by decide)) ⟨zw_1982, zw_1983, zw_1984⟩ ⟨⟨_, _, rfl⟩, by decide⟩ rfl rfl (Nat.le_of_ble_eq_true rfl) h (fun _ _ e => zc_X12_odd e) (fun M283 v283 _ h => ?_)
                                                                      refine zV_icmp_eq (off := 251) (tgt := 1719) (by decide +kernel) (by decide) h (fun c284 h => ?_) (fun c284 h => ?_)
                                                                      · exact zV_lv (lv' := [(0, .inr (.inr (some sb))), (1, .inr (.inr p1)), (2, .inr (.inr p2)), (3, .inl l3)]) [0, 1, 2, 3] rfl (zt_L_law_J1719 hscr h k1 k2)
                                                                      · refine zV_b (pc' := 1472) (lv' := [(0, .inr (.inr (some sb))), (1, .inr (.inr p1)), (2, .inr (.inr p2)), (3, .inl l3)]) (st' := [.inl (0 : Int32)]) [(.iconst 0, 1)] (by decide +kernel) rfl ?_
                                                                        obtain ⟨w, ew, h⟩ := zb1_inv h
                                                                        obtain ⟨rfl, hv⟩ := zo_b_inv ew
                                                                        have hq : zRz X zC_L_law M283 (0 : Int32) := k2 _ (Option.some.inj h).symm
                                                                        exact hq hv _ _ (by decide +kernel)
                                                                    · have h := (zite h).2 e8_32
                                                                      by_cases e8_33 : (v7 &&& (63 : Int32)) = 33
                                                                      · have h := (zite h).1 e8_33
                                                                        refine zV_top e8_33 (zV_tin (tgt := 1473) zd_L_law_33 (by decide) (by decide) rfl (by decide) ?_)
                                                                        refine zV_b (pc' := 1474) (lv' := [(0, .inr (.inr (some sb))), (1, .inr (.inr p1)), (2, .inr (.inr p2)), (3, .inl l3)]) (st' := [.inr (.inr p1)]) [(.aload_n 1, 1)] (by decide +kernel) rfl ?_
                                                                        refine zV_cvi (As := []) (st := []) (c := 12) (by decide +kernel) (zcl_X11_strays (by decide) (by decide)) ⟨zw_1336, zw_1337, zw_1338⟩ ⟨⟨_, _, rfl⟩, by decide⟩ rfl rfl (Nat.le_of_ble_eq_true rfl) h (fun _ _ e => zc_X11_strays e) (fun M286 v286 _ h => ?_)
                                                                        refine zV_b (pc' := 1478) (lv' := [(0, .inr (.inr (some sb))), (1, .inr (.inr p1)), (2, .inr (.inr p2)), (3, .inl l3)]) (st' := [.inr (.inr p2), .inl v286]) [(.aload_n 2, 1)] (by decide +kernel) rfl ?_
                                                                        refine zV_cvi (As := []) (st := [.inl v286]) (c := 13) (by decide +kernel) (zcl_X12_strays (by decide) (by decide)) ⟨zw_1986, zw_1987, zw_1988⟩ ⟨⟨_, _, rfl⟩, by decide⟩ rfl rfl (Nat.le_of_ble_eq_true rfl) h (fun _ _ e => zc_X12_strays e) (fun M287 v287 _ h => ?_)
                                                                        refine zV_icmp_eq (off := 238) (tgt := 1719) (by decide +kernel) (by decide) h (fun c288 h => ?_) (fun c288 h => ?_)
                                                                        · exact zV_lv (lv' := [(0, .inr (.inr (some sb))), (1, .inr (.inr p1)), (2, .inr (.inr p2)), (3, .inl l3)]) [0, 1, 2, 3] rfl (zt_L_law_J1719 hscr h k1 k2)
                                                                        · refine zV_b (pc' := 1485) (lv' := [(0, .inr (.inr (some sb))), (1, .inr (.inr p1)), (2, .inr (.inr p2)), (3, .inl l3)]) (st' := [.inl (0 : Int32)]) [(.iconst 0, 1)] (by decide +kernel) rfl ?_
                                                                          obtain ⟨w, ew, h⟩ := zb1_inv h
                                                                          obtain ⟨rfl, hv⟩ := zo_b_inv ew
                                                                          have hq : zRz X zC_L_law M287 (0 : Int32) := k2 _ (Option.some.inj h).symm
                                                                          exact hq hv _ _ (by decide +kernel)
                                                                      · have h := (zite h).2 e8_33
                                                                        by_cases e8_34 : (v7 &&& (63 : Int32)) = 34
                                                                        · have h := (zite h).1 e8_34
                                                                          refine zV_top e8_34 (zV_tin (tgt := 1486) zd_L_law_33 (by decide) (by decide) rfl (by decide) ?_)
                                                                          refine zV_b (pc' := 1487) (lv' := [(0, .inr (.inr (some sb))), (1, .inr (.inr p1)), (2, .inr (.inr p2)), (3, .inl l3)]) (st' := [.inr (.inr p1)]) [(.aload_n 1, 1)] (by decide +kernel) rfl ?_
                                                                          refine zV_cvi (As := []) (st := []) (c := 12) (by decide +kernel) (zcl_X11_month (by decide) (by decide)) ⟨zw_1361, zw_1362, zw_1363⟩ ⟨⟨_, _, rfl⟩, by decide⟩ rfl rfl (Nat.le_of_ble_eq_true rfl) h (fun _ _ e => zc_X11_month e) (fun M290 v290 _ h => ?_)
                                                                          refine zV_b (pc' := 1491) (lv' := [(0, .inr (.inr (some sb))), (1, .inr (.inr p1)), (2, .inr (.inr p2)), (3, .inl l3)]) (st' := [.inr (.inr p2), .inl v290]) [(.aload_n 2, 1)] (by decide +kernel) rfl ?_
                                                                          refine zV_cvi (As := []) (st := [.inl v290]) (c := 13) (by decide +kernel) (zcl_X12_month (by decide) (by decide)) ⟨zw_1990, zw_1991, zw_1992⟩ ⟨⟨_, _, rfl⟩, by decide⟩ rfl rfl (Nat.le_of_ble_eq_true rfl) h (fun _ _ e => zc_X12_month e) (fun M291 v291 _ h => ?_)
                                                                          refine zV_icmp_eq (off := 225) (tgt := 1719) (by decide +kernel) (by decide) h (fun c292 h => ?_) (fun c292 h => ?_)
                                                                          · exact zV_lv (lv' := [(0, .inr (.inr (some sb))), (1, .inr (.inr p1)), (2, .inr (.inr p2)), (3, .inl l3)]) [0, 1, 2, 3] rfl (zt_L_law_J1719 hscr h k1 k2)
                                                                          · refine zV_b (pc' := 1498) (lv' := [(0, .inr (.inr (some sb))), (1, .inr (.inr p1)), (2, .inr (.inr p2)), (3, .inl l3)]) (st' := [.inl (0 : Int32)]) [(.iconst 0, 1)] (by decide +kernel) rfl ?_
                                                                            obtain ⟨w, ew, h⟩ := zb1_inv h
                                                                            obtain ⟨rfl, hv⟩ := zo_b_inv ew
                                                                            have hq : zRz X zC_L_law M291 (0 : Int32) := k2 _ (Option.some.inj h).symm
                                                                            exact hq hv _ _ (by decide +kernel)
                                                                        · have h := (zite h).2 e8_34
                                                                          by_cases e8_35 : (v7 &&& (63 : Int32)) = 35
                                                                          · have h := (zite h).1 e8_35
                                                                            refine zV_top e8_35 (zV_tin (tgt := 1499) zd_L_law_33 (by decide) (by decide) rfl (by decide) ?_)
                                                                            refine zV_b (pc' := 1500) (lv' := [(0, .inr (.inr (some sb))), (1, .inr (.inr p1)), (2, .inr (.inr p2)), (3, .inl l3)]) (st' := [.inr (.inr p1)]) [(.aload_n 1, 1)] (by decide +kernel) rfl ?_
                                                                            refine zV_cvi (As := []) (st := []) (c := 12) (by decide +kernel) (zcl_X11_bottlings (by decide) (by decide)) ⟨zw_1365, zw_1366, zw_1367⟩ ⟨⟨_, _, rfl⟩, by decide⟩ rfl rfl (Nat.le_of_ble_eq_true rfl) h (fun _ _ e => zc_X11_bottlings e) (fun M294 v294 _ h => ?_)
                                                                            refine zV_b (pc' := 1504) (lv' := [(0, .inr (.inr (some sb))), (1, .inr (.inr p1)), (2, .inr (.inr p2)), (3, .inl l3)]) (st' := [.inr (.inr p2), .inl v294]) [(.aload_n 2, 1)] (by decide +kernel) rfl ?_
                                                                            refine zV_cvi (As := []) (st := [.inl v294]) (c := 13) (by decide +kernel) (zcl_X12_bottlings (by decide) (by decide)) ⟨zw_1994, zw_1995, zw_1996⟩ ⟨⟨_, _, rfl⟩, by decide⟩ rfl rfl (Nat.le_of_ble_eq_true rfl) h (fun _ _ e => zc_X12_bottlings e) (fun M295 v295 _ h => ?_)
                                                                            refine zV_icmp_eq (off := 212) (tgt := 1719) (by decide +kernel) (by decide) h (fun c296 h => ?_) (fun c296 h => ?_)
                                                                            · exact zV_lv (lv' := [(0, .inr (.inr (some sb))), (1, .inr (.inr p1)), (2, .inr (.inr p2)), (3, .inl l3)]) [0, 1, 2, 3] rfl (zt_L_law_J1719 hscr h k1 k2)
                                                                            · refine zV_b (pc' := 1511) (lv' := [(0, .inr (.inr (some sb))), (1, .inr (.inr p1)), (2, .inr (.inr p2)), (3, .inl l3)]) (st' := [.inl (0 : Int32)]) [(.iconst 0, 1)] (by decide +kernel) rfl ?_
                                                                              obtain ⟨w, ew, h⟩ := zb1_inv h
                                                                              obtain ⟨rfl, hv⟩ := zo_b_inv ew
                                                                              have hq : zRz X zC_L_law M295 (0 : Int32) := k2 _ (Option.some.inj h).symm
                                                                              exact hq hv _ _ (by decide +kernel)
                                                                          · have h := (zite h).2 e8_35
                                                                            by_cases e8_36 : (v7 &&& (63 : Int32)) = 36
                                                                            · have h := (zite h).1 e8_36
                                                                              refine zV_top e8_36 (zV_tin (tgt := 1512) zd_L_law_33 (by decide) (by decide) rfl (by decide) ?_)
                                                                              refine zV_b (pc' := 1517) (lv' := [(0, .inr (.inr (some sb))), (1, .inr (.inr p1)), (2, .inr (.inr p2)), (3, .inl l3)]) (st' := [.inl (l3 + (1 : Int32)), .inr (.inr (some sb)), .inr (.inr p1)]) [(.aload_n 1, 1), (.aload_n 0, 1), (.iload_n 3, 1), (.iconst 1, 1), (.iadd, 1)] (by decide +kernel) rfl ?_
                                                                              refine zV_xs hscr (by decide +kernel) h (fun v298 _ h => ?_)
                                                                              refine zV_b (pc' := 1522) (lv' := [(0, .inr (.inr (some sb))), (1, .inr (.inr p1)), (2, .inr (.inr p2)), (3, .inl l3)]) (st' := [.inl (l3 + (2 : Int32)), .inr (.inr (some sb)), .inl v298, .inr (.inr p1)]) [(.aload_n 0, 1), (.iload_n 3, 1), (.iconst 2, 1), (.iadd, 1)] (by decide +kernel) rfl ?_
                                                                              refine zV_xs hscr (by decide +kernel) h (fun v299 _ h => ?_)
                                                                              refine zV_cvj (As := [.inl v298, .inl v299]) (st := []) (c := 12) (by decide +kernel) (zcl_X11_bottling (by decide) (by decide)) ⟨zw_1369, zw_1370, zw_1371⟩ ⟨⟨_, _, rfl⟩, by decide⟩ rfl rfl (Nat.le_of_ble_eq_true rfl) h (fun _ _ e => zc_X11_bottling e) (fun M300 v300 _ h => ?_)
                                                                              refine zV_b (pc' := 1531) (lv' := [(0, .inr (.inr (some sb))), (1, .inr (.inr p1)), (2, .inr (.inr p2)), (3, .inl l3)]) (st' := [.inl (l3 + (1 : Int32)), .inr (.inr (some sb)), .inr (.inr p2), .inr (.inl v300)]) [(.aload_n 2, 1), (.aload_n 0, 1), (.iload_n 3, 1), (.iconst 1, 1), (.iadd, 1)] (by decide +kernel) rfl ?_
                                                                              refine zV_xs hscr (by decide +kernel) h (fun v301 _ h => ?_)
                                                                              refine zV_b (pc' := 1536) (lv' := [(0, .inr (.inr (some sb))), (1, .inr (.inr p1)), (2, .inr (.inr p2)), (3, .inl l3)]) (st' := [.inl (l3 + (2 : Int32)), .inr (.inr (some sb)), .inl v301, .inr (.inr p2), .inr (.inl v300)]) [(.aload_n 0, 1), (.iload_n 3, 1), (.iconst 2, 1), (.iadd, 1)] (by decide +kernel) rfl ?_
                                                                              refine zV_xs hscr (by decide +kernel) h (fun v302 _ h => ?_)
                                                                              refine zV_cvj (As := [.inl v301, .inl v302]) (st := [.inr (.inl v300)]) (c := 13) (by decide +kernel) (zcl_X12_bottling (by decide) (by decide)) ⟨zw_1998, zw_1999, zw_2000⟩ ⟨⟨_, _, rfl⟩, by decide⟩ rfl rfl (Nat.le_of_ble_eq_true rfl) h (fun _ _ e => zc_X12_bottling e) (fun M303 v303 _ h => ?_)
                                                                              refine zV_lcmp_eq (off := 178) (tgt := 1719) (by decide +kernel) (by decide +kernel) (by decide) h (fun c304 h => ?_) (fun c304 h => ?_)
                                                                              · exact zV_lv (lv' := [(0, .inr (.inr (some sb))), (1, .inr (.inr p1)), (2, .inr (.inr p2)), (3, .inl l3)]) [0, 1, 2, 3] rfl (zt_L_law_J1719 hscr h k1 k2)
                                                                              · refine zV_b (pc' := 1545) (lv' := [(0, .inr (.inr (some sb))), (1, .inr (.inr p1)), (2, .inr (.inr p2)), (3, .inl l3)]) (st' := [.inl (0 : Int32)]) [(.iconst 0, 1)] (by decide +kernel) rfl ?_
                                                                                obtain ⟨w, ew, h⟩ := zb1_inv h
                                                                                obtain ⟨rfl, hv⟩ := zo_b_inv ew
                                                                                have hq : zRz X zC_L_law M303 (0 : Int32) := k2 _ (Option.some.inj h).symm
                                                                                exact hq hv _ _ (by decide +kernel)
                                                                            · have h := (zite h).2 e8_36
                                                                              by_cases e8_37 : (v7 &&& (63 : Int32)) = 37
                                                                              · have h := (zite h).1 e8_37
                                                                                refine zV_top e8_37 (zV_tin (tgt := 1546) zd_L_law_33 (by decide) (by decide) rfl (by decide) ?_)
                                                                                refine zV_b (pc' := 1547) (lv' := [(0, .inr (.inr (some sb))), (1, .inr (.inr p1)), (2, .inr (.inr p2)), (3, .inl l3)]) (st' := [.inr (.inr p1)]) [(.aload_n 1, 1)] (by decide +kernel) rfl ?_
                                                                                refine zV_cvi (As := []) (st := []) (c := 12) (by decide +kernel) (zcl_X11_entries (by decide) (by decide)) ⟨zw_1378, zw_1379, zw_1380⟩ ⟨⟨_, _, rfl⟩, by decide⟩ rfl rfl (Nat.le_of_ble_eq_true rfl) h (fun _ _ e => zc_X11_entries e) (fun M306 v306 _ h => ?_)
                                                                                refine zV_b (pc' := 1551) (lv' := [(0, .inr (.inr (some sb))), (1, .inr (.inr p1)), (2, .inr (.inr p2)), (3, .inl l3)]) (st' := [.inr (.inr p2), .inl v306]) [(.aload_n 2, 1)] (by decide +kernel) rfl ?_
                                                                                refine zV_cvi (As := []) (st := [.inl v306]) (c := 13) (by decide +kernel) (zcl_X12_entries (by decide) (by decide)) ⟨zw_2002, zw_2003, zw_2004⟩ ⟨⟨_, _, rfl⟩, by decide⟩ rfl rfl (Nat.le_of_ble_eq_true rfl) h (fun _ _ e => zc_X12_entries e) (fun M307 v307 _ h => ?_)
                                                                                refine zV_icmp_eq (off := 165) (tgt := 1719) (by decide +kernel) (by decide) h (fun c308 h => ?_) (fun c308 h => ?_)
                                                                                · exact zV_lv (lv' := [(0, .inr (.inr (some sb))), (1, .inr (.inr p1)), (2, .inr (.inr p2)), (3, .inl l3)]) [0, 1, 2, 3] rfl (zt_L_law_J1719 hscr h k1 k2)
                                                                                · refine zV_b (pc' := 1558) (lv' := [(0, .inr (.inr (some sb))), (1, .inr (.inr p1)), (2, .inr (.inr p2)), (3, .inl l3)]) (st' := [.inl (0 : Int32)]) [(.iconst 0, 1)] (by decide +kernel) rfl ?_
                                                                                  obtain ⟨w, ew, h⟩ := zb1_inv h
                                                                                  obtain ⟨rfl, hv⟩ := zo_b_inv ew
                                                                                  have hq : zRz X zC_L_law M307 (0 : Int32) := k2 _ (Option.some.inj h).symm
                                                                                  exact hq hv _ _ (by decide +kernel)
                                                                              · have h := (zite h).2 e8_37
                                                                                by_cases e8_38 : (v7 &&& (63 : Int32)) = 38
                                                                                · have h := (zite h).1 e8_38
                                                                                  refine zV_top e8_38 (zV_tin (tgt := 1559) zd_L_law_33 (by decide) (by decide) rfl (by decide) ?_)
                                                                                  refine zV_b (pc' := 1564) (lv' := [(0, .inr (.inr (some sb))), (1, .inr (.inr p1)), (2, .inr (.inr p2)), (3, .inl l3)]) (st' := [.inl (l3 + (1 : Int32)), .inr (.inr (some sb)), .inr (.inr p1)]) [(.aload_n 1, 1), (.aload_n 0, 1), (.iload_n 3, 1), (.iconst 1, 1), (.iadd, 1)] (by decide +kernel) rfl ?_
                                                                                  refine zV_xs hscr (by decide +kernel) h (fun v310 _ h => ?_)
                                                                                  refine zV_b (pc' := 1569) (lv' := [(0, .inr (.inr (some sb))), (1, .inr (.inr p1)), (2, .inr (.inr p2)), (3, .inl l3)]) (st' := [.inl (l3 + (2 : Int32)), .inr (.inr (some sb)), .inl v310, .inr (.inr p1)]) [(.aload_n 0, 1), (.iload_n 3, 1), (.iconst 2, 1), (.iadd, 1)] (by decide +kernel) rfl ?_
                                                                                  refine zV_xs hscr (by decide +kernel) h (fun v311 _ h => ?_)
                                                                                  refine zV_cvj (As := [.inl v310, .inl v311]) (st := []) (c := 12) (by decide +kernel) (zcl_X11_entry (by decide) (by decide)) ⟨zw_1382, zw_1383, zw_1384⟩ ⟨⟨_, _, rfl⟩, by decide⟩ rfl rfl (Nat.le_of_ble_eq_true rfl) h (fun _ _ e => zc_X11_entry e) (fun M312 v312 _ h => ?_)
                                                                                  refine zV_b (pc' := 1578) (lv' := [(0, .inr (.inr (some sb))), (1, .inr (.inr p1)), (2, .inr (.inr p2)), (3, .inl l3)]) (st' := [.inl (l3 + (1 : Int32)), .inr (.inr (some sb)), .inr (.inr p2), .inr (.inl v312)]) [(.aload_n 2, 1), (.aload_n 0, 1), (.iload_n 3, 1), (.iconst 1, 1), (.iadd, 1)] (by decide +kernel) rfl ?_
                                                                                  refine zV_xs hscr (by decide +kernel) h (fun v313 _ h => ?_)
                                                                                  refine zV_b (pc' := 1583) (lv' := [(0, .inr (.inr (some sb))), (1, .inr (.inr p1)), (2, .inr (.inr p2)), (3, .inl l3)]) (st' := [.inl (l3 + (2 : Int32)), .inr (.inr (some sb)), .inl v313, .inr (.inr p2), .inr (.inl v312)]) [(.aload_n 0, 1), (.iload_n 3, 1), (.iconst 2, 1), (.iadd, 1)] (by decide +kernel) rfl ?_
                                                                                  refine zV_xs hscr (by decide +kernel) h (fun v314 _ h => ?_)
                                                                                  refine zV_cvj (As := [.inl v313, .inl v314]) (st := [.inr (.inl v312)]) (c := 13) (by decide +kernel) (zcl_X12_entry (by decide) (by decide)) ⟨zw_2006, zw_2007, zw_2008⟩ ⟨⟨_, _, rfl⟩, by decide⟩ rfl rfl (Nat.le_of_ble_eq_true rfl) h (fun _ _ e => zc_X12_entry e) (fun M315 v315 _ h => ?_)
                                                                                  refine zV_lcmp_eq (off := 131) (tgt := 1719) (by decide +kernel) (by decide +kernel) (by decide) h (fun c316 h => ?_) (fun c316 h => ?_)
                                                                                  · exact zV_lv (lv' := [(0, .inr (.inr (some sb))), (1, .inr (.inr p1)), (2, .inr (.inr p2)), (3, .inl l3)]) [0, 1, 2, 3] rfl (zt_L_law_J1719 hscr h k1 k2)
                                                                                  · refine zV_b (pc' := 1592) (lv' := [(0, .inr (.inr (some sb))), (1, .inr (.inr p1)), (2, .inr (.inr p2)), (3, .inl l3)]) (st' := [.inl (0 : Int32)]) [(.iconst 0, 1)] (by decide +kernel) rfl ?_
                                                                                    obtain ⟨w, ew, h⟩ := zb1_inv h
                                                                                    obtain ⟨rfl, hv⟩ := zo_b_inv ew
                                                                                    have hq : zRz X zC_L_law M315 (0 : Int32) := k2 _ (Option.some.inj h).symm
                                                                                    exact hq hv _ _ (by decide +kernel)
                                                                                · have h := (zite h).2 e8_38
                                                                                  by_cases e8_39 : (v7 &&& (63 : Int32)) = 39
                                                                                  · have h := (zite h).1 e8_39
                                                                                    refine zV_top e8_39 (zV_tin (tgt := 1593) zd_L_law_33 (by decide) (by decide) rfl (by decide) ?_)
                                                                                    refine zV_b (pc' := 1594) (lv' := [(0, .inr (.inr (some sb))), (1, .inr (.inr p1)), (2, .inr (.inr p2)), (3, .inl l3)]) (st' := [.inr (.inr p1)]) [(.aload_n 1, 1)] (by decide +kernel) rfl ?_
                                                                                    refine zV_cvi (As := []) (st := []) (c := 12) (by decide +kernel) (zcl_X11_tries (by decide) (by decide)) ⟨zw_1386, zw_1387, zw_1388⟩ ⟨⟨_, _, rfl⟩, by decide⟩ rfl rfl (Nat.le_of_ble_eq_true rfl) h (fun _ _ e => zc_X11_tries e) (fun M318 v318 _ h => ?_)
                                                                                    refine zV_b (pc' := 1598) (lv' := [(0, .inr (.inr (some sb))), (1, .inr (.inr p1)), (2, .inr (.inr p2)), (3, .inl l3)]) (st' := [.inr (.inr p2), .inl v318]) [(.aload_n 2, 1)] (by decide +kernel) rfl ?_
                                                                                    refine zV_cvi (As := []) (st := [.inl v318]) (c := 13) (by decide +kernel) (zcl_X12_tries (by decide) (by decide)) ⟨zw_2010, zw_2011, zw_2012⟩ ⟨⟨_, _, rfl⟩, by decide⟩ rfl rfl (Nat.le_of_ble_eq_true rfl) h (fun _ _ e => zc_X12_tries e) (fun M319 v319 _ h => ?_)
                                                                                    refine zV_icmp_eq (off := 118) (tgt := 1719) (by decide +kernel) (by decide) h (fun c320 h => ?_) (fun c320 h => ?_)
                                                                                    · exact zV_lv (lv' := [(0, .inr (.inr (some sb))), (1, .inr (.inr p1)), (2, .inr (.inr p2)), (3, .inl l3)]) [0, 1, 2, 3] rfl (zt_L_law_J1719 hscr h k1 k2)
                                                                                    · refine zV_b (pc' := 1605) (lv' := [(0, .inr (.inr (some sb))), (1, .inr (.inr p1)), (2, .inr (.inr p2)), (3, .inl l3)]) (st' := [.inl (0 : Int32)]) [(.iconst 0, 1)] (by decide +kernel) rfl ?_
                                                                                      obtain ⟨w, ew, h⟩ := zb1_inv h
                                                                                      obtain ⟨rfl, hv⟩ := zo_b_inv ew
                                                                                      have hq : zRz X zC_L_law M319 (0 : Int32) := k2 _ (Option.some.inj h).symm
                                                                                      exact hq hv _ _ (by decide +kernel)
                                                                                  · have h := (zite h).2 e8_39
                                                                                    by_cases e8_40 : (v7 &&& (63 : Int32)) = 40
                                                                                    · have h := (zite h).1 e8_40
                                                                                      refine zV_top e8_40 (zV_tin (tgt := 1606) zd_L_law_33 (by decide) (by decide) rfl (by decide) ?_)
                                                                                      refine zV_b (pc' := 1607) (lv' := [(0, .inr (.inr (some sb))), (1, .inr (.inr p1)), (2, .inr (.inr p2)), (3, .inl l3)]) (st' := [.inr (.inr p1)]) [(.aload_n 1, 1)] (by decide +kernel) rfl ?_
                                                                                      refine zV_cvi (As := []) (st := []) (c := 12) (by decide +kernel) (zcl_X11_closed (by decide) (by decide)) ⟨zw_1390, zw_1391, zw_1392⟩ ⟨⟨_, _, rfl⟩, by decide⟩ rfl rfl (Nat.le_of_ble_eq_true rfl) h (fun _ _ e => zc_X11_closed e) (fun M322 v322 _ h => ?_)
                                                                                      refine zV_b (pc' := 1611) (lv' := [(0, .inr (.inr (some sb))), (1, .inr (.inr p1)), (2, .inr (.inr p2)), (3, .inl l3)]) (st' := [.inr (.inr p2), .inl v322]) [(.aload_n 2, 1)] (by decide +kernel) rfl ?_
                                                                                      refine zV_cvi (As := []) (st := [.inl v322]) (c := 13) (by decide +kernel) (zcl_X12_closed (by decide) (by decide)) ⟨zw_2014, zw_2015, zw_2016⟩ ⟨⟨_, _, rfl⟩, by decide⟩ rfl rfl (Nat.le_of_ble_eq_true rfl) h (fun _ _ e => zc_X12_closed e) (fun M323 v323 _ h => ?_)
                                                                                      refine zV_icmp_eq (off := 105) (tgt := 1719) (by decide +kernel) (by decide) h (fun c324 h => ?_) (fun c324 h => ?_)
                                                                                      · exact zV_lv (lv' := [(0, .inr (.inr (some sb))), (1, .inr (.inr p1)), (2, .inr (.inr p2)), (3, .inl l3)]) [0, 1, 2, 3] rfl (zt_L_law_J1719 hscr h k1 k2)
                                                                                      · refine zV_b (pc' := 1618) (lv' := [(0, .inr (.inr (some sb))), (1, .inr (.inr p1)), (2, .inr (.inr p2)), (3, .inl l3)]) (st' := [.inl (0 : Int32)]) [(.iconst 0, 1)] (by decide +kernel) rfl ?_
                                                                                        obtain ⟨w, ew, h⟩ := zb1_inv h
                                                                                        obtain ⟨rfl, hv⟩ := zo_b_inv ew
                                                                                        have hq : zRz X zC_L_law M323 (0 : Int32) := k2 _ (Option.some.inj h).symm
                                                                                        exact hq hv _ _ (by decide +kernel)
                                                                                    · have h := (zite h).2 e8_40
                                                                                      by_cases e8_41 : (v7 &&& (63 : Int32)) = 41
                                                                                      · have h := (zite h).1 e8_41
                                                                                        refine zV_top e8_41 (zV_tin (tgt := 1619) zd_L_law_33 (by decide) (by decide) rfl (by decide) ?_)
                                                                                        refine zV_b (pc' := 1620) (lv' := [(0, .inr (.inr (some sb))), (1, .inr (.inr p1)), (2, .inr (.inr p2)), (3, .inl l3)]) (st' := [.inr (.inr p1)]) [(.aload_n 1, 1)] (by decide +kernel) rfl ?_
                                                                                        refine zV_cvi (As := []) (st := []) (c := 12) (by decide +kernel) (zcl_X11_why (by decide) (by decide)) ⟨zw_1394, zw_1395, zw_1396⟩ ⟨⟨_, _, rfl⟩, by decide⟩ rfl rfl (Nat.le_of_ble_eq_true rfl) h (fun _ _ e => zc_X11_why e) (fun M326 v326 _ h => ?_)
                                                                                        refine zV_b (pc' := 1624) (lv' := [(0, .inr (.inr (some sb))), (1, .inr (.inr p1)), (2, .inr (.inr p2)), (3, .inl l3)]) (st' := [.inr (.inr p2), .inl v326]) [(.aload_n 2, 1)] (by decide +kernel) rfl ?_
                                                                                        refine zV_cvi (As := []) (st := [.inl v326]) (c := 13) (by decide +kernel) (zcl_X12_why (by decide) (by decide)) ⟨zw_2018, zw_2019, zw_2020⟩ ⟨⟨_, _, rfl⟩, by decide⟩ rfl rfl (Nat.le_of_ble_eq_true rfl) h (fun _ _ e => zc_X12_why e) (fun M327 v327 _ h => ?_)
                                                                                        refine zV_icmp_eq (off := 92) (tgt := 1719) (by decide +kernel) (by decide) h (fun c328 h => ?_) (fun c328 h => ?_)
                                                                                        · exact zV_lv (lv' := [(0, .inr (.inr (some sb))), (1, .inr (.inr p1)), (2, .inr (.inr p2)), (3, .inl l3)]) [0, 1, 2, 3] rfl (zt_L_law_J1719 hscr h k1 k2)
                                                                                        · refine zV_b (pc' := 1631) (lv' := [(0, .inr (.inr (some sb))), (1, .inr (.inr p1)), (2, .inr (.inr p2)), (3, .inl l3)]) (st' := [.inl (0 : Int32)]) [(.iconst 0, 1)] (by decide +kernel) rfl ?_
                                                                                          obtain ⟨w, ew, h⟩ := zb1_inv h
                                                                                          obtain ⟨rfl, hv⟩ := zo_b_inv ew
                                                                                          have hq : zRz X zC_L_law M327 (0 : Int32) := k2 _ (Option.some.inj h).symm
                                                                                          exact hq hv _ _ (by decide +kernel)
                                                                                      · have h := (zite h).2 e8_41
                                                                                        by_cases e8_42 : (v7 &&& (63 : Int32)) = 42
                                                                                        · have h := (zite h).1 e8_42
                                                                                          refine zV_top e8_42 (zV_tin (tgt := 1632) zd_L_law_33 (by decide) (by decide) rfl (by decide) ?_)
                                                                                          refine zV_b (pc' := 1633) (lv' := [(0, .inr (.inr (some sb))), (1, .inr (.inr p1)), (2, .inr (.inr p2)), (3, .inl l3)]) (st' := [.inr (.inr p1)]) [(.aload_n 1, 1)] (by decide +kernel) rfl ?_
                                                                                          refine zV_cvi (As := []) (st := []) (c := 12) (by decide +kernel) (zcl_X11_which (by decide) (by decide)) ⟨zw_1398, zw_1399, zw_1400⟩ ⟨⟨_, _, rfl⟩, by decide⟩ rfl rfl (Nat.le_of_ble_eq_true rfl) h (fun _ _ e => zc_X11_which e) (fun M330 v330 _ h => ?_)
                                                                                          refine zV_b (pc' := 1637) (lv' := [(0, .inr (.inr (some sb))), (1, .inr (.inr p1)), (2, .inr (.inr p2)), (3, .inl l3)]) (st' := [.inr (.inr p2), .inl v330]) [(.aload_n 2, 1)] (by decide +kernel) rfl ?_
                                                                                          refine zV_cvi (As := []) (st := [.inl v330]) (c := 13) (by decide +kernel) (zcl_X12_which (by decide) (by decide)) ⟨zw_2022, zw_2023, zw_2024⟩ ⟨⟨_, _, rfl⟩, by decide⟩ rfl rfl (Nat.le_of_ble_eq_true rfl) h (fun _ _ e => zc_X12_which e) (fun M331 v331 _ h => ?_)
                                                                                          refine zV_icmp_eq (off := 79) (tgt := 1719) (by decide +kernel) (by decide) h (fun c332 h => ?_) (fun c332 h => ?_)
                                                                                          · exact zV_lv (lv' := [(0, .inr (.inr (some sb))), (1, .inr (.inr p1)), (2, .inr (.inr p2)), (3, .inl l3)]) [0, 1, 2, 3] rfl (zt_L_law_J1719 hscr h k1 k2)
                                                                                          · refine zV_b (pc' := 1644) (lv' := [(0, .inr (.inr (some sb))), (1, .inr (.inr p1)), (2, .inr (.inr p2)), (3, .inl l3)]) (st' := [.inl (0 : Int32)]) [(.iconst 0, 1)] (by decide +kernel) rfl ?_
                                                                                            obtain ⟨w, ew, h⟩ := zb1_inv h
                                                                                            obtain ⟨rfl, hv⟩ := zo_b_inv ew
                                                                                            have hq : zRz X zC_L_law M331 (0 : Int32) := k2 _ (Option.some.inj h).symm
                                                                                            exact hq hv _ _ (by decide +kernel)
                                                                                        · have h := (zite h).2 e8_42
                                                                                          by_cases e8_43 : (v7 &&& (63 : Int32)) = 43
                                                                                          · have h := (zite h).1 e8_43
                                                                                            refine zV_top e8_43 (zV_tin (tgt := 1645) zd_L_law_33 (by decide) (by decide) rfl (by decide) ?_)
                                                                                            refine zV_b (pc' := 1650) (lv' := [(0, .inr (.inr (some sb))), (1, .inr (.inr p1)), (2, .inr (.inr p2)), (3, .inl l3)]) (st' := [.inl (l3 + (1 : Int32)), .inr (.inr (some sb)), .inr (.inr p1)]) [(.aload_n 1, 1), (.aload_n 0, 1), (.iload_n 3, 1), (.iconst 1, 1), (.iadd, 1)] (by decide +kernel) rfl ?_
                                                                                            refine zV_xs hscr (by decide +kernel) h (fun v334 _ h => ?_)
                                                                                            refine zV_cvi (As := [.inl v334]) (st := []) (c := 12) (by decide +kernel) (zcl_X11_trace (by decide) (by decide)) ⟨zw_1402, zw_1403, zw_1404⟩ ⟨⟨_, _, rfl⟩, by decide⟩ rfl rfl (Nat.le_of_ble_eq_true rfl) h (fun _ _ e => zc_X11_trace e) (fun M335 v335 _ h => ?_)
                                                                                            refine zV_b (pc' := 1659) (lv' := [(0, .inr (.inr (some sb))), (1, .inr (.inr p1)), (2, .inr (.inr p2)), (3, .inl l3)]) (st' := [.inl (l3 + (1 : Int32)), .inr (.inr (some sb)), .inr (.inr p2), .inl v335]) [(.aload_n 2, 1), (.aload_n 0, 1), (.iload_n 3, 1), (.iconst 1, 1), (.iadd, 1)] (by decide +kernel) rfl ?_
                                                                                            refine zV_xs hscr (by decide +kernel) h (fun v336 _ h => ?_)
                                                                                            refine zV_cvi (As := [.inl v336]) (st := [.inl v335]) (c := 13) (by decide +kernel) (zcl_X12_trace (by decide) (by decide)) ⟨zw_2026, zw_2027, zw_2028⟩ ⟨⟨_, _, rfl⟩, by decide⟩ rfl rfl (Nat.le_of_ble_eq_true rfl) h (fun _ _ e => zc_X12_trace e) (fun M337 v337 _ h => ?_)
                                                                                            refine zV_icmp_eq (off := 56) (tgt := 1719) (by decide +kernel) (by decide) h (fun c338 h => ?_) (fun c338 h => ?_)
                                                                                            · exact zV_lv (lv' := [(0, .inr (.inr (some sb))), (1, .inr (.inr p1)), (2, .inr (.inr p2)), (3, .inl l3)]) [0, 1, 2, 3] rfl (zt_L_law_J1719 hscr h k1 k2)
                                                                                            · refine zV_b (pc' := 1667) (lv' := [(0, .inr (.inr (some sb))), (1, .inr (.inr p1)), (2, .inr (.inr p2)), (3, .inl l3)]) (st' := [.inl (0 : Int32)]) [(.iconst 0, 1)] (by decide +kernel) rfl ?_
                                                                                              obtain ⟨w, ew, h⟩ := zb1_inv h
                                                                                              obtain ⟨rfl, hv⟩ := zo_b_inv ew
                                                                                              have hq : zRz X zC_L_law M337 (0 : Int32) := k2 _ (Option.some.inj h).symm
                                                                                              exact hq hv _ _ (by decide +kernel)
                                                                                          · have h := (zite h).2 e8_43
                                                                                            by_cases e8_44 : (v7 &&& (63 : Int32)) = 44
                                                                                            · have h := (zite h).1 e8_44
                                                                                              refine zV_top e8_44 (zV_tin (tgt := 1668) zd_L_law_33 (by decide) (by decide) rfl (by decide) ?_)
                                                                                              refine zV_b (pc' := 1669) (lv' := [(0, .inr (.inr (some sb))), (1, .inr (.inr p1)), (2, .inr (.inr p2)), (3, .inl l3)]) (st' := [.inr (.inr p1)]) [(.aload_n 1, 1)] (by decide +kernel) rfl ?_
                                                                                              refine zV_cvi (As := []) (st := []) (c := 12) (by decide +kernel) (zcl_X11_picked (by decide) (by decide)) ⟨zw_1410, zw_1411, zw_1412⟩ ⟨⟨_, _, rfl⟩, by decide⟩ rfl rfl (Nat.le_of_ble_eq_true rfl) h (fun _ _ e => zc_X11_picked e) (fun M340 v340 _ h => ?_)
                                                                                              refine zV_b (pc' := 1673) (lv' := [(0, .inr (.inr (some sb))), (1, .inr (.inr p1)), (2, .inr (.inr p2)), (3, .inl l3)]) (st' := [.inr (.inr p2), .inl v340]) [(.aload_n 2, 1)] (by decide +kernel) rfl ?_
                                                                                              refine zV_cvi (As := []) (st := [.inl v340]) (c := 13) (by decide +kernel) (zcl_X12_picked (by decide) (by decide)) ⟨zw_2030, zw_2031, zw_2032⟩ ⟨⟨_, _, rfl⟩, by decide⟩ rfl rfl (Nat.le_of_ble_eq_true rfl) h (fun _ _ e => zc_X12_picked e) (fun M341 v341 _ h => ?_)
                                                                                              refine zV_icmp_eq (off := 43) (tgt := 1719) (by decide +kernel) (by decide) h (fun c342 h => ?_) (fun c342 h => ?_)
                                                                                              · exact zV_lv (lv' := [(0, .inr (.inr (some sb))), (1, .inr (.inr p1)), (2, .inr (.inr p2)), (3, .inl l3)]) [0, 1, 2, 3] rfl (zt_L_law_J1719 hscr h k1 k2)
                                                                                              · refine zV_b (pc' := 1680) (lv' := [(0, .inr (.inr (some sb))), (1, .inr (.inr p1)), (2, .inr (.inr p2)), (3, .inl l3)]) (st' := [.inl (0 : Int32)]) [(.iconst 0, 1)] (by decide +kernel) rfl ?_
                                                                                                obtain ⟨w, ew, h⟩ := zb1_inv h
                                                                                                obtain ⟨rfl, hv⟩ := zo_b_inv ew
                                                                                                have hq : zRz X zC_L_law M341 (0 : Int32) := k2 _ (Option.some.inj h).symm
                                                                                                exact hq hv _ _ (by decide +kernel)
                                                                                            · have h := (zite h).2 e8_44
                                                                                              by_cases e8_45 : (v7 &&& (63 : Int32)) = 45
                                                                                              · have h := (zite h).1 e8_45
                                                                                                refine zV_top e8_45 (zV_tin (tgt := 1681) zd_L_law_33 (by decide) (by decide) rfl (by decide) ?_)
                                                                                                refine zV_b (pc' := 1686) (lv' := [(0, .inr (.inr (some sb))), (1, .inr (.inr p1)), (2, .inr (.inr p2)), (3, .inl l3)]) (st' := [.inl (l3 + (1 : Int32)), .inr (.inr (some sb)), .inr (.inr p1)]) [(.aload_n 1, 1), (.aload_n 0, 1), (.iload_n 3, 1), (.iconst 1, 1), (.iadd, 1)] (by decide +kernel) rfl ?_
                                                                                                refine zV_xs hscr (by decide +kernel) h (fun v344 _ h => ?_)
                                                                                                refine zV_cvj (As := [.inl v344]) (st := []) (c := 12) (by decide +kernel) (zcl_X11_planned (by decide) (by decide)) ⟨zw_1414, zw_1415, zw_1416⟩ ⟨⟨_, _, rfl⟩, by decide⟩ rfl rfl (Nat.le_of_ble_eq_true rfl) h (fun _ _ e => zc_X11_planned e) (fun M345 v345 _ h => ?_)
                                                                                                refine zV_b (pc' := 1695) (lv' := [(0, .inr (.inr (some sb))), (1, .inr (.inr p1)), (2, .inr (.inr p2)), (3, .inl l3)]) (st' := [.inl (l3 + (1 : Int32)), .inr (.inr (some sb)), .inr (.inr p2), .inr (.inl v345)]) [(.aload_n 2, 1), (.aload_n 0, 1), (.iload_n 3, 1), (.iconst 1, 1), (.iadd, 1)] (by decide +kernel) rfl ?_
                                                                                                refine zV_xs hscr (by decide +kernel) h (fun v346 _ h => ?_)
                                                                                                refine zV_cvj (As := [.inl v346]) (st := [.inr (.inl v345)]) (c := 13) (by decide +kernel) (zcl_X12_planned (by decide) (by decide)) ⟨zw_2034, zw_2035, zw_2036⟩ ⟨⟨_, _, rfl⟩, by decide⟩ rfl rfl (Nat.le_of_ble_eq_true rfl) h (fun _ _ e => zc_X12_planned e) (fun M347 v347 _ h => ?_)
                                                                                                refine zV_lcmp_eq (off := 19) (tgt := 1719) (by decide +kernel) (by decide +kernel) (by decide) h (fun c348 h => ?_) (fun c348 h => ?_)
                                                                                                · exact zV_lv (lv' := [(0, .inr (.inr (some sb))), (1, .inr (.inr p1)), (2, .inr (.inr p2)), (3, .inl l3)]) [0, 1, 2, 3] rfl (zt_L_law_J1719 hscr h k1 k2)
                                                                                                · refine zV_b (pc' := 1704) (lv' := [(0, .inr (.inr (some sb))), (1, .inr (.inr p1)), (2, .inr (.inr p2)), (3, .inl l3)]) (st' := [.inl (0 : Int32)]) [(.iconst 0, 1)] (by decide +kernel) rfl ?_
                                                                                                  obtain ⟨w, ew, h⟩ := zb1_inv h
                                                                                                  obtain ⟨rfl, hv⟩ := zo_b_inv ew
                                                                                                  have hq : zRz X zC_L_law M347 (0 : Int32) := k2 _ (Option.some.inj h).symm
                                                                                                  exact hq hv _ _ (by decide +kernel)
                                                                                              · have h := (zite h).2 e8_45
                                                                                                by_cases e8_46 : (v7 &&& (63 : Int32)) = 46
                                                                                                · have h := (zite h).1 e8_46
                                                                                                  refine zV_top e8_46 (zV_tin (tgt := 1705) zd_L_law_33 (by decide) (by decide) rfl (by decide) ?_)
                                                                                                  refine zV_b (pc' := 1706) (lv' := [(0, .inr (.inr (some sb))), (1, .inr (.inr p1)), (2, .inr (.inr p2)), (3, .inl l3)]) (st' := [.inr (.inr p1)]) [(.aload_n 1, 1)] (by decide +kernel) rfl ?_
                                                                                                  refine zV_cvj (As := []) (st := []) (c := 12) (by decide +kernel) (zcl_X11_digest (by decide) (by decide)) ⟨zw_1422, zw_1423, zw_1424⟩ ⟨⟨_, _, rfl⟩, by decide⟩ rfl rfl (Nat.le_of_ble_eq_true rfl) h (fun _ _ e => zc_X11_digest e) (fun M350 v350 _ h => ?_)
                                                                                                  refine zV_b (pc' := 1710) (lv' := [(0, .inr (.inr (some sb))), (1, .inr (.inr p1)), (2, .inr (.inr p2)), (3, .inl l3)]) (st' := [.inr (.inr p2), .inr (.inl v350)]) [(.aload_n 2, 1)] (by decide +kernel) rfl ?_
                                                                                                  refine zV_cvj (As := []) (st := [.inr (.inl v350)]) (c := 13) (by decide +kernel) (zcl_X12_digest (by decide) (by decide)) ⟨zw_2038, zw_2039, zw_2040⟩ ⟨⟨_, _, rfl⟩, by decide⟩ rfl rfl (Nat.le_of_ble_eq_true rfl) h (fun _ _ e => zc_X12_digest e) (fun M351 v351 _ h => ?_)
                                                                                                  refine zV_lcmp_eq (off := 5) (tgt := 1719) (by decide +kernel) (by decide +kernel) (by decide) h (fun c352 h => ?_) (fun c352 h => ?_)
                                                                                                  · exact zV_lv (lv' := [(0, .inr (.inr (some sb))), (1, .inr (.inr p1)), (2, .inr (.inr p2)), (3, .inl l3)]) [0, 1, 2, 3] rfl (zt_L_law_J1719 hscr h k1 k2)
                                                                                                  · refine zV_b (pc' := 1718) (lv' := [(0, .inr (.inr (some sb))), (1, .inr (.inr p1)), (2, .inr (.inr p2)), (3, .inl l3)]) (st' := [.inl (0 : Int32)]) [(.iconst 0, 1)] (by decide +kernel) rfl ?_
                                                                                                    obtain ⟨w, ew, h⟩ := zb1_inv h
                                                                                                    obtain ⟨rfl, hv⟩ := zo_b_inv ew
                                                                                                    have hq : zRz X zC_L_law M351 (0 : Int32) := k2 _ (Option.some.inj h).symm
                                                                                                    exact hq hv _ _ (by decide +kernel)
                                                                                                · have h := (zite h).2 e8_46
                                                                                                  refine zV_tout (tgt := 1719) zd_L_law_33 (by have q0 := lv_neT e8_0 (show (0 : Int32).toInt = 0 by decide); have q1 := lv_neT e8_1 (show (1 : Int32).toInt = 1 by decide); have q2 := lv_neT e8_2 (show (2 : Int32).toInt = 2 by decide); have q3 := lv_neT e8_3 (show (3 : Int32).toInt = 3 by decide); have q4 := lv_neT e8_4 (show (4 : Int32).toInt = 4 by decide); have q5 := lv_neT e8_5 (show (5 : Int32).toInt = 5 by decide); have q6 := lv_neT e8_6 (show (6 : Int32).toInt = 6 by decide); have q7 := lv_neT e8_7 (show (7 : Int32).toInt = 7 by decide); have q8 := lv_neT e8_8 (show (8 : Int32).toInt = 8 by decide); have q9 := lv_neT e8_9 (show (9 : Int32).toInt = 9 by decide); have q10 := lv_neT e8_10 (show (10 : Int32).toInt = 10 by decide); have q11 := lv_neT e8_11 (show (11 : Int32).toInt = 11 by decide); have q12 := lv_neT e8_12 (show (12 : Int32).toInt = 12 by decide); have q13 := lv_neT e8_13 (show (13 : Int32).toInt = 13 by decide); have q14 := lv_neT e8_14 (show (14 : Int32).toInt = 14 by decide); have q15 := lv_neT e8_15 (show (15 : Int32).toInt = 15 by decide); have q16 := lv_neT e8_16 (show (16 : Int32).toInt = 16 by decide); have q17 := lv_neT e8_17 (show (17 : Int32).toInt = 17 by decide); have q18 := lv_neT e8_18 (show (18 : Int32).toInt = 18 by decide); have q19 := lv_neT e8_19 (show (19 : Int32).toInt = 19 by decide); have q20 := lv_neT e8_20 (show (20 : Int32).toInt = 20 by decide); have q21 := lv_neT e8_21 (show (21 : Int32).toInt = 21 by decide); have q22 := lv_neT e8_22 (show (22 : Int32).toInt = 22 by decide); have q23 := lv_neT e8_23 (show (23 : Int32).toInt = 23 by decide); have q24 := lv_neT e8_24 (show (24 : Int32).toInt = 24 by decide); have q25 := lv_neT e8_25 (show (25 : Int32).toInt = 25 by decide); have q26 := lv_neT e8_26 (show (26 : Int32).toInt = 26 by decide); have q27 := lv_neT e8_27 (show (27 : Int32).toInt = 27 by decide); have q28 := lv_neT e8_28 (show (28 : Int32).toInt = 28 by decide); have q29 := lv_neT e8_29 (show (29 : Int32).toInt = 29 by decide); have q30 := lv_neT e8_30 (show (30 : Int32).toInt = 30 by decide); have q31 := lv_neT e8_31 (show (31 : Int32).toInt = 31 by decide); have q32 := lv_neT e8_32 (show (32 : Int32).toInt = 32 by decide); have q33 := lv_neT e8_33 (show (33 : Int32).toInt = 33 by decide); have q34 := lv_neT e8_34 (show (34 : Int32).toInt = 34 by decide); have q35 := lv_neT e8_35 (show (35 : Int32).toInt = 35 by decide); have q36 := lv_neT e8_36 (show (36 : Int32).toInt = 36 by decide); have q37 := lv_neT e8_37 (show (37 : Int32).toInt = 37 by decide); have q38 := lv_neT e8_38 (show (38 : Int32).toInt = 38 by decide); have q39 := lv_neT e8_39 (show (39 : Int32).toInt = 39 by decide); have q40 := lv_neT e8_40 (show (40 : Int32).toInt = 40 by decide); have q41 := lv_neT e8_41 (show (41 : Int32).toInt = 41 by decide); have q42 := lv_neT e8_42 (show (42 : Int32).toInt = 42 by decide); have q43 := lv_neT e8_43 (show (43 : Int32).toInt = 43 by decide); have q44 := lv_neT e8_44 (show (44 : Int32).toInt = 44 by decide); have q45 := lv_neT e8_45 (show (45 : Int32).toInt = 45 by decide); have q46 := lv_neT e8_46 (show (46 : Int32).toInt = 46 by decide); omega) (by decide) ?_
                                                                                                  exact zV_lv (lv' := [(0, .inr (.inr (some sb))), (1, .inr (.inr p1)), (2, .inr (.inr p2)), (3, .inl l3)]) [0, 1, 2, 3] rfl (zt_L_law_J1719 hscr h k1 k2)
set_option maxHeartbeats 40000000 in
set_option maxRecDepth 100000 in
theorem zt_L_law {X : Zx} {xs : Nat → Int32} {L sb : Nat} (hscr : zScr X sb L xs) {M : Zm} {z : Zm × Int32} (h : zf_L_law xs L sb M = some z) (hR : zRz X zC_L_law z.1 z.2) : zV X zC_L_law M 0 [(0, .inr (.inr (some sb)))] [] := by
  unfold zf_L_law at h
  refine zV_n (by decide +kernel) znw_RL_7 h (fun M1 _ h => ?_)
  refine zV_b (pc' := 4) (lv' := [(0, .inr (.inr (some sb)))]) (st' := [.inr (.inr (zm_nx M)), .inr (.inr (zm_nx M))]) [(.dup, 1)] (by decide +kernel) rfl ?_
  refine zV_cii (As := []) (st := [.inr (.inr (zm_nx M))]) (c := 12) (by decide +kernel) (zcl_X11_init (by decide) (by decide)) ⟨zw_125, rfl, zw_126⟩ rfl rfl (Nat.le_of_ble_eq_true rfl) h (fun _ _ e => zc_X11_init e) (fun M2 _ _ h => ?_)
  refine zV_b (pc' := 8) (lv' := [(1, .inr (.inr (zm_nx M))), (0, .inr (.inr (some sb)))]) (st' := []) [(.astore_n 1, 1)] (by decide +kernel) rfl ?_
  refine zV_n (by decide +kernel) znw_RL_10 h (fun M3 _ h => ?_)
  refine zV_b (pc' := 12) (lv' := [(1, .inr (.inr (zm_nx M))), (0, .inr (.inr (some sb)))]) (st' := [.inr (.inr (zm_nx M2)), .inr (.inr (zm_nx M2))]) [(.dup, 1)] (by decide +kernel) rfl ?_
  refine zV_cii (As := []) (st := [.inr (.inr (zm_nx M2))]) (c := 13) (by decide +kernel) (zcl_X12_init (by decide) (by decide)) ⟨zw_1435, rfl, zw_1436⟩ rfl rfl (Nat.le_of_ble_eq_true rfl) h (fun _ _ e => zc_X12_init e) (fun M4 _ _ h => ?_)
  refine zV_b (pc' := 18) (lv' := [(3, .inl (0 : Int32)), (2, .inr (.inr (zm_nx M2))), (1, .inr (.inr (zm_nx M))), (0, .inr (.inr (some sb)))]) (st' := []) [(.astore_n 2, 1), (.iconst 0, 1), (.istore_n 3, 1)] (by decide +kernel) rfl ?_
  obtain ⟨y354, e354, h⟩ := zb1_inv h
  refine zV_lv (lv' := [(0, .inr (.inr (some sb))), (1, .inr (.inr (zm_nx M))), (2, .inr (.inr (zm_nx M2))), (3, .inl (0 : Int32))]) [3, 2, 1, 0] rfl (zt_L_law_L18 hscr e354 ?_)
  rcases y354 with ⟨M18_354, l3_354⟩ | ⟨Mq, xq⟩
  · show zV X zC_L_law M18_354 1725 [] []
    refine zV_b (pc' := 1726) (lv' := []) (st' := [.inl (1 : Int32)]) [(.iconst 1, 1)] (by decide +kernel) rfl ?_
    exact zend_z h hR (by decide +kernel)
  · cases h
    exact hR
