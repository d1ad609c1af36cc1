theorem kc_iconst_6 : Int32.ofInt 6 = (6 : Int32) := by decide
theorem wd_505 : Cond.methodLink RL 13 yX9_add ∈ tb := tb_of 505 (by decide +kernel) rfl
theorem wd_506 : Cond.instanceMethod yX9_add ∈ tb := tb_of 506 (by decide +kernel) rfl
theorem wd_507 : Cond.selects RX9 yX9_add yX9_add ∈ tb := tb_of 507 (by decide +kernel) rfl
theorem wd_508 : Cond.code yX9_add cX9_add 5 (some .int) ∈ tb := tb_of 508 (by decide +kernel) rfl
theorem wd_550 : Cond.methodLink RL 18 yX9_alter ∈ tb := tb_of 550 (by decide +kernel) rfl
theorem wd_551 : Cond.instanceMethod yX9_alter ∈ tb := tb_of 551 (by decide +kernel) rfl
theorem wd_552 : Cond.selects RX9 yX9_alter yX9_alter ∈ tb := tb_of 552 (by decide +kernel) rfl
theorem wd_553 : Cond.code yX9_alter cX9_alter 6 (some .int) ∈ tb := tb_of 553 (by decide +kernel) rfl
theorem wd_558 : Cond.methodLink RL 23 yX9_back ∈ tb := tb_of 558 (by decide +kernel) rfl
theorem wd_559 : Cond.instanceMethod yX9_back ∈ tb := tb_of 559 (by decide +kernel) rfl
theorem wd_560 : Cond.selects RX9 yX9_back yX9_back ∈ tb := tb_of 560 (by decide +kernel) rfl
theorem wd_561 : Cond.code yX9_back cX9_back 1 (some .int) ∈ tb := tb_of 561 (by decide +kernel) rfl
theorem wd_562 : Cond.methodLink RL 28 yX9_clear ∈ tb := tb_of 562 (by decide +kernel) rfl
theorem wd_563 : Cond.instanceMethod yX9_clear ∈ tb := tb_of 563 (by decide +kernel) rfl
theorem wd_564 : Cond.selects RX9 yX9_clear yX9_clear ∈ tb := tb_of 564 (by decide +kernel) rfl
theorem wd_565 : Cond.code yX9_clear cX9_clear 2 (some .int) ∈ tb := tb_of 565 (by decide +kernel) rfl
theorem wd_566 : Cond.methodLink RL 32 yX9_code ∈ tb := tb_of 566 (by decide +kernel) rfl
theorem wd_570 : Cond.methodLink RL 37 yX9_read ∈ tb := tb_of 570 (by decide +kernel) rfl
theorem wd_571 : Cond.instanceMethod yX9_read ∈ tb := tb_of 571 (by decide +kernel) rfl
theorem wd_572 : Cond.selects RX9 yX9_read yX9_read ∈ tb := tb_of 572 (by decide +kernel) rfl
theorem wd_573 : Cond.code yX9_read cX9_read 6 (some .int) ∈ tb := tb_of 573 (by decide +kernel) rfl
theorem wd_585 : Cond.methodLink RL 42 yX9_next ∈ tb := tb_of 585 (by decide +kernel) rfl
theorem wd_693 : Cond.methodLink RL 46 yX9_reached ∈ tb := tb_of 693 (by decide +kernel) rfl
theorem wd_697 : Cond.methodLink RL 50 yX9_live ∈ tb := tb_of 697 (by decide +kernel) rfl
theorem wd_702 : Cond.methodLink RL 54 yX9_region ∈ tb := tb_of 702 (by decide +kernel) rfl
theorem wd_706 : Cond.methodLink RL 58 yX9_holds ∈ tb := tb_of 706 (by decide +kernel) rfl
theorem wd_710 : Cond.methodLink RL 62 yX9_loans ∈ tb := tb_of 710 (by decide +kernel) rfl
theorem wd_714 : Cond.methodLink RL 66 yX9_scope ∈ tb := tb_of 714 (by decide +kernel) rfl
theorem wd_718 : Cond.methodLink RL 70 yX9_active ∈ tb := tb_of 718 (by decide +kernel) rfl
theorem wd_722 : Cond.methodLink RL 74 yX9_bears ∈ tb := tb_of 722 (by decide +kernel) rfl
theorem wd_731 : Cond.methodLink RL 78 yX9_errors ∈ tb := tb_of 731 (by decide +kernel) rfl
theorem wd_732 : Cond.instanceMethod yX9_errors ∈ tb := tb_of 732 (by decide +kernel) rfl
theorem wd_733 : Cond.selects RX9 yX9_errors yX9_errors ∈ tb := tb_of 733 (by decide +kernel) rfl
theorem wd_734 : Cond.code yX9_errors cX9_errors 1 (some .int) ∈ tb := tb_of 734 (by decide +kernel) rfl
theorem wd_735 : Cond.methodLink RL 82 yX9_error ∈ tb := tb_of 735 (by decide +kernel) rfl
theorem wd_747 : Cond.methodLink RL 86 yX9_witness ∈ tb := tb_of 747 (by decide +kernel) rfl
theorem wd_786 : Cond.methodLink RL 90 yX9_mend ∈ tb := tb_of 786 (by decide +kernel) rfl
theorem wd_802 : Cond.methodLink RL 94 yX9_soft ∈ tb := tb_of 802 (by decide +kernel) rfl
theorem wd_810 : Cond.methodLink RL 98 yX9_run ∈ tb := tb_of 810 (by decide +kernel) rfl
theorem wd_858 : Cond.methodLink RL 103 yX9_sheet ∈ tb := tb_of 858 (by decide +kernel) rfl
theorem wd_859 : Cond.instanceMethod yX9_sheet ∈ tb := tb_of 859 (by decide +kernel) rfl
theorem wd_860 : Cond.selects RX9 yX9_sheet yX9_sheet ∈ tb := tb_of 860 (by decide +kernel) rfl
theorem wd_861 : Cond.code yX9_sheet cX9_sheet 4 (some .int) ∈ tb := tb_of 861 (by decide +kernel) rfl
theorem wd_869 : Cond.methodLink RL 107 yX9_lose ∈ tb := tb_of 869 (by decide +kernel) rfl
theorem wd_870 : Cond.instanceMethod yX9_lose ∈ tb := tb_of 870 (by decide +kernel) rfl
theorem wd_871 : Cond.selects RX9 yX9_lose yX9_lose ∈ tb := tb_of 871 (by decide +kernel) rfl
theorem wd_872 : Cond.code yX9_lose cX9_lose 4 (some .int) ∈ tb := tb_of 872 (by decide +kernel) rfl
theorem wd_877 : Cond.methodLink RL 111 yX9_put ∈ tb := tb_of 877 (by decide +kernel) rfl
theorem wd_878 : Cond.instanceMethod yX9_put ∈ tb := tb_of 878 (by decide +kernel) rfl
theorem wd_879 : Cond.selects RX9 yX9_put yX9_put ∈ tb := tb_of 879 (by decide +kernel) rfl
theorem wd_880 : Cond.code yX9_put cX9_put 6 (some .int) ∈ tb := tb_of 880 (by decide +kernel) rfl
theorem wd_890 : Cond.methodLink RL 115 yX9_get ∈ tb := tb_of 890 (by decide +kernel) rfl
theorem wd_891 : Cond.instanceMethod yX9_get ∈ tb := tb_of 891 (by decide +kernel) rfl
theorem wd_892 : Cond.selects RX9 yX9_get yX9_get ∈ tb := tb_of 892 (by decide +kernel) rfl
theorem wd_893 : Cond.code yX9_get cX9_get 5 (some .int) ∈ tb := tb_of 893 (by decide +kernel) rfl
theorem wd_895 : Cond.methodLink RL 119 yX9_copy ∈ tb := tb_of 895 (by decide +kernel) rfl
theorem wd_896 : Cond.instanceMethod yX9_copy ∈ tb := tb_of 896 (by decide +kernel) rfl
theorem wd_897 : Cond.selects RX9 yX9_copy yX9_copy ∈ tb := tb_of 897 (by decide +kernel) rfl
theorem wd_898 : Cond.code yX9_copy cX9_copy 8 (some .int) ∈ tb := tb_of 898 (by decide +kernel) rfl
theorem wd_904 : Cond.methodLink RL 123 yX9_write ∈ tb := tb_of 904 (by decide +kernel) rfl
theorem wd_905 : Cond.instanceMethod yX9_write ∈ tb := tb_of 905 (by decide +kernel) rfl
theorem wd_906 : Cond.selects RX9 yX9_write yX9_write ∈ tb := tb_of 906 (by decide +kernel) rfl
theorem wd_907 : Cond.code yX9_write cX9_write 5 (some .int) ∈ tb := tb_of 907 (by decide +kernel) rfl
theorem wd_909 : Cond.methodLink RL 127 yX9_count ∈ tb := tb_of 909 (by decide +kernel) rfl
theorem wd_918 : Cond.methodLink RL 131 yX9_digest ∈ tb := tb_of 918 (by decide +kernel) rfl
theorem wd_919 : Cond.instanceMethod yX9_digest ∈ tb := tb_of 919 (by decide +kernel) rfl
theorem wd_920 : Cond.selects RX9 yX9_digest yX9_digest ∈ tb := tb_of 920 (by decide +kernel) rfl
theorem wd_921 : Cond.code yX9_digest cX9_digest 4 (some .long) ∈ tb := tb_of 921 (by decide +kernel) rfl
theorem wd_1071 : Cond.methodLink RL 17 yX10_add ∈ tb := tb_of 1071 (by decide +kernel) rfl
theorem wd_1085 : Cond.methodLink RL 22 yX10_alter ∈ tb := tb_of 1085 (by decide +kernel) rfl
theorem wd_1086 : Cond.instanceMethod yX10_alter ∈ tb := tb_of 1086 (by decide +kernel) rfl
theorem wd_1087 : Cond.selects RX10 yX10_alter yX10_alter ∈ tb := tb_of 1087 (by decide +kernel) rfl
theorem wd_1088 : Cond.code yX10_alter cX10_alter 6 (some .int) ∈ tb := tb_of 1088 (by decide +kernel) rfl
theorem wd_1093 : Cond.methodLink RL 27 yX10_back ∈ tb := tb_of 1093 (by decide +kernel) rfl
theorem wd_1094 : Cond.instanceMethod yX10_back ∈ tb := tb_of 1094 (by decide +kernel) rfl
theorem wd_1095 : Cond.selects RX10 yX10_back yX10_back ∈ tb := tb_of 1095 (by decide +kernel) rfl
theorem wd_1096 : Cond.code yX10_back cX10_back 1 (some .int) ∈ tb := tb_of 1096 (by decide +kernel) rfl
theorem wd_1097 : Cond.methodLink RL 31 yX10_clear ∈ tb := tb_of 1097 (by decide +kernel) rfl
theorem wd_1098 : Cond.instanceMethod yX10_clear ∈ tb := tb_of 1098 (by decide +kernel) rfl
theorem wd_1099 : Cond.selects RX10 yX10_clear yX10_clear ∈ tb := tb_of 1099 (by decide +kernel) rfl
theorem wd_1100 : Cond.code yX10_clear cX10_clear 2 (some .int) ∈ tb := tb_of 1100 (by decide +kernel) rfl
theorem wd_1101 : Cond.methodLink RL 36 yX10_code ∈ tb := tb_of 1101 (by decide +kernel) rfl
theorem wd_1102 : Cond.instanceMethod yX10_code ∈ tb := tb_of 1102 (by decide +kernel) rfl
theorem wd_1103 : Cond.selects RX10 yX10_code yX10_code ∈ tb := tb_of 1103 (by decide +kernel) rfl
theorem wd_1104 : Cond.code yX10_code cX10_code 3 (some .int) ∈ tb := tb_of 1104 (by decide +kernel) rfl
theorem wd_1109 : Cond.methodLink RL 41 yX10_read ∈ tb := tb_of 1109 (by decide +kernel) rfl
theorem wd_1110 : Cond.instanceMethod yX10_read ∈ tb := tb_of 1110 (by decide +kernel) rfl
theorem wd_1111 : Cond.selects RX10 yX10_read yX10_read ∈ tb := tb_of 1111 (by decide +kernel) rfl
theorem wd_1112 : Cond.code yX10_read cX10_read 4 (some .int) ∈ tb := tb_of 1112 (by decide +kernel) rfl
theorem wd_1121 : Cond.methodLink RL 45 yX10_next ∈ tb := tb_of 1121 (by decide +kernel) rfl
theorem wd_1122 : Cond.instanceMethod yX10_next ∈ tb := tb_of 1122 (by decide +kernel) rfl
theorem wd_1123 : Cond.selects RX10 yX10_next yX10_next ∈ tb := tb_of 1123 (by decide +kernel) rfl
theorem wd_1124 : Cond.code yX10_next cX10_next 2 (some .int) ∈ tb := tb_of 1124 (by decide +kernel) rfl
theorem wd_1133 : Cond.methodLink RL 49 yX10_reached ∈ tb := tb_of 1133 (by decide +kernel) rfl
theorem wd_1134 : Cond.instanceMethod yX10_reached ∈ tb := tb_of 1134 (by decide +kernel) rfl
theorem wd_1135 : Cond.selects RX10 yX10_reached yX10_reached ∈ tb := tb_of 1135 (by decide +kernel) rfl
theorem wd_1136 : Cond.code yX10_reached cX10_reached 1 (some .int) ∈ tb := tb_of 1136 (by decide +kernel) rfl
theorem wd_1211 : Cond.methodLink RL 53 yX10_live ∈ tb := tb_of 1211 (by decide +kernel) rfl
theorem wd_1212 : Cond.instanceMethod yX10_live ∈ tb := tb_of 1212 (by decide +kernel) rfl
theorem wd_1213 : Cond.selects RX10 yX10_live yX10_live ∈ tb := tb_of 1213 (by decide +kernel) rfl
theorem wd_1214 : Cond.code yX10_live cX10_live 2 (some .int) ∈ tb := tb_of 1214 (by decide +kernel) rfl
theorem wd_1219 : Cond.methodLink RL 57 yX10_region ∈ tb := tb_of 1219 (by decide +kernel) rfl
theorem wd_1220 : Cond.instanceMethod yX10_region ∈ tb := tb_of 1220 (by decide +kernel) rfl
theorem wd_1221 : Cond.selects RX10 yX10_region yX10_region ∈ tb := tb_of 1221 (by decide +kernel) rfl
theorem wd_1222 : Cond.code yX10_region cX10_region 2 (some .int) ∈ tb := tb_of 1222 (by decide +kernel) rfl
theorem wd_1227 : Cond.methodLink RL 61 yX10_holds ∈ tb := tb_of 1227 (by decide +kernel) rfl
theorem wd_1228 : Cond.instanceMethod yX10_holds ∈ tb := tb_of 1228 (by decide +kernel) rfl
theorem wd_1229 : Cond.selects RX10 yX10_holds yX10_holds ∈ tb := tb_of 1229 (by decide +kernel) rfl
theorem wd_1230 : Cond.code yX10_holds cX10_holds 3 (some .int) ∈ tb := tb_of 1230 (by decide +kernel) rfl
theorem wd_1235 : Cond.methodLink RL 65 yX10_loans ∈ tb := tb_of 1235 (by decide +kernel) rfl
theorem wd_1236 : Cond.instanceMethod yX10_loans ∈ tb := tb_of 1236 (by decide +kernel) rfl
theorem wd_1237 : Cond.selects RX10 yX10_loans yX10_loans ∈ tb := tb_of 1237 (by decide +kernel) rfl
theorem wd_1238 : Cond.code yX10_loans cX10_loans 1 (some .int) ∈ tb := tb_of 1238 (by decide +kernel) rfl
theorem wd_1243 : Cond.methodLink RL 69 yX10_scope ∈ tb := tb_of 1243 (by decide +kernel) rfl
theorem wd_1244 : Cond.instanceMethod yX10_scope ∈ tb := tb_of 1244 (by decide +kernel) rfl
theorem wd_1245 : Cond.selects RX10 yX10_scope yX10_scope ∈ tb := tb_of 1245 (by decide +kernel) rfl
theorem wd_1246 : Cond.code yX10_scope cX10_scope 2 (some .int) ∈ tb := tb_of 1246 (by decide +kernel) rfl
theorem wd_1251 : Cond.methodLink RL 73 yX10_active ∈ tb := tb_of 1251 (by decide +kernel) rfl
theorem wd_1252 : Cond.instanceMethod yX10_active ∈ tb := tb_of 1252 (by decide +kernel) rfl
theorem wd_1253 : Cond.selects RX10 yX10_active yX10_active ∈ tb := tb_of 1253 (by decide +kernel) rfl
theorem wd_1254 : Cond.code yX10_active cX10_active 2 (some .int) ∈ tb := tb_of 1254 (by decide +kernel) rfl
theorem wd_1259 : Cond.methodLink RL 77 yX10_bears ∈ tb := tb_of 1259 (by decide +kernel) rfl
theorem wd_1260 : Cond.instanceMethod yX10_bears ∈ tb := tb_of 1260 (by decide +kernel) rfl
theorem wd_1261 : Cond.selects RX10 yX10_bears yX10_bears ∈ tb := tb_of 1261 (by decide +kernel) rfl
theorem wd_1262 : Cond.code yX10_bears cX10_bears 2 (some .int) ∈ tb := tb_of 1262 (by decide +kernel) rfl
theorem wd_1271 : Cond.methodLink RL 81 yX10_errors ∈ tb := tb_of 1271 (by decide +kernel) rfl
theorem wd_1272 : Cond.instanceMethod yX10_errors ∈ tb := tb_of 1272 (by decide +kernel) rfl
theorem wd_1273 : Cond.selects RX10 yX10_errors yX10_errors ∈ tb := tb_of 1273 (by decide +kernel) rfl
theorem wd_1274 : Cond.code yX10_errors cX10_errors 1 (some .int) ∈ tb := tb_of 1274 (by decide +kernel) rfl
theorem wd_1310 : Cond.methodLink RL 85 yX10_error ∈ tb := tb_of 1310 (by decide +kernel) rfl
theorem wd_1311 : Cond.instanceMethod yX10_error ∈ tb := tb_of 1311 (by decide +kernel) rfl
theorem wd_1312 : Cond.selects RX10 yX10_error yX10_error ∈ tb := tb_of 1312 (by decide +kernel) rfl
theorem wd_1313 : Cond.code yX10_error cX10_error 3 (some .int) ∈ tb := tb_of 1313 (by decide +kernel) rfl
theorem wd_1318 : Cond.methodLink RL 89 yX10_witness ∈ tb := tb_of 1318 (by decide +kernel) rfl
theorem wd_1319 : Cond.instanceMethod yX10_witness ∈ tb := tb_of 1319 (by decide +kernel) rfl
theorem wd_1320 : Cond.selects RX10 yX10_witness yX10_witness ∈ tb := tb_of 1320 (by decide +kernel) rfl
theorem wd_1321 : Cond.code yX10_witness cX10_witness 3 (some .int) ∈ tb := tb_of 1321 (by decide +kernel) rfl
theorem wd_1346 : Cond.methodLink RL 93 yX10_mend ∈ tb := tb_of 1346 (by decide +kernel) rfl
theorem wd_1347 : Cond.instanceMethod yX10_mend ∈ tb := tb_of 1347 (by decide +kernel) rfl
theorem wd_1348 : Cond.selects RX10 yX10_mend yX10_mend ∈ tb := tb_of 1348 (by decide +kernel) rfl
theorem wd_1349 : Cond.code yX10_mend cX10_mend 2 (some .int) ∈ tb := tb_of 1349 (by decide +kernel) rfl
theorem wd_1358 : Cond.methodLink RL 97 yX10_soft ∈ tb := tb_of 1358 (by decide +kernel) rfl
theorem wd_1359 : Cond.instanceMethod yX10_soft ∈ tb := tb_of 1359 (by decide +kernel) rfl
theorem wd_1360 : Cond.selects RX10 yX10_soft yX10_soft ∈ tb := tb_of 1360 (by decide +kernel) rfl
theorem wd_1361 : Cond.code yX10_soft cX10_soft 1 (some .int) ∈ tb := tb_of 1361 (by decide +kernel) rfl
theorem wd_1366 : Cond.methodLink RL 102 yX10_run ∈ tb := tb_of 1366 (by decide +kernel) rfl
theorem wd_1367 : Cond.instanceMethod yX10_run ∈ tb := tb_of 1367 (by decide +kernel) rfl
theorem wd_1368 : Cond.selects RX10 yX10_run yX10_run ∈ tb := tb_of 1368 (by decide +kernel) rfl
theorem wd_1369 : Cond.code yX10_run cX10_run 4 (some .int) ∈ tb := tb_of 1369 (by decide +kernel) rfl
theorem wd_1406 : Cond.methodLink RL 106 yX10_sheet ∈ tb := tb_of 1406 (by decide +kernel) rfl
theorem wd_1407 : Cond.instanceMethod yX10_sheet ∈ tb := tb_of 1407 (by decide +kernel) rfl
theorem wd_1408 : Cond.selects RX10 yX10_sheet yX10_sheet ∈ tb := tb_of 1408 (by decide +kernel) rfl
theorem wd_1409 : Cond.code yX10_sheet cX10_sheet 5 (some .int) ∈ tb := tb_of 1409 (by decide +kernel) rfl
theorem wd_1410 : Cond.methodLink RL 110 yX10_lose ∈ tb := tb_of 1410 (by decide +kernel) rfl
theorem wd_1411 : Cond.instanceMethod yX10_lose ∈ tb := tb_of 1411 (by decide +kernel) rfl
theorem wd_1412 : Cond.selects RX10 yX10_lose yX10_lose ∈ tb := tb_of 1412 (by decide +kernel) rfl
theorem wd_1413 : Cond.code yX10_lose cX10_lose 2 (some .int) ∈ tb := tb_of 1413 (by decide +kernel) rfl
theorem wd_1414 : Cond.methodLink RL 114 yX10_put ∈ tb := tb_of 1414 (by decide +kernel) rfl
theorem wd_1415 : Cond.instanceMethod yX10_put ∈ tb := tb_of 1415 (by decide +kernel) rfl
theorem wd_1416 : Cond.selects RX10 yX10_put yX10_put ∈ tb := tb_of 1416 (by decide +kernel) rfl
theorem wd_1417 : Cond.code yX10_put cX10_put 6 (some .int) ∈ tb := tb_of 1417 (by decide +kernel) rfl
theorem wd_1426 : Cond.methodLink RL 118 yX10_get ∈ tb := tb_of 1426 (by decide +kernel) rfl
theorem wd_1427 : Cond.instanceMethod yX10_get ∈ tb := tb_of 1427 (by decide +kernel) rfl
theorem wd_1428 : Cond.selects RX10 yX10_get yX10_get ∈ tb := tb_of 1428 (by decide +kernel) rfl
theorem wd_1429 : Cond.code yX10_get cX10_get 5 (some .int) ∈ tb := tb_of 1429 (by decide +kernel) rfl
theorem wd_1431 : Cond.methodLink RL 122 yX10_copy ∈ tb := tb_of 1431 (by decide +kernel) rfl
theorem wd_1432 : Cond.instanceMethod yX10_copy ∈ tb := tb_of 1432 (by decide +kernel) rfl
theorem wd_1433 : Cond.selects RX10 yX10_copy yX10_copy ∈ tb := tb_of 1433 (by decide +kernel) rfl
theorem wd_1434 : Cond.code yX10_copy cX10_copy 7 (some .int) ∈ tb := tb_of 1434 (by decide +kernel) rfl
theorem wd_1435 : Cond.methodLink RL 126 yX10_write ∈ tb := tb_of 1435 (by decide +kernel) rfl
theorem wd_1436 : Cond.instanceMethod yX10_write ∈ tb := tb_of 1436 (by decide +kernel) rfl
theorem wd_1437 : Cond.selects RX10 yX10_write yX10_write ∈ tb := tb_of 1437 (by decide +kernel) rfl
theorem wd_1438 : Cond.code yX10_write cX10_write 3 (some .int) ∈ tb := tb_of 1438 (by decide +kernel) rfl
theorem wd_1439 : Cond.methodLink RL 130 yX10_count ∈ tb := tb_of 1439 (by decide +kernel) rfl
theorem wd_1450 : Cond.methodLink RL 135 yX10_digest ∈ tb := tb_of 1450 (by decide +kernel) rfl
theorem wd_1451 : Cond.instanceMethod yX10_digest ∈ tb := tb_of 1451 (by decide +kernel) rfl
theorem wd_1452 : Cond.selects RX10 yX10_digest yX10_digest ∈ tb := tb_of 1452 (by decide +kernel) rfl
theorem wd_1453 : Cond.code yX10_digest cX10_digest 4 (some .long) ∈ tb := tb_of 1453 (by decide +kernel) rfl
theorem cv_RL_102 : CV RL 102 10 yX10_run cX10_run 4 (some .int) 3 := ⟨_, rfl, rfl, ⟨by decide, by decide, by decide +kernel⟩, wd_1366, wd_1367, wd_1368, wd_98, wd_1369⟩
theorem cv_RL_103 : CV RL 103 9 yX9_sheet cX9_sheet 4 (some .int) 3 := ⟨_, rfl, rfl, ⟨by decide, by decide, by decide +kernel⟩, wd_858, wd_859, wd_860, wd_88, wd_861⟩
theorem cv_RL_106 : CV RL 106 10 yX10_sheet cX10_sheet 5 (some .int) 3 := ⟨_, rfl, rfl, ⟨by decide, by decide, by decide +kernel⟩, wd_1406, wd_1407, wd_1408, wd_98, wd_1409⟩
theorem cv_RL_107 : CV RL 107 9 yX9_lose cX9_lose 4 (some .int) 1 := ⟨_, rfl, rfl, ⟨by decide, by decide, by decide +kernel⟩, wd_869, wd_870, wd_871, wd_88, wd_872⟩
theorem cv_RL_110 : CV RL 110 10 yX10_lose cX10_lose 2 (some .int) 1 := ⟨_, rfl, rfl, ⟨by decide, by decide, by decide +kernel⟩, wd_1410, wd_1411, wd_1412, wd_98, wd_1413⟩
theorem cv_RL_111 : CV RL 111 9 yX9_put cX9_put 6 (some .int) 4 := ⟨_, rfl, rfl, ⟨by decide, by decide, by decide +kernel⟩, wd_877, wd_878, wd_879, wd_88, wd_880⟩
theorem cv_RL_114 : CV RL 114 10 yX10_put cX10_put 6 (some .int) 4 := ⟨_, rfl, rfl, ⟨by decide, by decide, by decide +kernel⟩, wd_1414, wd_1415, wd_1416, wd_98, wd_1417⟩
theorem cv_RL_115 : CV RL 115 9 yX9_get cX9_get 5 (some .int) 3 := ⟨_, rfl, rfl, ⟨by decide, by decide, by decide +kernel⟩, wd_890, wd_891, wd_892, wd_88, wd_893⟩
theorem cv_RL_118 : CV RL 118 10 yX10_get cX10_get 5 (some .int) 3 := ⟨_, rfl, rfl, ⟨by decide, by decide, by decide +kernel⟩, wd_1426, wd_1427, wd_1428, wd_98, wd_1429⟩
theorem cv_RL_119 : CV RL 119 9 yX9_copy cX9_copy 8 (some .int) 5 := ⟨_, rfl, rfl, ⟨by decide, by decide, by decide +kernel⟩, wd_895, wd_896, wd_897, wd_88, wd_898⟩
theorem cv_RL_122 : CV RL 122 10 yX10_copy cX10_copy 7 (some .int) 5 := ⟨_, rfl, rfl, ⟨by decide, by decide, by decide +kernel⟩, wd_1431, wd_1432, wd_1433, wd_98, wd_1434⟩
theorem cv_RL_123 : CV RL 123 9 yX9_write cX9_write 5 (some .int) 1 := ⟨_, rfl, rfl, ⟨by decide, by decide, by decide +kernel⟩, wd_904, wd_905, wd_906, wd_88, wd_907⟩
theorem cv_RL_126 : CV RL 126 10 yX10_write cX10_write 3 (some .int) 1 := ⟨_, rfl, rfl, ⟨by decide, by decide, by decide +kernel⟩, wd_1435, wd_1436, wd_1437, wd_98, wd_1438⟩
theorem cv_RL_127 : CV RL 127 9 yX9_count cX9_count 2 (some .int) 1 := ⟨_, rfl, rfl, ⟨by decide, by decide, by decide +kernel⟩, wd_909, wd_910, wd_911, wd_88, wd_912⟩
theorem cv_RL_13 : CV RL 13 9 yX9_add cX9_add 5 (some .int) 4 := ⟨_, rfl, rfl, ⟨by decide, by decide, by decide +kernel⟩, wd_505, wd_506, wd_507, wd_88, wd_508⟩
theorem cv_RL_130 : CV RL 130 10 yX10_count cX10_count 2 (some .int) 1 := ⟨_, rfl, rfl, ⟨by decide, by decide, by decide +kernel⟩, wd_1439, wd_1440, wd_1441, wd_98, wd_1442⟩
theorem cv_RL_131 : CV RL 131 9 yX9_digest cX9_digest 4 (some .long) 0 := ⟨_, rfl, rfl, ⟨by decide, by decide, by decide +kernel⟩, wd_918, wd_919, wd_920, wd_88, wd_921⟩
theorem cv_RL_135 : CV RL 135 10 yX10_digest cX10_digest 4 (some .long) 0 := ⟨_, rfl, rfl, ⟨by decide, by decide, by decide +kernel⟩, wd_1450, wd_1451, wd_1452, wd_98, wd_1453⟩
theorem cv_RL_17 : CV RL 17 10 yX10_add cX10_add 5 (some .int) 4 := ⟨_, rfl, rfl, ⟨by decide, by decide, by decide +kernel⟩, wd_1071, wd_1072, wd_1073, wd_98, wd_1074⟩
theorem cv_RL_18 : CV RL 18 9 yX9_alter cX9_alter 6 (some .int) 5 := ⟨_, rfl, rfl, ⟨by decide, by decide, by decide +kernel⟩, wd_550, wd_551, wd_552, wd_88, wd_553⟩
theorem cv_RL_22 : CV RL 22 10 yX10_alter cX10_alter 6 (some .int) 5 := ⟨_, rfl, rfl, ⟨by decide, by decide, by decide +kernel⟩, wd_1085, wd_1086, wd_1087, wd_98, wd_1088⟩
theorem cv_RL_23 : CV RL 23 9 yX9_back cX9_back 1 (some .int) 0 := ⟨_, rfl, rfl, ⟨by decide, by decide, by decide +kernel⟩, wd_558, wd_559, wd_560, wd_88, wd_561⟩
theorem cv_RL_27 : CV RL 27 10 yX10_back cX10_back 1 (some .int) 0 := ⟨_, rfl, rfl, ⟨by decide, by decide, by decide +kernel⟩, wd_1093, wd_1094, wd_1095, wd_98, wd_1096⟩
theorem cv_RL_28 : CV RL 28 9 yX9_clear cX9_clear 2 (some .int) 0 := ⟨_, rfl, rfl, ⟨by decide, by decide, by decide +kernel⟩, wd_562, wd_563, wd_564, wd_88, wd_565⟩
theorem cv_RL_31 : CV RL 31 10 yX10_clear cX10_clear 2 (some .int) 0 := ⟨_, rfl, rfl, ⟨by decide, by decide, by decide +kernel⟩, wd_1097, wd_1098, wd_1099, wd_98, wd_1100⟩
theorem cv_RL_32 : CV RL 32 9 yX9_code cX9_code 3 (some .int) 2 := ⟨_, rfl, rfl, ⟨by decide, by decide, by decide +kernel⟩, wd_566, wd_567, wd_568, wd_88, wd_569⟩
theorem cv_RL_36 : CV RL 36 10 yX10_code cX10_code 3 (some .int) 2 := ⟨_, rfl, rfl, ⟨by decide, by decide, by decide +kernel⟩, wd_1101, wd_1102, wd_1103, wd_98, wd_1104⟩
theorem cv_RL_37 : CV RL 37 9 yX9_read cX9_read 6 (some .int) 1 := ⟨_, rfl, rfl, ⟨by decide, by decide, by decide +kernel⟩, wd_570, wd_571, wd_572, wd_88, wd_573⟩
theorem cv_RL_41 : CV RL 41 10 yX10_read cX10_read 4 (some .int) 1 := ⟨_, rfl, rfl, ⟨by decide, by decide, by decide +kernel⟩, wd_1109, wd_1110, wd_1111, wd_98, wd_1112⟩
theorem cv_RL_42 : CV RL 42 9 yX9_next cX9_next 3 (some .int) 1 := ⟨_, rfl, rfl, ⟨by decide, by decide, by decide +kernel⟩, wd_585, wd_586, wd_587, wd_88, wd_588⟩
theorem cv_RL_45 : CV RL 45 10 yX10_next cX10_next 2 (some .int) 1 := ⟨_, rfl, rfl, ⟨by decide, by decide, by decide +kernel⟩, wd_1121, wd_1122, wd_1123, wd_98, wd_1124⟩
theorem cv_RL_46 : CV RL 46 9 yX9_reached cX9_reached 1 (some .int) 0 := ⟨_, rfl, rfl, ⟨by decide, by decide, by decide +kernel⟩, wd_693, wd_694, wd_695, wd_88, wd_696⟩
theorem cv_RL_49 : CV RL 49 10 yX10_reached cX10_reached 1 (some .int) 0 := ⟨_, rfl, rfl, ⟨by decide, by decide, by decide +kernel⟩, wd_1133, wd_1134, wd_1135, wd_98, wd_1136⟩
theorem cv_RL_50 : CV RL 50 9 yX9_live cX9_live 2 (some .int) 1 := ⟨_, rfl, rfl, ⟨by decide, by decide, by decide +kernel⟩, wd_697, wd_698, wd_699, wd_88, wd_700⟩
theorem cv_RL_53 : CV RL 53 10 yX10_live cX10_live 2 (some .int) 1 := ⟨_, rfl, rfl, ⟨by decide, by decide, by decide +kernel⟩, wd_1211, wd_1212, wd_1213, wd_98, wd_1214⟩
theorem cv_RL_54 : CV RL 54 9 yX9_region cX9_region 2 (some .int) 1 := ⟨_, rfl, rfl, ⟨by decide, by decide, by decide +kernel⟩, wd_702, wd_703, wd_704, wd_88, wd_705⟩
theorem cv_RL_57 : CV RL 57 10 yX10_region cX10_region 2 (some .int) 1 := ⟨_, rfl, rfl, ⟨by decide, by decide, by decide +kernel⟩, wd_1219, wd_1220, wd_1221, wd_98, wd_1222⟩
theorem cv_RL_58 : CV RL 58 9 yX9_holds cX9_holds 3 (some .int) 2 := ⟨_, rfl, rfl, ⟨by decide, by decide, by decide +kernel⟩, wd_706, wd_707, wd_708, wd_88, wd_709⟩
theorem cv_RL_61 : CV RL 61 10 yX10_holds cX10_holds 3 (some .int) 2 := ⟨_, rfl, rfl, ⟨by decide, by decide, by decide +kernel⟩, wd_1227, wd_1228, wd_1229, wd_98, wd_1230⟩
theorem cv_RL_62 : CV RL 62 9 yX9_loans cX9_loans 1 (some .int) 0 := ⟨_, rfl, rfl, ⟨by decide, by decide, by decide +kernel⟩, wd_710, wd_711, wd_712, wd_88, wd_713⟩
theorem cv_RL_65 : CV RL 65 10 yX10_loans cX10_loans 1 (some .int) 0 := ⟨_, rfl, rfl, ⟨by decide, by decide, by decide +kernel⟩, wd_1235, wd_1236, wd_1237, wd_98, wd_1238⟩
theorem cv_RL_66 : CV RL 66 9 yX9_scope cX9_scope 2 (some .int) 1 := ⟨_, rfl, rfl, ⟨by decide, by decide, by decide +kernel⟩, wd_714, wd_715, wd_716, wd_88, wd_717⟩
theorem cv_RL_69 : CV RL 69 10 yX10_scope cX10_scope 2 (some .int) 1 := ⟨_, rfl, rfl, ⟨by decide, by decide, by decide +kernel⟩, wd_1243, wd_1244, wd_1245, wd_98, wd_1246⟩
theorem cv_RL_70 : CV RL 70 9 yX9_active cX9_active 2 (some .int) 1 := ⟨_, rfl, rfl, ⟨by decide, by decide, by decide +kernel⟩, wd_718, wd_719, wd_720, wd_88, wd_721⟩
theorem cv_RL_73 : CV RL 73 10 yX10_active cX10_active 2 (some .int) 1 := ⟨_, rfl, rfl, ⟨by decide, by decide, by decide +kernel⟩, wd_1251, wd_1252, wd_1253, wd_98, wd_1254⟩
theorem cv_RL_74 : CV RL 74 9 yX9_bears cX9_bears 2 (some .int) 1 := ⟨_, rfl, rfl, ⟨by decide, by decide, by decide +kernel⟩, wd_722, wd_723, wd_724, wd_88, wd_725⟩
theorem cv_RL_77 : CV RL 77 10 yX10_bears cX10_bears 2 (some .int) 1 := ⟨_, rfl, rfl, ⟨by decide, by decide, by decide +kernel⟩, wd_1259, wd_1260, wd_1261, wd_98, wd_1262⟩
theorem cv_RL_78 : CV RL 78 9 yX9_errors cX9_errors 1 (some .int) 0 := ⟨_, rfl, rfl, ⟨by decide, by decide, by decide +kernel⟩, wd_731, wd_732, wd_733, wd_88, wd_734⟩
theorem cv_RL_81 : CV RL 81 10 yX10_errors cX10_errors 1 (some .int) 0 := ⟨_, rfl, rfl, ⟨by decide, by decide, by decide +kernel⟩, wd_1271, wd_1272, wd_1273, wd_98, wd_1274⟩
theorem cv_RL_82 : CV RL 82 9 yX9_error cX9_error 3 (some .int) 2 := ⟨_, rfl, rfl, ⟨by decide, by decide, by decide +kernel⟩, wd_735, wd_736, wd_737, wd_88, wd_738⟩
theorem cv_RL_85 : CV RL 85 10 yX10_error cX10_error 3 (some .int) 2 := ⟨_, rfl, rfl, ⟨by decide, by decide, by decide +kernel⟩, wd_1310, wd_1311, wd_1312, wd_98, wd_1313⟩
theorem cv_RL_86 : CV RL 86 9 yX9_witness cX9_witness 3 (some .int) 2 := ⟨_, rfl, rfl, ⟨by decide, by decide, by decide +kernel⟩, wd_747, wd_748, wd_749, wd_88, wd_750⟩
theorem cv_RL_89 : CV RL 89 10 yX10_witness cX10_witness 3 (some .int) 2 := ⟨_, rfl, rfl, ⟨by decide, by decide, by decide +kernel⟩, wd_1318, wd_1319, wd_1320, wd_98, wd_1321⟩
theorem cv_RL_90 : CV RL 90 9 yX9_mend cX9_mend 2 (some .int) 1 := ⟨_, rfl, rfl, ⟨by decide, by decide, by decide +kernel⟩, wd_786, wd_787, wd_788, wd_88, wd_789⟩
theorem cv_RL_93 : CV RL 93 10 yX10_mend cX10_mend 2 (some .int) 1 := ⟨_, rfl, rfl, ⟨by decide, by decide, by decide +kernel⟩, wd_1346, wd_1347, wd_1348, wd_98, wd_1349⟩
theorem cv_RL_94 : CV RL 94 9 yX9_soft cX9_soft 1 (some .int) 0 := ⟨_, rfl, rfl, ⟨by decide, by decide, by decide +kernel⟩, wd_802, wd_803, wd_804, wd_88, wd_805⟩
theorem cv_RL_97 : CV RL 97 10 yX10_soft cX10_soft 1 (some .int) 0 := ⟨_, rfl, rfl, ⟨by decide, by decide, by decide +kernel⟩, wd_1358, wd_1359, wd_1360, wd_98, wd_1361⟩
theorem cv_RL_98 : CV RL 98 9 yX9_run cX9_run 4 (some .int) 3 := ⟨_, rfl, rfl, ⟨by decide, by decide, by decide +kernel⟩, wd_810, wd_811, wd_812, wd_88, wd_813⟩
def shL : List sh_T := [.inr (.inl (4, [some 1, some 2, some 3, some 4, some 5, some 6, some 7, some 8, some 9, none])), .inl (0, 24), .inl (0, 24), .inl (0, 24), .inl (0, 24), .inl (0, 24), .inl (0, 24), .inl (0, 24), .inl (1, 24), .inl (1, 24), .inr (.inl (0, [some 0, none, some 11, some 19, some 29])), .inr (.inl (2, [some 12, some 13, some 14, some 15, some 16, some 17, some 18, none, none])), .inl (0, 24), .inl (0, 24), .inl (0, 24), .inl (0, 24), .inl (0, 24), .inl (0, 24), .inl (0, 8), .inr (.inl (3, [none, none, none, none, some 20, some 21, none, some 22, some 23, some 24, some 25, some 26, some 27, some 28])), .inl (0, 192), .inl (0, 8), .inl (0, 24), .inl (0, 24), .inl (0, 24), .inl (0, 24), .inl (0, 24), .inl (0, 8), .inl (0, 8), .inr (.inl (1, [some 30, none, none])), .inl (0, 96), .inr (.inl (0, [some 0, none, some 32, some 40, some 50])), .inr (.inl (2, [some 33, some 34, some 35, some 36, some 37, some 38, some 39, none, none])), .inl (0, 24), .inl (0, 24), .inl (0, 24), .inl (0, 24), .inl (0, 24), .inl (0, 24), .inl (0, 8), .inr (.inl (3, [none, none, none, none, some 41, some 42, none, some 43, some 44, some 45, some 46, some 47, some 48, some 49])), .inl (0, 192), .inl (0, 8), .inl (0, 24), .inl (0, 24), .inl (0, 24), .inl (0, 24), .inl (0, 24), .inl (0, 8), .inl (0, 8), .inr (.inl (1, [some 51, none, none])), .inl (0, 96), .inr (.inl (5, [some 0, some 10, some 31, none, none, none, none, none])), .inr (.inl (7, [some 0, some 10, some 54, none, some 55, none])), .inl (0, 24), .inl (0, 60), .inr (.inl (8, [some 0, some 57, some 58, some 59, some 60, some 61, some 62, none, none, some 63, none, none, none, none, none, none])), .inl (0, 300), .inl (0, 300), .inl (0, 300), .inl (1, 300), .inl (1, 300), .inl (0, 300), .inl (0, 8), .inr (.inl (6, [some 65, none, none])), .inl (0, 60), .inr (.inl (6, [some 67, none, none])), .inl (0, 60), .inr (.inl (6, [some 69, none, none])), .inl (0, 60), .inr (.inl (6, [some 71, none, none])), .inl (0, 60), .inr (.inr [64, 66, 68, 70]), .inr (.inl (9, [some 0, some 10, some 52, some 53, some 56, some 72, none])), .inr (.inl (10, [none, some 75, some 76, some 77, some 78, none, none, some 79, some 80, some 81, some 82, some 83, none, some 84, some 85, some 86, some 87, none, some 88, none, some 89, some 90, some 91, some 92, some 93, some 94, some 95, none, none, none, some 96, some 97, some 98, some 99, some 100, none])), .inl (0, 24), .inl (0, 24), .inl (0, 24), .inl (0, 24), .inl (0, 8), .inl (0, 8), .inl (0, 192), .inl (0, 24), .inl (0, 24), .inl (0, 1300), .inl (0, 1300), .inl (0, 1300), .inl (0, 24), .inl (0, 60), .inl (0, 301), .inl (0, 301), .inl (0, 301), .inl (0, 301), .inl (0, 301), .inl (0, 301), .inl (0, 8), .inl (1, 4), .inl (0, 4), .inl (0, 4), .inl (0, 240), .inl (0, 60)]
def em_XL : List Nat := [0, 1, 2, 3, 4, 5, 6, 7, 8, 9, 10, 11, 12, 13, 14, 15, 16, 17, 18, 19, 20, 21, 22, 23, 24, 25, 26, 27, 28, 29, 30, 31, 32, 33, 34, 35, 36, 37, 38, 39, 40, 41, 42, 43, 44, 45, 46, 47, 48, 49, 50, 51, 52, 53, 54, 55, 56, 57, 58, 59, 60, 61, 62, 63, 64, 65, 66, 67, 68, 69, 70, 71, 72, 73]
def em_ML : List Nat := [74, 75, 76, 77, 78, 79, 80, 81, 82, 83, 84, 85, 86, 87, 88, 89, 90, 91, 92, 93, 94, 95, 96, 97, 98, 99, 100]
theorem emb_X_L : emb em_XL shX shL := ⟨rfl, rfl⟩
theorem emb_M_L : emb em_ML shM shL := ⟨rfl, rfl⟩
def sh_X (G : sh_G) (L : Nat) (xs : Nat → Int32) : Prop := va_X (gd G 200) L xs (gs G) (gs G).heap ∧ gd G 200 < (gs G).heap.size ∧ ¬ gA G (gd G 200)
theorem k_sld {G : sh_G} {cc : ByteArray} {own : String} {sh : List sh_T} {pc L : Nat} {lv : List (Nat × Value)} {st : List Value} {σ : sh_S} {xs : Nat → Int32} {i : Int32} (h : sh_ok G cc own sh) (hX : sh_X G L xs) (hin : inb i L) (d : decode cc pc = .ok (.iaload, 1)) (kk : sh_K G sh (pc + 1) lv (.int (xs (ix i)) :: st) σ) : sh_K G sh pc lv (.int i :: .ref 200 :: st) σ := fun H locs ls hP hS hl => va_sld h.1 h.2.1 hX.1 hX.2.1 hX.2.2 hS hin d (kk H locs ls hP hS hl)
theorem k_slen {G : sh_G} {cc : ByteArray} {own : String} {sh : List sh_T} {pc L : Nat} {lv : List (Nat × Value)} {st : List Value} {σ : sh_S} {xs : Nat → Int32} (h : sh_ok G cc own sh) (hX : sh_X G L xs) (d : decode cc pc = .ok (.arraylength, 1)) (kk : sh_K G sh (pc + 1) lv (.int (Int32.ofNat L) :: st) σ) : sh_K G sh pc lv (.ref 200 :: st) σ := fun H locs ls hP hS hl => va_slen h.1 h.2.1 hX.1 hX.2.1 hX.2.2 hS d (kk H locs ls hP hS hl)
theorem dL_law_0 : decode code 0 = .ok (.new 7, 3) := by decide +kernel
theorem dL_law_3 : decode code 3 = .ok (.dup, 1) := by decide +kernel
theorem dL_law_4 : decode code 4 = .ok (.invokespecial 9, 3) := by decide +kernel
theorem dL_law_7 : decode code 7 = .ok (.astore_n 1, 1) := by decide +kernel
theorem dL_law_8 : decode code 8 = .ok (.new 10, 3) := by decide +kernel
theorem dL_law_11 : decode code 11 = .ok (.dup, 1) := by decide +kernel
theorem dL_law_12 : decode code 12 = .ok (.invokespecial 12, 3) := by decide +kernel
theorem dL_law_15 : decode code 15 = .ok (.astore_n 2, 1) := by decide +kernel
theorem dL_law_16 : decode code 16 = .ok (.iconst 0, 1) := by decide +kernel
theorem dL_law_17 : decode code 17 = .ok (.istore_n 3, 1) := by decide +kernel
theorem dL_law_18 : decode code 18 = .ok (.iload_n 3, 1) := by decide +kernel
theorem dL_law_19 : decode code 19 = .ok (.aload_n 0, 1) := by decide +kernel
theorem dL_law_20 : decode code 20 = .ok (.arraylength, 1) := by decide +kernel
theorem dL_law_21 : decode code 21 = .ok (.bipush 6, 2) := by decide +kernel
theorem dL_law_23 : decode code 23 = .ok (.isub, 1) := by decide +kernel
theorem dL_law_24 : decode code 24 = .ok (.if_icmp .gt 984, 3) := by decide +kernel
theorem dL_law_27 : decode code 27 = .ok (.aload_n 0, 1) := by decide +kernel
theorem dL_law_28 : decode code 28 = .ok (.iload_n 3, 1) := by decide +kernel
theorem dL_law_29 : decode code 29 = .ok (.iaload, 1) := by decide +kernel
theorem dL_law_30 : decode code 30 = .ok (.bipush 31, 2) := by decide +kernel
theorem dL_law_32 : decode code 32 = .ok (.iand, 1) := by decide +kernel
theorem dL_law_33 : decode code 33 = .ok (.tableswitch 969 0 28 #[131, 184, 247, 260, 273, 306, 329, 352, 365, 388, 411, 444, 457, 480, 503, 526, 539, 572, 605, 628, 641, 684, 727, 750, 803, 846, 909, 932, 955], 131) := by decide +kernel
theorem dL_law_164 : decode code 164 = .ok (.aload_n 1, 1) := by decide +kernel
theorem dL_law_165 : decode code 165 = .ok (.aload_n 0, 1) := by decide +kernel
theorem dL_law_166 : decode code 166 = .ok (.iload_n 3, 1) := by decide +kernel
theorem dL_law_167 : decode code 167 = .ok (.iconst 1, 1) := by decide +kernel
theorem dL_law_168 : decode code 168 = .ok (.iadd, 1) := by decide +kernel
theorem dL_law_169 : decode code 169 = .ok (.iaload, 1) := by decide +kernel
theorem dL_law_170 : decode code 170 = .ok (.aload_n 0, 1) := by decide +kernel
theorem dL_law_171 : decode code 171 = .ok (.iload_n 3, 1) := by decide +kernel
theorem dL_law_172 : decode code 172 = .ok (.iconst 2, 1) := by decide +kernel
theorem dL_law_173 : decode code 173 = .ok (.iadd, 1) := by decide +kernel
theorem dL_law_174 : decode code 174 = .ok (.iaload, 1) := by decide +kernel
theorem dL_law_175 : decode code 175 = .ok (.aload_n 0, 1) := by decide +kernel
theorem dL_law_176 : decode code 176 = .ok (.iload_n 3, 1) := by decide +kernel
theorem dL_law_177 : decode code 177 = .ok (.iconst 3, 1) := by decide +kernel
theorem dL_law_178 : decode code 178 = .ok (.iadd, 1) := by decide +kernel
theorem dL_law_179 : decode code 179 = .ok (.iaload, 1) := by decide +kernel
theorem dL_law_180 : decode code 180 = .ok (.aload_n 0, 1) := by decide +kernel
theorem dL_law_181 : decode code 181 = .ok (.iload_n 3, 1) := by decide +kernel
theorem dL_law_182 : decode code 182 = .ok (.iconst 4, 1) := by decide +kernel
theorem dL_law_183 : decode code 183 = .ok (.iadd, 1) := by decide +kernel
theorem dL_law_184 : decode code 184 = .ok (.iaload, 1) := by decide +kernel
theorem dL_law_185 : decode code 185 = .ok (.invokevirtual 13, 3) := by decide +kernel
theorem dL_law_188 : decode code 188 = .ok (.aload_n 2, 1) := by decide +kernel
theorem dL_law_189 : decode code 189 = .ok (.aload_n 0, 1) := by decide +kernel
theorem dL_law_190 : decode code 190 = .ok (.iload_n 3, 1) := by decide +kernel
theorem dL_law_191 : decode code 191 = .ok (.iconst 1, 1) := by decide +kernel
theorem dL_law_192 : decode code 192 = .ok (.iadd, 1) := by decide +kernel
theorem dL_law_193 : decode code 193 = .ok (.iaload, 1) := by decide +kernel
theorem dL_law_194 : decode code 194 = .ok (.aload_n 0, 1) := by decide +kernel
theorem dL_law_195 : decode code 195 = .ok (.iload_n 3, 1) := by decide +kernel
theorem dL_law_196 : decode code 196 = .ok (.iconst 2, 1) := by decide +kernel
theorem dL_law_197 : decode code 197 = .ok (.iadd, 1) := by decide +kernel
theorem dL_law_198 : decode code 198 = .ok (.iaload, 1) := by decide +kernel
theorem dL_law_199 : decode code 199 = .ok (.aload_n 0, 1) := by decide +kernel
theorem dL_law_200 : decode code 200 = .ok (.iload_n 3, 1) := by decide +kernel
theorem dL_law_201 : decode code 201 = .ok (.iconst 3, 1) := by decide +kernel
theorem dL_law_202 : decode code 202 = .ok (.iadd, 1) := by decide +kernel
theorem dL_law_203 : decode code 203 = .ok (.iaload, 1) := by decide +kernel
theorem dL_law_204 : decode code 204 = .ok (.aload_n 0, 1) := by decide +kernel
theorem dL_law_205 : decode code 205 = .ok (.iload_n 3, 1) := by decide +kernel
theorem dL_law_206 : decode code 206 = .ok (.iconst 4, 1) := by decide +kernel
theorem dL_law_207 : decode code 207 = .ok (.iadd, 1) := by decide +kernel
theorem dL_law_208 : decode code 208 = .ok (.iaload, 1) := by decide +kernel
theorem dL_law_209 : decode code 209 = .ok (.invokevirtual 17, 3) := by decide +kernel
theorem dL_law_212 : decode code 212 = .ok (.if_icmp .eq 790, 3) := by decide +kernel
theorem dL_law_215 : decode code 215 = .ok (.iconst 0, 1) := by decide +kernel
theorem dL_law_216 : decode code 216 = .ok (.ireturn, 1) := by decide +kernel
theorem dL_law_217 : decode code 217 = .ok (.aload_n 1, 1) := by decide +kernel
theorem dL_law_218 : decode code 218 = .ok (.aload_n 0, 1) := by decide +kernel
theorem dL_law_219 : decode code 219 = .ok (.iload_n 3, 1) := by decide +kernel
theorem dL_law_220 : decode code 220 = .ok (.iconst 1, 1) := by decide +kernel
theorem dL_law_221 : decode code 221 = .ok (.iadd, 1) := by decide +kernel
theorem dL_law_222 : decode code 222 = .ok (.iaload, 1) := by decide +kernel
theorem dL_law_223 : decode code 223 = .ok (.aload_n 0, 1) := by decide +kernel
theorem dL_law_224 : decode code 224 = .ok (.iload_n 3, 1) := by decide +kernel
theorem dL_law_225 : decode code 225 = .ok (.iconst 2, 1) := by decide +kernel
theorem dL_law_226 : decode code 226 = .ok (.iadd, 1) := by decide +kernel
theorem dL_law_227 : decode code 227 = .ok (.iaload, 1) := by decide +kernel
theorem dL_law_228 : decode code 228 = .ok (.aload_n 0, 1) := by decide +kernel
theorem dL_law_229 : decode code 229 = .ok (.iload_n 3, 1) := by decide +kernel
theorem dL_law_230 : decode code 230 = .ok (.iconst 3, 1) := by decide +kernel
theorem dL_law_231 : decode code 231 = .ok (.iadd, 1) := by decide +kernel
theorem dL_law_232 : decode code 232 = .ok (.iaload, 1) := by decide +kernel
theorem dL_law_233 : decode code 233 = .ok (.aload_n 0, 1) := by decide +kernel
theorem dL_law_234 : decode code 234 = .ok (.iload_n 3, 1) := by decide +kernel
theorem dL_law_235 : decode code 235 = .ok (.iconst 4, 1) := by decide +kernel
theorem dL_law_236 : decode code 236 = .ok (.iadd, 1) := by decide +kernel
theorem dL_law_237 : decode code 237 = .ok (.iaload, 1) := by decide +kernel
theorem dL_law_238 : decode code 238 = .ok (.aload_n 0, 1) := by decide +kernel
theorem dL_law_239 : decode code 239 = .ok (.iload_n 3, 1) := by decide +kernel
theorem dL_law_240 : decode code 240 = .ok (.iconst 5, 1) := by decide +kernel
theorem dL_law_241 : decode code 241 = .ok (.iadd, 1) := by decide +kernel
theorem dL_law_242 : decode code 242 = .ok (.iaload, 1) := by decide +kernel
theorem dL_law_243 : decode code 243 = .ok (.invokevirtual 18, 3) := by decide +kernel
theorem dL_law_246 : decode code 246 = .ok (.aload_n 2, 1) := by decide +kernel
theorem dL_law_247 : decode code 247 = .ok (.aload_n 0, 1) := by decide +kernel
theorem dL_law_248 : decode code 248 = .ok (.iload_n 3, 1) := by decide +kernel
theorem dL_law_249 : decode code 249 = .ok (.iconst 1, 1) := by decide +kernel
theorem dL_law_250 : decode code 250 = .ok (.iadd, 1) := by decide +kernel
theorem dL_law_251 : decode code 251 = .ok (.iaload, 1) := by decide +kernel
theorem dL_law_252 : decode code 252 = .ok (.aload_n 0, 1) := by decide +kernel
theorem dL_law_253 : decode code 253 = .ok (.iload_n 3, 1) := by decide +kernel
theorem dL_law_254 : decode code 254 = .ok (.iconst 2, 1) := by decide +kernel
theorem dL_law_255 : decode code 255 = .ok (.iadd, 1) := by decide +kernel
theorem dL_law_256 : decode code 256 = .ok (.iaload, 1) := by decide +kernel
theorem dL_law_257 : decode code 257 = .ok (.aload_n 0, 1) := by decide +kernel
theorem dL_law_258 : decode code 258 = .ok (.iload_n 3, 1) := by decide +kernel
theorem dL_law_259 : decode code 259 = .ok (.iconst 3, 1) := by decide +kernel
theorem dL_law_260 : decode code 260 = .ok (.iadd, 1) := by decide +kernel
theorem dL_law_261 : decode code 261 = .ok (.iaload, 1) := by decide +kernel
theorem dL_law_262 : decode code 262 = .ok (.aload_n 0, 1) := by decide +kernel
theorem dL_law_263 : decode code 263 = .ok (.iload_n 3, 1) := by decide +kernel
theorem dL_law_264 : decode code 264 = .ok (.iconst 4, 1) := by decide +kernel
theorem dL_law_265 : decode code 265 = .ok (.iadd, 1) := by decide +kernel
theorem dL_law_266 : decode code 266 = .ok (.iaload, 1) := by decide +kernel
theorem dL_law_267 : decode code 267 = .ok (.aload_n 0, 1) := by decide +kernel
theorem dL_law_268 : decode code 268 = .ok (.iload_n 3, 1) := by decide +kernel
theorem dL_law_269 : decode code 269 = .ok (.iconst 5, 1) := by decide +kernel
theorem dL_law_270 : decode code 270 = .ok (.iadd, 1) := by decide +kernel
theorem dL_law_271 : decode code 271 = .ok (.iaload, 1) := by decide +kernel
theorem dL_law_272 : decode code 272 = .ok (.invokevirtual 22, 3) := by decide +kernel
theorem dL_law_275 : decode code 275 = .ok (.if_icmp .eq 727, 3) := by decide +kernel
theorem dL_law_278 : decode code 278 = .ok (.iconst 0, 1) := by decide +kernel
theorem dL_law_279 : decode code 279 = .ok (.ireturn, 1) := by decide +kernel
theorem dL_law_280 : decode code 280 = .ok (.aload_n 1, 1) := by decide +kernel
theorem dL_law_281 : decode code 281 = .ok (.invokevirtual 23, 3) := by decide +kernel
theorem dL_law_284 : decode code 284 = .ok (.aload_n 2, 1) := by decide +kernel
theorem dL_law_285 : decode code 285 = .ok (.invokevirtual 27, 3) := by decide +kernel
theorem dL_law_288 : decode code 288 = .ok (.if_icmp .eq 714, 3) := by decide +kernel
theorem dL_law_291 : decode code 291 = .ok (.iconst 0, 1) := by decide +kernel
theorem dL_law_292 : decode code 292 = .ok (.ireturn, 1) := by decide +kernel
theorem dL_law_293 : decode code 293 = .ok (.aload_n 1, 1) := by decide +kernel
theorem dL_law_294 : decode code 294 = .ok (.invokevirtual 28, 3) := by decide +kernel
theorem dL_law_297 : decode code 297 = .ok (.aload_n 2, 1) := by decide +kernel
theorem dL_law_298 : decode code 298 = .ok (.invokevirtual 31, 3) := by decide +kernel
theorem dL_law_301 : decode code 301 = .ok (.if_icmp .eq 701, 3) := by decide +kernel
theorem dL_law_304 : decode code 304 = .ok (.iconst 0, 1) := by decide +kernel
theorem dL_law_305 : decode code 305 = .ok (.ireturn, 1) := by decide +kernel
theorem dL_law_306 : decode code 306 = .ok (.aload_n 1, 1) := by decide +kernel
theorem dL_law_307 : decode code 307 = .ok (.aload_n 0, 1) := by decide +kernel
theorem dL_law_308 : decode code 308 = .ok (.iload_n 3, 1) := by decide +kernel
theorem dL_law_309 : decode code 309 = .ok (.iconst 1, 1) := by decide +kernel
theorem dL_law_310 : decode code 310 = .ok (.iadd, 1) := by decide +kernel
theorem dL_law_311 : decode code 311 = .ok (.iaload, 1) := by decide +kernel
theorem dL_law_312 : decode code 312 = .ok (.aload_n 0, 1) := by decide +kernel
theorem dL_law_313 : decode code 313 = .ok (.iload_n 3, 1) := by decide +kernel
theorem dL_law_314 : decode code 314 = .ok (.iconst 2, 1) := by decide +kernel
theorem dL_law_315 : decode code 315 = .ok (.iadd, 1) := by decide +kernel
theorem dL_law_316 : decode code 316 = .ok (.iaload, 1) := by decide +kernel
theorem dL_law_317 : decode code 317 = .ok (.invokevirtual 32, 3) := by decide +kernel
theorem dL_law_320 : decode code 320 = .ok (.aload_n 2, 1) := by decide +kernel
theorem dL_law_321 : decode code 321 = .ok (.aload_n 0, 1) := by decide +kernel
theorem dL_law_322 : decode code 322 = .ok (.iload_n 3, 1) := by decide +kernel
theorem dL_law_323 : decode code 323 = .ok (.iconst 1, 1) := by decide +kernel
theorem dL_law_324 : decode code 324 = .ok (.iadd, 1) := by decide +kernel
theorem dL_law_325 : decode code 325 = .ok (.iaload, 1) := by decide +kernel
theorem dL_law_326 : decode code 326 = .ok (.aload_n 0, 1) := by decide +kernel
theorem dL_law_327 : decode code 327 = .ok (.iload_n 3, 1) := by decide +kernel
theorem dL_law_328 : decode code 328 = .ok (.iconst 2, 1) := by decide +kernel
theorem dL_law_329 : decode code 329 = .ok (.iadd, 1) := by decide +kernel
theorem dL_law_330 : decode code 330 = .ok (.iaload, 1) := by decide +kernel
theorem dL_law_331 : decode code 331 = .ok (.invokevirtual 36, 3) := by decide +kernel
theorem dL_law_334 : decode code 334 = .ok (.if_icmp .eq 668, 3) := by decide +kernel
theorem dL_law_337 : decode code 337 = .ok (.iconst 0, 1) := by decide +kernel
theorem dL_law_338 : decode code 338 = .ok (.ireturn, 1) := by decide +kernel
theorem dL_law_339 : decode code 339 = .ok (.aload_n 1, 1) := by decide +kernel
theorem dL_law_340 : decode code 340 = .ok (.aload_n 0, 1) := by decide +kernel
theorem dL_law_341 : decode code 341 = .ok (.iload_n 3, 1) := by decide +kernel
theorem dL_law_342 : decode code 342 = .ok (.iconst 1, 1) := by decide +kernel
theorem dL_law_343 : decode code 343 = .ok (.iadd, 1) := by decide +kernel
theorem dL_law_344 : decode code 344 = .ok (.iaload, 1) := by decide +kernel
theorem dL_law_345 : decode code 345 = .ok (.invokevirtual 37, 3) := by decide +kernel
theorem dL_law_348 : decode code 348 = .ok (.aload_n 2, 1) := by decide +kernel
theorem dL_law_349 : decode code 349 = .ok (.aload_n 0, 1) := by decide +kernel
theorem dL_law_350 : decode code 350 = .ok (.iload_n 3, 1) := by decide +kernel
theorem dL_law_351 : decode code 351 = .ok (.iconst 1, 1) := by decide +kernel
theorem dL_law_352 : decode code 352 = .ok (.iadd, 1) := by decide +kernel
theorem dL_law_353 : decode code 353 = .ok (.iaload, 1) := by decide +kernel
theorem dL_law_354 : decode code 354 = .ok (.invokevirtual 41, 3) := by decide +kernel
theorem dL_law_357 : decode code 357 = .ok (.if_icmp .eq 645, 3) := by decide +kernel
theorem dL_law_360 : decode code 360 = .ok (.iconst 0, 1) := by decide +kernel
theorem dL_law_361 : decode code 361 = .ok (.ireturn, 1) := by decide +kernel
theorem dL_law_362 : decode code 362 = .ok (.aload_n 1, 1) := by decide +kernel
theorem dL_law_363 : decode code 363 = .ok (.aload_n 0, 1) := by decide +kernel
theorem dL_law_364 : decode code 364 = .ok (.iload_n 3, 1) := by decide +kernel
theorem dL_law_365 : decode code 365 = .ok (.iconst 1, 1) := by decide +kernel
theorem dL_law_366 : decode code 366 = .ok (.iadd, 1) := by decide +kernel
theorem dL_law_367 : decode code 367 = .ok (.iaload, 1) := by decide +kernel
theorem dL_law_368 : decode code 368 = .ok (.invokevirtual 42, 3) := by decide +kernel
theorem dL_law_371 : decode code 371 = .ok (.aload_n 2, 1) := by decide +kernel
theorem dL_law_372 : decode code 372 = .ok (.aload_n 0, 1) := by decide +kernel
theorem dL_law_373 : decode code 373 = .ok (.iload_n 3, 1) := by decide +kernel
theorem dL_law_374 : decode code 374 = .ok (.iconst 1, 1) := by decide +kernel
theorem dL_law_375 : decode code 375 = .ok (.iadd, 1) := by decide +kernel
theorem dL_law_376 : decode code 376 = .ok (.iaload, 1) := by decide +kernel
theorem dL_law_377 : decode code 377 = .ok (.invokevirtual 45, 3) := by decide +kernel
theorem dL_law_380 : decode code 380 = .ok (.if_icmp .eq 622, 3) := by decide +kernel
theorem dL_law_383 : decode code 383 = .ok (.iconst 0, 1) := by decide +kernel
theorem dL_law_384 : decode code 384 = .ok (.ireturn, 1) := by decide +kernel
theorem dL_law_385 : decode code 385 = .ok (.aload_n 1, 1) := by decide +kernel
theorem dL_law_386 : decode code 386 = .ok (.invokevirtual 46, 3) := by decide +kernel
theorem dL_law_389 : decode code 389 = .ok (.aload_n 2, 1) := by decide +kernel
theorem dL_law_390 : decode code 390 = .ok (.invokevirtual 49, 3) := by decide +kernel
theorem dL_law_393 : decode code 393 = .ok (.if_icmp .eq 609, 3) := by decide +kernel
theorem dL_law_396 : decode code 396 = .ok (.iconst 0, 1) := by decide +kernel
theorem dL_law_397 : decode code 397 = .ok (.ireturn, 1) := by decide +kernel
theorem dL_law_398 : decode code 398 = .ok (.aload_n 1, 1) := by decide +kernel
theorem dL_law_399 : decode code 399 = .ok (.aload_n 0, 1) := by decide +kernel
theorem dL_law_400 : decode code 400 = .ok (.iload_n 3, 1) := by decide +kernel
theorem dL_law_401 : decode code 401 = .ok (.iconst 1, 1) := by decide +kernel
theorem dL_law_402 : decode code 402 = .ok (.iadd, 1) := by decide +kernel
theorem dL_law_403 : decode code 403 = .ok (.iaload, 1) := by decide +kernel
theorem dL_law_404 : decode code 404 = .ok (.invokevirtual 50, 3) := by decide +kernel
theorem dL_law_407 : decode code 407 = .ok (.aload_n 2, 1) := by decide +kernel
theorem dL_law_408 : decode code 408 = .ok (.aload_n 0, 1) := by decide +kernel
theorem dL_law_409 : decode code 409 = .ok (.iload_n 3, 1) := by decide +kernel
theorem dL_law_410 : decode code 410 = .ok (.iconst 1, 1) := by decide +kernel
theorem dL_law_411 : decode code 411 = .ok (.iadd, 1) := by decide +kernel
theorem dL_law_412 : decode code 412 = .ok (.iaload, 1) := by decide +kernel
theorem dL_law_413 : decode code 413 = .ok (.invokevirtual 53, 3) := by decide +kernel
theorem dL_law_416 : decode code 416 = .ok (.if_icmp .eq 586, 3) := by decide +kernel
theorem dL_law_419 : decode code 419 = .ok (.iconst 0, 1) := by decide +kernel
theorem dL_law_420 : decode code 420 = .ok (.ireturn, 1) := by decide +kernel
theorem dL_law_421 : decode code 421 = .ok (.aload_n 1, 1) := by decide +kernel
theorem dL_law_422 : decode code 422 = .ok (.aload_n 0, 1) := by decide +kernel
theorem dL_law_423 : decode code 423 = .ok (.iload_n 3, 1) := by decide +kernel
theorem dL_law_424 : decode code 424 = .ok (.iconst 1, 1) := by decide +kernel
theorem dL_law_425 : decode code 425 = .ok (.iadd, 1) := by decide +kernel
theorem dL_law_426 : decode code 426 = .ok (.iaload, 1) := by decide +kernel
theorem dL_law_427 : decode code 427 = .ok (.invokevirtual 54, 3) := by decide +kernel
theorem dL_law_430 : decode code 430 = .ok (.aload_n 2, 1) := by decide +kernel
theorem dL_law_431 : decode code 431 = .ok (.aload_n 0, 1) := by decide +kernel
theorem dL_law_432 : decode code 432 = .ok (.iload_n 3, 1) := by decide +kernel
theorem dL_law_433 : decode code 433 = .ok (.iconst 1, 1) := by decide +kernel
theorem dL_law_434 : decode code 434 = .ok (.iadd, 1) := by decide +kernel
theorem dL_law_435 : decode code 435 = .ok (.iaload, 1) := by decide +kernel
theorem dL_law_436 : decode code 436 = .ok (.invokevirtual 57, 3) := by decide +kernel
theorem dL_law_439 : decode code 439 = .ok (.if_icmp .eq 563, 3) := by decide +kernel
theorem dL_law_442 : decode code 442 = .ok (.iconst 0, 1) := by decide +kernel
theorem dL_law_443 : decode code 443 = .ok (.ireturn, 1) := by decide +kernel
theorem dL_law_444 : decode code 444 = .ok (.aload_n 1, 1) := by decide +kernel
theorem dL_law_445 : decode code 445 = .ok (.aload_n 0, 1) := by decide +kernel
theorem dL_law_446 : decode code 446 = .ok (.iload_n 3, 1) := by decide +kernel
theorem dL_law_447 : decode code 447 = .ok (.iconst 1, 1) := by decide +kernel
theorem dL_law_448 : decode code 448 = .ok (.iadd, 1) := by decide +kernel
theorem dL_law_449 : decode code 449 = .ok (.iaload, 1) := by decide +kernel
theorem dL_law_450 : decode code 450 = .ok (.aload_n 0, 1) := by decide +kernel
theorem dL_law_451 : decode code 451 = .ok (.iload_n 3, 1) := by decide +kernel
theorem dL_law_452 : decode code 452 = .ok (.iconst 2, 1) := by decide +kernel
theorem dL_law_453 : decode code 453 = .ok (.iadd, 1) := by decide +kernel
theorem dL_law_454 : decode code 454 = .ok (.iaload, 1) := by decide +kernel
theorem dL_law_455 : decode code 455 = .ok (.invokevirtual 58, 3) := by decide +kernel
theorem dL_law_458 : decode code 458 = .ok (.aload_n 2, 1) := by decide +kernel
theorem dL_law_459 : decode code 459 = .ok (.aload_n 0, 1) := by decide +kernel
theorem dL_law_460 : decode code 460 = .ok (.iload_n 3, 1) := by decide +kernel
theorem dL_law_461 : decode code 461 = .ok (.iconst 1, 1) := by decide +kernel
theorem dL_law_462 : decode code 462 = .ok (.iadd, 1) := by decide +kernel
theorem dL_law_463 : decode code 463 = .ok (.iaload, 1) := by decide +kernel
theorem dL_law_464 : decode code 464 = .ok (.aload_n 0, 1) := by decide +kernel
theorem dL_law_465 : decode code 465 = .ok (.iload_n 3, 1) := by decide +kernel
theorem dL_law_466 : decode code 466 = .ok (.iconst 2, 1) := by decide +kernel
theorem dL_law_467 : decode code 467 = .ok (.iadd, 1) := by decide +kernel
theorem dL_law_468 : decode code 468 = .ok (.iaload, 1) := by decide +kernel
theorem dL_law_469 : decode code 469 = .ok (.invokevirtual 61, 3) := by decide +kernel
theorem dL_law_472 : decode code 472 = .ok (.if_icmp .eq 530, 3) := by decide +kernel
theorem dL_law_475 : decode code 475 = .ok (.iconst 0, 1) := by decide +kernel
theorem dL_law_476 : decode code 476 = .ok (.ireturn, 1) := by decide +kernel
theorem dL_law_477 : decode code 477 = .ok (.aload_n 1, 1) := by decide +kernel
theorem dL_law_478 : decode code 478 = .ok (.invokevirtual 62, 3) := by decide +kernel
theorem dL_law_481 : decode code 481 = .ok (.aload_n 2, 1) := by decide +kernel
theorem dL_law_482 : decode code 482 = .ok (.invokevirtual 65, 3) := by decide +kernel
theorem dL_law_485 : decode code 485 = .ok (.if_icmp .eq 517, 3) := by decide +kernel
theorem dL_law_488 : decode code 488 = .ok (.iconst 0, 1) := by decide +kernel
theorem dL_law_489 : decode code 489 = .ok (.ireturn, 1) := by decide +kernel
theorem dL_law_490 : decode code 490 = .ok (.aload_n 1, 1) := by decide +kernel
theorem dL_law_491 : decode code 491 = .ok (.aload_n 0, 1) := by decide +kernel
theorem dL_law_492 : decode code 492 = .ok (.iload_n 3, 1) := by decide +kernel
theorem dL_law_493 : decode code 493 = .ok (.iconst 1, 1) := by decide +kernel
theorem dL_law_494 : decode code 494 = .ok (.iadd, 1) := by decide +kernel
theorem dL_law_495 : decode code 495 = .ok (.iaload, 1) := by decide +kernel
theorem dL_law_496 : decode code 496 = .ok (.invokevirtual 66, 3) := by decide +kernel
theorem dL_law_499 : decode code 499 = .ok (.aload_n 2, 1) := by decide +kernel
theorem dL_law_500 : decode code 500 = .ok (.aload_n 0, 1) := by decide +kernel
theorem dL_law_501 : decode code 501 = .ok (.iload_n 3, 1) := by decide +kernel
theorem dL_law_502 : decode code 502 = .ok (.iconst 1, 1) := by decide +kernel
theorem dL_law_503 : decode code 503 = .ok (.iadd, 1) := by decide +kernel
theorem dL_law_504 : decode code 504 = .ok (.iaload, 1) := by decide +kernel
theorem dL_law_505 : decode code 505 = .ok (.invokevirtual 69, 3) := by decide +kernel
theorem dL_law_508 : decode code 508 = .ok (.if_icmp .eq 494, 3) := by decide +kernel
theorem dL_law_511 : decode code 511 = .ok (.iconst 0, 1) := by decide +kernel
theorem dL_law_512 : decode code 512 = .ok (.ireturn, 1) := by decide +kernel
theorem dL_law_513 : decode code 513 = .ok (.aload_n 1, 1) := by decide +kernel
theorem dL_law_514 : decode code 514 = .ok (.aload_n 0, 1) := by decide +kernel
theorem dL_law_515 : decode code 515 = .ok (.iload_n 3, 1) := by decide +kernel
theorem dL_law_516 : decode code 516 = .ok (.iconst 1, 1) := by decide +kernel
theorem dL_law_517 : decode code 517 = .ok (.iadd, 1) := by decide +kernel
theorem dL_law_518 : decode code 518 = .ok (.iaload, 1) := by decide +kernel
theorem dL_law_519 : decode code 519 = .ok (.invokevirtual 70, 3) := by decide +kernel
theorem dL_law_522 : decode code 522 = .ok (.aload_n 2, 1) := by decide +kernel
theorem dL_law_523 : decode code 523 = .ok (.aload_n 0, 1) := by decide +kernel
theorem dL_law_524 : decode code 524 = .ok (.iload_n 3, 1) := by decide +kernel
theorem dL_law_525 : decode code 525 = .ok (.iconst 1, 1) := by decide +kernel
theorem dL_law_526 : decode code 526 = .ok (.iadd, 1) := by decide +kernel
theorem dL_law_527 : decode code 527 = .ok (.iaload, 1) := by decide +kernel
theorem dL_law_528 : decode code 528 = .ok (.invokevirtual 73, 3) := by decide +kernel
theorem dL_law_531 : decode code 531 = .ok (.if_icmp .eq 471, 3) := by decide +kernel
theorem dL_law_534 : decode code 534 = .ok (.iconst 0, 1) := by decide +kernel
theorem dL_law_535 : decode code 535 = .ok (.ireturn, 1) := by decide +kernel
theorem dL_law_536 : decode code 536 = .ok (.aload_n 1, 1) := by decide +kernel
theorem dL_law_537 : decode code 537 = .ok (.aload_n 0, 1) := by decide +kernel
theorem dL_law_538 : decode code 538 = .ok (.iload_n 3, 1) := by decide +kernel
theorem dL_law_539 : decode code 539 = .ok (.iconst 1, 1) := by decide +kernel
theorem dL_law_540 : decode code 540 = .ok (.iadd, 1) := by decide +kernel
theorem dL_law_541 : decode code 541 = .ok (.iaload, 1) := by decide +kernel
theorem dL_law_542 : decode code 542 = .ok (.invokevirtual 74, 3) := by decide +kernel
theorem dL_law_545 : decode code 545 = .ok (.aload_n 2, 1) := by decide +kernel
theorem dL_law_546 : decode code 546 = .ok (.aload_n 0, 1) := by decide +kernel
theorem dL_law_547 : decode code 547 = .ok (.iload_n 3, 1) := by decide +kernel
theorem dL_law_548 : decode code 548 = .ok (.iconst 1, 1) := by decide +kernel
theorem dL_law_549 : decode code 549 = .ok (.iadd, 1) := by decide +kernel
theorem dL_law_550 : decode code 550 = .ok (.iaload, 1) := by decide +kernel
theorem dL_law_551 : decode code 551 = .ok (.invokevirtual 77, 3) := by decide +kernel
theorem dL_law_554 : decode code 554 = .ok (.if_icmp .eq 448, 3) := by decide +kernel
theorem dL_law_557 : decode code 557 = .ok (.iconst 0, 1) := by decide +kernel
theorem dL_law_558 : decode code 558 = .ok (.ireturn, 1) := by decide +kernel
theorem dL_law_559 : decode code 559 = .ok (.aload_n 1, 1) := by decide +kernel
theorem dL_law_560 : decode code 560 = .ok (.invokevirtual 78, 3) := by decide +kernel
theorem dL_law_563 : decode code 563 = .ok (.aload_n 2, 1) := by decide +kernel
theorem dL_law_564 : decode code 564 = .ok (.invokevirtual 81, 3) := by decide +kernel
theorem dL_law_567 : decode code 567 = .ok (.if_icmp .eq 435, 3) := by decide +kernel
theorem dL_law_570 : decode code 570 = .ok (.iconst 0, 1) := by decide +kernel
theorem dL_law_571 : decode code 571 = .ok (.ireturn, 1) := by decide +kernel
theorem dL_law_572 : decode code 572 = .ok (.aload_n 1, 1) := by decide +kernel
theorem dL_law_573 : decode code 573 = .ok (.aload_n 0, 1) := by decide +kernel
theorem dL_law_574 : decode code 574 = .ok (.iload_n 3, 1) := by decide +kernel
theorem dL_law_575 : decode code 575 = .ok (.iconst 1, 1) := by decide +kernel
theorem dL_law_576 : decode code 576 = .ok (.iadd, 1) := by decide +kernel
theorem dL_law_577 : decode code 577 = .ok (.iaload, 1) := by decide +kernel
theorem dL_law_578 : decode code 578 = .ok (.aload_n 0, 1) := by decide +kernel
theorem dL_law_579 : decode code 579 = .ok (.iload_n 3, 1) := by decide +kernel
theorem dL_law_580 : decode code 580 = .ok (.iconst 2, 1) := by decide +kernel
theorem dL_law_581 : decode code 581 = .ok (.iadd, 1) := by decide +kernel
theorem dL_law_582 : decode code 582 = .ok (.iaload, 1) := by decide +kernel
theorem dL_law_583 : decode code 583 = .ok (.invokevirtual 82, 3) := by decide +kernel
theorem dL_law_586 : decode code 586 = .ok (.aload_n 2, 1) := by decide +kernel
theorem dL_law_587 : decode code 587 = .ok (.aload_n 0, 1) := by decide +kernel
theorem dL_law_588 : decode code 588 = .ok (.iload_n 3, 1) := by decide +kernel
theorem dL_law_589 : decode code 589 = .ok (.iconst 1, 1) := by decide +kernel
