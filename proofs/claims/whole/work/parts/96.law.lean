theorem cl_L_13 : CLV RL 13 yX10_letter mX10_letter (some FieldType.int) 2 := ⟨⟨lwg_at 305 (by decide +kernel) rfl, lwg_at 306 (by decide +kernel) rfl, lwg_at 307 (by decide +kernel) rfl, lwg_at 50 (by decide +kernel) rfl⟩, lwg_at 308 (by decide +kernel) rfl, ⟨by decide +kernel, by decide +kernel, by decide +kernel⟩⟩
theorem cl_L_17 : CLV RL 17 yX11_letter mX11_letter (some FieldType.int) 2 := ⟨⟨lwg_at 1088 (by decide +kernel) rfl, lwg_at 1089 (by decide +kernel) rfl, lwg_at 1090 (by decide +kernel) rfl, lwg_at 61 (by decide +kernel) rfl⟩, lwg_at 1091 (by decide +kernel) rfl, ⟨by decide +kernel, by decide +kernel, by decide +kernel⟩⟩
theorem cl_L_18 : CLV RL 18 yX10_empty mX10_empty (some FieldType.int) 1 := ⟨⟨lwg_at 320 (by decide +kernel) rfl, lwg_at 321 (by decide +kernel) rfl, lwg_at 322 (by decide +kernel) rfl, lwg_at 50 (by decide +kernel) rfl⟩, lwg_at 323 (by decide +kernel) rfl, ⟨by decide +kernel, by decide +kernel, by decide +kernel⟩⟩
theorem cl_L_22 : CLV RL 22 yX11_empty mX11_empty (some FieldType.int) 1 := ⟨⟨lwg_at 1099 (by decide +kernel) rfl, lwg_at 1100 (by decide +kernel) rfl, lwg_at 1101 (by decide +kernel) rfl, lwg_at 61 (by decide +kernel) rfl⟩, lwg_at 1102 (by decide +kernel) rfl, ⟨by decide +kernel, by decide +kernel, by decide +kernel⟩⟩
theorem cl_L_23 : CLV RL 23 yX10_make mX10_make (some FieldType.int) 3 := ⟨⟨lwg_at 324 (by decide +kernel) rfl, lwg_at 325 (by decide +kernel) rfl, lwg_at 326 (by decide +kernel) rfl, lwg_at 50 (by decide +kernel) rfl⟩, lwg_at 327 (by decide +kernel) rfl, ⟨by decide +kernel, by decide +kernel, by decide +kernel⟩⟩
theorem cl_L_27 : CLV RL 27 yX11_make mX11_make (some FieldType.int) 3 := ⟨⟨lwg_at 1103 (by decide +kernel) rfl, lwg_at 1104 (by decide +kernel) rfl, lwg_at 1105 (by decide +kernel) rfl, lwg_at 61 (by decide +kernel) rfl⟩, lwg_at 1106 (by decide +kernel) rfl, ⟨by decide +kernel, by decide +kernel, by decide +kernel⟩⟩
theorem cl_L_28 : CLV RL 28 yX10_join mX10_join (some FieldType.int) 2 := ⟨⟨lwg_at 342 (by decide +kernel) rfl, lwg_at 343 (by decide +kernel) rfl, lwg_at 344 (by decide +kernel) rfl, lwg_at 50 (by decide +kernel) rfl⟩, lwg_at 345 (by decide +kernel) rfl, ⟨by decide +kernel, by decide +kernel, by decide +kernel⟩⟩
theorem cl_L_31 : CLV RL 31 yX11_join mX11_join (some FieldType.int) 2 := ⟨⟨lwg_at 1112 (by decide +kernel) rfl, lwg_at 1113 (by decide +kernel) rfl, lwg_at 1114 (by decide +kernel) rfl, lwg_at 61 (by decide +kernel) rfl⟩, lwg_at 1115 (by decide +kernel) rfl, ⟨by decide +kernel, by decide +kernel, by decide +kernel⟩⟩
theorem cl_L_32 : CLV RL 32 yX10_turn mX10_turn (some FieldType.int) 1 := ⟨⟨lwg_at 346 (by decide +kernel) rfl, lwg_at 347 (by decide +kernel) rfl, lwg_at 348 (by decide +kernel) rfl, lwg_at 50 (by decide +kernel) rfl⟩, lwg_at 349 (by decide +kernel) rfl, ⟨by decide +kernel, by decide +kernel, by decide +kernel⟩⟩
theorem cl_L_35 : CLV RL 35 yX11_turn mX11_turn (some FieldType.int) 1 := ⟨⟨lwg_at 1116 (by decide +kernel) rfl, lwg_at 1117 (by decide +kernel) rfl, lwg_at 1118 (by decide +kernel) rfl, lwg_at 61 (by decide +kernel) rfl⟩, lwg_at 1119 (by decide +kernel) rfl, ⟨by decide +kernel, by decide +kernel, by decide +kernel⟩⟩
theorem cl_L_36 : CLV RL 36 yX10_word mX10_word (some FieldType.int) 2 := ⟨⟨lwg_at 354 (by decide +kernel) rfl, lwg_at 355 (by decide +kernel) rfl, lwg_at 356 (by decide +kernel) rfl, lwg_at 50 (by decide +kernel) rfl⟩, lwg_at 357 (by decide +kernel) rfl, ⟨by decide +kernel, by decide +kernel, by decide +kernel⟩⟩
theorem cl_L_39 : CLV RL 39 yX11_word mX11_word (some FieldType.int) 2 := ⟨⟨lwg_at 1120 (by decide +kernel) rfl, lwg_at 1121 (by decide +kernel) rfl, lwg_at 1122 (by decide +kernel) rfl, lwg_at 61 (by decide +kernel) rfl⟩, lwg_at 1123 (by decide +kernel) rfl, ⟨by decide +kernel, by decide +kernel, by decide +kernel⟩⟩
theorem cl_L_40 : CLV RL 40 yX10_acted mX10_acted (some FieldType.long) 3 := ⟨⟨lwg_at 362 (by decide +kernel) rfl, lwg_at 363 (by decide +kernel) rfl, lwg_at 364 (by decide +kernel) rfl, lwg_at 50 (by decide +kernel) rfl⟩, lwg_at 365 (by decide +kernel) rfl, ⟨by decide +kernel, by decide +kernel, by decide +kernel⟩⟩
theorem cl_L_44 : CLV RL 44 yX11_acted mX11_acted (some FieldType.long) 3 := ⟨⟨lwg_at 1128 (by decide +kernel) rfl, lwg_at 1129 (by decide +kernel) rfl, lwg_at 1130 (by decide +kernel) rfl, lwg_at 61 (by decide +kernel) rfl⟩, lwg_at 1131 (by decide +kernel) rfl, ⟨by decide +kernel, by decide +kernel, by decide +kernel⟩⟩
theorem cl_L_45 : CLV RL 45 yX10_order mX10_order (some FieldType.long) 2 := ⟨⟨lwg_at 370 (by decide +kernel) rfl, lwg_at 371 (by decide +kernel) rfl, lwg_at 372 (by decide +kernel) rfl, lwg_at 50 (by decide +kernel) rfl⟩, lwg_at 373 (by decide +kernel) rfl, ⟨by decide +kernel, by decide +kernel, by decide +kernel⟩⟩
theorem cl_L_49 : CLV RL 49 yX11_order mX11_order (some FieldType.long) 2 := ⟨⟨lwg_at 1134 (by decide +kernel) rfl, lwg_at 1135 (by decide +kernel) rfl, lwg_at 1136 (by decide +kernel) rfl, lwg_at 61 (by decide +kernel) rfl⟩, lwg_at 1137 (by decide +kernel) rfl, ⟨by decide +kernel, by decide +kernel, by decide +kernel⟩⟩
theorem cl_L_50 : CLV RL 50 yX10_clear mX10_clear (some FieldType.int) 0 := ⟨⟨lwg_at 381 (by decide +kernel) rfl, lwg_at 382 (by decide +kernel) rfl, lwg_at 383 (by decide +kernel) rfl, lwg_at 50 (by decide +kernel) rfl⟩, lwg_at 384 (by decide +kernel) rfl, ⟨by decide +kernel, by decide +kernel, by decide +kernel⟩⟩
theorem cl_L_54 : CLV RL 54 yX11_clear mX11_clear (some FieldType.int) 0 := ⟨⟨lwg_at 1142 (by decide +kernel) rfl, lwg_at 1143 (by decide +kernel) rfl, lwg_at 1144 (by decide +kernel) rfl, lwg_at 61 (by decide +kernel) rfl⟩, lwg_at 1145 (by decide +kernel) rfl, ⟨by decide +kernel, by decide +kernel, by decide +kernel⟩⟩
theorem cl_L_55 : CLV RL 55 yX10_add mX10_add (some FieldType.int) 2 := ⟨⟨lwg_at 394 (by decide +kernel) rfl, lwg_at 395 (by decide +kernel) rfl, lwg_at 396 (by decide +kernel) rfl, lwg_at 50 (by decide +kernel) rfl⟩, lwg_at 397 (by decide +kernel) rfl, ⟨by decide +kernel, by decide +kernel, by decide +kernel⟩⟩
theorem cl_L_58 : CLV RL 58 yX11_add mX11_add (some FieldType.int) 2 := ⟨⟨lwg_at 1150 (by decide +kernel) rfl, lwg_at 1151 (by decide +kernel) rfl, lwg_at 1152 (by decide +kernel) rfl, lwg_at 61 (by decide +kernel) rfl⟩, lwg_at 1153 (by decide +kernel) rfl, ⟨by decide +kernel, by decide +kernel, by decide +kernel⟩⟩
theorem cl_L_59 : CLV RL 59 yX10_times mX10_times (some FieldType.int) 1 := ⟨⟨lwg_at 426 (by decide +kernel) rfl, lwg_at 427 (by decide +kernel) rfl, lwg_at 428 (by decide +kernel) rfl, lwg_at 50 (by decide +kernel) rfl⟩, lwg_at 429 (by decide +kernel) rfl, ⟨by decide +kernel, by decide +kernel, by decide +kernel⟩⟩
theorem cl_L_62 : CLV RL 62 yX11_times mX11_times (some FieldType.int) 1 := ⟨⟨lwg_at 1158 (by decide +kernel) rfl, lwg_at 1159 (by decide +kernel) rfl, lwg_at 1160 (by decide +kernel) rfl, lwg_at 61 (by decide +kernel) rfl⟩, lwg_at 1161 (by decide +kernel) rfl, ⟨by decide +kernel, by decide +kernel, by decide +kernel⟩⟩
theorem cl_L_63 : CLV RL 63 yX10_number mX10_number (some FieldType.long) 2 := ⟨⟨lwg_at 442 (by decide +kernel) rfl, lwg_at 443 (by decide +kernel) rfl, lwg_at 444 (by decide +kernel) rfl, lwg_at 50 (by decide +kernel) rfl⟩, lwg_at 445 (by decide +kernel) rfl, ⟨by decide +kernel, by decide +kernel, by decide +kernel⟩⟩
theorem cl_L_66 : CLV RL 66 yX11_number mX11_number (some FieldType.long) 2 := ⟨⟨lwg_at 1166 (by decide +kernel) rfl, lwg_at 1167 (by decide +kernel) rfl, lwg_at 1168 (by decide +kernel) rfl, lwg_at 61 (by decide +kernel) rfl⟩, lwg_at 1169 (by decide +kernel) rfl, ⟨by decide +kernel, by decide +kernel, by decide +kernel⟩⟩
theorem cl_L_67 : CLV RL 67 yX10_side mX10_side (some FieldType.int) 2 := ⟨⟨lwg_at 450 (by decide +kernel) rfl, lwg_at 451 (by decide +kernel) rfl, lwg_at 452 (by decide +kernel) rfl, lwg_at 50 (by decide +kernel) rfl⟩, lwg_at 453 (by decide +kernel) rfl, ⟨by decide +kernel, by decide +kernel, by decide +kernel⟩⟩
theorem cl_L_70 : CLV RL 70 yX11_side mX11_side (some FieldType.int) 2 := ⟨⟨lwg_at 1171 (by decide +kernel) rfl, lwg_at 1172 (by decide +kernel) rfl, lwg_at 1173 (by decide +kernel) rfl, lwg_at 61 (by decide +kernel) rfl⟩, lwg_at 1174 (by decide +kernel) rfl, ⟨by decide +kernel, by decide +kernel, by decide +kernel⟩⟩
theorem cl_L_71 : CLV RL 71 yX10_cell mX10_cell (some FieldType.int) 3 := ⟨⟨lwg_at 466 (by decide +kernel) rfl, lwg_at 467 (by decide +kernel) rfl, lwg_at 468 (by decide +kernel) rfl, lwg_at 50 (by decide +kernel) rfl⟩, lwg_at 469 (by decide +kernel) rfl, ⟨by decide +kernel, by decide +kernel, by decide +kernel⟩⟩
theorem cl_L_74 : CLV RL 74 yX11_cell mX11_cell (some FieldType.int) 3 := ⟨⟨lwg_at 1179 (by decide +kernel) rfl, lwg_at 1180 (by decide +kernel) rfl, lwg_at 1181 (by decide +kernel) rfl, lwg_at 61 (by decide +kernel) rfl⟩, lwg_at 1182 (by decide +kernel) rfl, ⟨by decide +kernel, by decide +kernel, by decide +kernel⟩⟩
theorem cl_L_75 : CLV RL 75 yX10_board mX10_board (some FieldType.int) 2 := ⟨⟨lwg_at 497 (by decide +kernel) rfl, lwg_at 498 (by decide +kernel) rfl, lwg_at 499 (by decide +kernel) rfl, lwg_at 50 (by decide +kernel) rfl⟩, lwg_at 500 (by decide +kernel) rfl, ⟨by decide +kernel, by decide +kernel, by decide +kernel⟩⟩
theorem cl_L_78 : CLV RL 78 yX11_board mX11_board (some FieldType.int) 2 := ⟨⟨lwg_at 1194 (by decide +kernel) rfl, lwg_at 1195 (by decide +kernel) rfl, lwg_at 1196 (by decide +kernel) rfl, lwg_at 61 (by decide +kernel) rfl⟩, lwg_at 1197 (by decide +kernel) rfl, ⟨by decide +kernel, by decide +kernel, by decide +kernel⟩⟩
theorem cl_L_79 : CLV RL 79 yX10_steps mX10_steps (some FieldType.int) 3 := ⟨⟨lwg_at 509 (by decide +kernel) rfl, lwg_at 510 (by decide +kernel) rfl, lwg_at 511 (by decide +kernel) rfl, lwg_at 50 (by decide +kernel) rfl⟩, lwg_at 512 (by decide +kernel) rfl, ⟨by decide +kernel, by decide +kernel, by decide +kernel⟩⟩
theorem cl_L_82 : CLV RL 82 yX11_steps mX11_steps (some FieldType.int) 3 := ⟨⟨lwg_at 1198 (by decide +kernel) rfl, lwg_at 1199 (by decide +kernel) rfl, lwg_at 1200 (by decide +kernel) rfl, lwg_at 61 (by decide +kernel) rfl⟩, lwg_at 1201 (by decide +kernel) rfl, ⟨by decide +kernel, by decide +kernel, by decide +kernel⟩⟩
theorem cl_L_83 : CLV RL 83 yX10_other mX10_other (some FieldType.int) 1 := ⟨⟨lwg_at 523 (by decide +kernel) rfl, lwg_at 524 (by decide +kernel) rfl, lwg_at 525 (by decide +kernel) rfl, lwg_at 50 (by decide +kernel) rfl⟩, lwg_at 526 (by decide +kernel) rfl, ⟨by decide +kernel, by decide +kernel, by decide +kernel⟩⟩
theorem cl_L_86 : CLV RL 86 yX11_other mX11_other (some FieldType.int) 1 := ⟨⟨lwg_at 1202 (by decide +kernel) rfl, lwg_at 1203 (by decide +kernel) rfl, lwg_at 1204 (by decide +kernel) rfl, lwg_at 61 (by decide +kernel) rfl⟩, lwg_at 1205 (by decide +kernel) rfl, ⟨by decide +kernel, by decide +kernel, by decide +kernel⟩⟩
theorem cl_L_87 : CLV RL 87 yX10_turned mX10_turned (some FieldType.int) 1 := ⟨⟨lwg_at 531 (by decide +kernel) rfl, lwg_at 532 (by decide +kernel) rfl, lwg_at 533 (by decide +kernel) rfl, lwg_at 50 (by decide +kernel) rfl⟩, lwg_at 534 (by decide +kernel) rfl, ⟨by decide +kernel, by decide +kernel, by decide +kernel⟩⟩
theorem cl_L_90 : CLV RL 90 yX11_turned mX11_turned (some FieldType.int) 1 := ⟨⟨lwg_at 1206 (by decide +kernel) rfl, lwg_at 1207 (by decide +kernel) rfl, lwg_at 1208 (by decide +kernel) rfl, lwg_at 61 (by decide +kernel) rfl⟩, lwg_at 1209 (by decide +kernel) rfl, ⟨by decide +kernel, by decide +kernel, by decide +kernel⟩⟩
theorem cl_L_91 : CLV RL 91 yX10_flipped mX10_flipped (some FieldType.int) 1 := ⟨⟨lwg_at 544 (by decide +kernel) rfl, lwg_at 545 (by decide +kernel) rfl, lwg_at 546 (by decide +kernel) rfl, lwg_at 50 (by decide +kernel) rfl⟩, lwg_at 547 (by decide +kernel) rfl, ⟨by decide +kernel, by decide +kernel, by decide +kernel⟩⟩
theorem cl_L_94 : CLV RL 94 yX11_flipped mX11_flipped (some FieldType.int) 1 := ⟨⟨lwg_at 1214 (by decide +kernel) rfl, lwg_at 1215 (by decide +kernel) rfl, lwg_at 1216 (by decide +kernel) rfl, lwg_at 61 (by decide +kernel) rfl⟩, lwg_at 1217 (by decide +kernel) rfl, ⟨by decide +kernel, by decide +kernel, by decide +kernel⟩⟩
theorem cl_L_95 : CLV RL 95 yX10_row mX10_row (some FieldType.int) 2 := ⟨⟨lwg_at 552 (by decide +kernel) rfl, lwg_at 553 (by decide +kernel) rfl, lwg_at 554 (by decide +kernel) rfl, lwg_at 50 (by decide +kernel) rfl⟩, lwg_at 555 (by decide +kernel) rfl, ⟨by decide +kernel, by decide +kernel, by decide +kernel⟩⟩
theorem cl_L_98 : CLV RL 98 yX11_row mX11_row (some FieldType.int) 2 := ⟨⟨lwg_at 1218 (by decide +kernel) rfl, lwg_at 1219 (by decide +kernel) rfl, lwg_at 1220 (by decide +kernel) rfl, lwg_at 61 (by decide +kernel) rfl⟩, lwg_at 1221 (by decide +kernel) rfl, ⟨by decide +kernel, by decide +kernel, by decide +kernel⟩⟩
theorem cl_L_99 : CLV RL 99 yX10_of mX10_of (some FieldType.int) 2 := ⟨⟨lwg_at 556 (by decide +kernel) rfl, lwg_at 557 (by decide +kernel) rfl, lwg_at 558 (by decide +kernel) rfl, lwg_at 50 (by decide +kernel) rfl⟩, lwg_at 559 (by decide +kernel) rfl, ⟨by decide +kernel, by decide +kernel, by decide +kernel⟩⟩
theorem cl_L_102 : CLV RL 102 yX11_of mX11_of (some FieldType.int) 2 := ⟨⟨lwg_at 1254 (by decide +kernel) rfl, lwg_at 1255 (by decide +kernel) rfl, lwg_at 1256 (by decide +kernel) rfl, lwg_at 61 (by decide +kernel) rfl⟩, lwg_at 1257 (by decide +kernel) rfl, ⟨by decide +kernel, by decide +kernel, by decide +kernel⟩⟩
theorem cl_L_103 : CLV RL 103 yX10_count mX10_count (some FieldType.int) 2 := ⟨⟨lwg_at 653 (by decide +kernel) rfl, lwg_at 654 (by decide +kernel) rfl, lwg_at 655 (by decide +kernel) rfl, lwg_at 50 (by decide +kernel) rfl⟩, lwg_at 656 (by decide +kernel) rfl, ⟨by decide +kernel, by decide +kernel, by decide +kernel⟩⟩
theorem cl_L_106 : CLV RL 106 yX11_count mX11_count (some FieldType.int) 2 := ⟨⟨lwg_at 1222 (by decide +kernel) rfl, lwg_at 1223 (by decide +kernel) rfl, lwg_at 1224 (by decide +kernel) rfl, lwg_at 61 (by decide +kernel) rfl⟩, lwg_at 1225 (by decide +kernel) rfl, ⟨by decide +kernel, by decide +kernel, by decide +kernel⟩⟩
theorem cl_L_107 : CLV RL 107 yX10_hits mX10_hits (some FieldType.int) 2 := ⟨⟨lwg_at 657 (by decide +kernel) rfl, lwg_at 658 (by decide +kernel) rfl, lwg_at 659 (by decide +kernel) rfl, lwg_at 50 (by decide +kernel) rfl⟩, lwg_at 660 (by decide +kernel) rfl, ⟨by decide +kernel, by decide +kernel, by decide +kernel⟩⟩
theorem cl_L_110 : CLV RL 110 yX11_hits mX11_hits (some FieldType.int) 2 := ⟨⟨lwg_at 1230 (by decide +kernel) rfl, lwg_at 1231 (by decide +kernel) rfl, lwg_at 1232 (by decide +kernel) rfl, lwg_at 61 (by decide +kernel) rfl⟩, lwg_at 1233 (by decide +kernel) rfl, ⟨by decide +kernel, by decide +kernel, by decide +kernel⟩⟩
theorem cl_L_111 : CLV RL 111 yX10_factored mX10_factored (some FieldType.long) 2 := ⟨⟨lwg_at 668 (by decide +kernel) rfl, lwg_at 669 (by decide +kernel) rfl, lwg_at 670 (by decide +kernel) rfl, lwg_at 50 (by decide +kernel) rfl⟩, lwg_at 671 (by decide +kernel) rfl, ⟨by decide +kernel, by decide +kernel, by decide +kernel⟩⟩
theorem cl_L_114 : CLV RL 114 yX11_factored mX11_factored (some FieldType.long) 2 := ⟨⟨lwg_at 1242 (by decide +kernel) rfl, lwg_at 1243 (by decide +kernel) rfl, lwg_at 1244 (by decide +kernel) rfl, lwg_at 61 (by decide +kernel) rfl⟩, lwg_at 1245 (by decide +kernel) rfl, ⟨by decide +kernel, by decide +kernel, by decide +kernel⟩⟩
theorem cl_L_115 : CLV RL 115 yX10_bySteps mX10_bySteps (some FieldType.long) 2 := ⟨⟨lwg_at 672 (by decide +kernel) rfl, lwg_at 673 (by decide +kernel) rfl, lwg_at 674 (by decide +kernel) rfl, lwg_at 50 (by decide +kernel) rfl⟩, lwg_at 675 (by decide +kernel) rfl, ⟨by decide +kernel, by decide +kernel, by decide +kernel⟩⟩
theorem cl_L_118 : CLV RL 118 yX11_bySteps mX11_bySteps (some FieldType.long) 2 := ⟨⟨lwg_at 1246 (by decide +kernel) rfl, lwg_at 1247 (by decide +kernel) rfl, lwg_at 1248 (by decide +kernel) rfl, lwg_at 61 (by decide +kernel) rfl⟩, lwg_at 1249 (by decide +kernel) rfl, ⟨by decide +kernel, by decide +kernel, by decide +kernel⟩⟩
theorem cl_L_119 : CLV RL 119 yX10_all mX10_all (some FieldType.int) 3 := ⟨⟨lwg_at 677 (by decide +kernel) rfl, lwg_at 678 (by decide +kernel) rfl, lwg_at 679 (by decide +kernel) rfl, lwg_at 50 (by decide +kernel) rfl⟩, lwg_at 680 (by decide +kernel) rfl, ⟨by decide +kernel, by decide +kernel, by decide +kernel⟩⟩
theorem cl_L_122 : CLV RL 122 yX11_all mX11_all (some FieldType.int) 3 := ⟨⟨lwg_at 1271 (by decide +kernel) rfl, lwg_at 1272 (by decide +kernel) rfl, lwg_at 1273 (by decide +kernel) rfl, lwg_at 61 (by decide +kernel) rfl⟩, lwg_at 1274 (by decide +kernel) rfl, ⟨by decide +kernel, by decide +kernel, by decide +kernel⟩⟩
theorem cl_L_123 : CLV RL 123 yX10_like mX10_like (some FieldType.int) 2 := ⟨⟨lwg_at 682 (by decide +kernel) rfl, lwg_at 683 (by decide +kernel) rfl, lwg_at 684 (by decide +kernel) rfl, lwg_at 50 (by decide +kernel) rfl⟩, lwg_at 685 (by decide +kernel) rfl, ⟨by decide +kernel, by decide +kernel, by decide +kernel⟩⟩
theorem cl_L_126 : CLV RL 126 yX11_like mX11_like (some FieldType.int) 2 := ⟨⟨lwg_at 1276 (by decide +kernel) rfl, lwg_at 1277 (by decide +kernel) rfl, lwg_at 1278 (by decide +kernel) rfl, lwg_at 61 (by decide +kernel) rfl⟩, lwg_at 1279 (by decide +kernel) rfl, ⟨by decide +kernel, by decide +kernel, by decide +kernel⟩⟩
theorem cl_L_127 : CLV RL 127 yX10_classes mX10_classes (some FieldType.int) 3 := ⟨⟨lwg_at 691 (by decide +kernel) rfl, lwg_at 692 (by decide +kernel) rfl, lwg_at 693 (by decide +kernel) rfl, lwg_at 50 (by decide +kernel) rfl⟩, lwg_at 694 (by decide +kernel) rfl, ⟨by decide +kernel, by decide +kernel, by decide +kernel⟩⟩
theorem cl_L_130 : CLV RL 130 yX11_classes mX11_classes (some FieldType.int) 3 := ⟨⟨lwg_at 1280 (by decide +kernel) rfl, lwg_at 1281 (by decide +kernel) rfl, lwg_at 1282 (by decide +kernel) rfl, lwg_at 61 (by decide +kernel) rfl⟩, lwg_at 1283 (by decide +kernel) rfl, ⟨by decide +kernel, by decide +kernel, by decide +kernel⟩⟩
theorem cl_L_131 : CLV RL 131 yX10_see mX10_see (some FieldType.int) 2 := ⟨⟨lwg_at 699 (by decide +kernel) rfl, lwg_at 700 (by decide +kernel) rfl, lwg_at 701 (by decide +kernel) rfl, lwg_at 50 (by decide +kernel) rfl⟩, lwg_at 702 (by decide +kernel) rfl, ⟨by decide +kernel, by decide +kernel, by decide +kernel⟩⟩
theorem cl_L_134 : CLV RL 134 yX11_see mX11_see (some FieldType.int) 2 := ⟨⟨lwg_at 1296 (by decide +kernel) rfl, lwg_at 1297 (by decide +kernel) rfl, lwg_at 1298 (by decide +kernel) rfl, lwg_at 61 (by decide +kernel) rfl⟩, lwg_at 1299 (by decide +kernel) rfl, ⟨by decide +kernel, by decide +kernel, by decide +kernel⟩⟩
theorem cl_L_135 : CLV RL 135 yX10_fits mX10_fits (some FieldType.int) 2 := ⟨⟨lwg_at 703 (by decide +kernel) rfl, lwg_at 704 (by decide +kernel) rfl, lwg_at 705 (by decide +kernel) rfl, lwg_at 50 (by decide +kernel) rfl⟩, lwg_at 706 (by decide +kernel) rfl, ⟨by decide +kernel, by decide +kernel, by decide +kernel⟩⟩
theorem cl_L_138 : CLV RL 138 yX11_fits mX11_fits (some FieldType.int) 2 := ⟨⟨lwg_at 1301 (by decide +kernel) rfl, lwg_at 1302 (by decide +kernel) rfl, lwg_at 1303 (by decide +kernel) rfl, lwg_at 61 (by decide +kernel) rfl⟩, lwg_at 1304 (by decide +kernel) rfl, ⟨by decide +kernel, by decide +kernel, by decide +kernel⟩⟩
theorem cl_L_139 : CLV RL 139 yX10_weight mX10_weight (some FieldType.int) 3 := ⟨⟨lwg_at 717 (by decide +kernel) rfl, lwg_at 718 (by decide +kernel) rfl, lwg_at 719 (by decide +kernel) rfl, lwg_at 50 (by decide +kernel) rfl⟩, lwg_at 720 (by decide +kernel) rfl, ⟨by decide +kernel, by decide +kernel, by decide +kernel⟩⟩
theorem cl_L_142 : CLV RL 142 yX11_weight mX11_weight (some FieldType.int) 3 := ⟨⟨lwg_at 1305 (by decide +kernel) rfl, lwg_at 1306 (by decide +kernel) rfl, lwg_at 1307 (by decide +kernel) rfl, lwg_at 61 (by decide +kernel) rfl⟩, lwg_at 1308 (by decide +kernel) rfl, ⟨by decide +kernel, by decide +kernel, by decide +kernel⟩⟩
theorem cl_L_143 : CLV RL 143 yX10_cheapest mX10_cheapest (some FieldType.int) 3 := ⟨⟨lwg_at 721 (by decide +kernel) rfl, lwg_at 722 (by decide +kernel) rfl, lwg_at 723 (by decide +kernel) rfl, lwg_at 50 (by decide +kernel) rfl⟩, lwg_at 724 (by decide +kernel) rfl, ⟨by decide +kernel, by decide +kernel, by decide +kernel⟩⟩
theorem cl_L_146 : CLV RL 146 yX11_cheapest mX11_cheapest (some FieldType.int) 3 := ⟨⟨lwg_at 1310 (by decide +kernel) rfl, lwg_at 1311 (by decide +kernel) rfl, lwg_at 1312 (by decide +kernel) rfl, lwg_at 61 (by decide +kernel) rfl⟩, lwg_at 1313 (by decide +kernel) rfl, ⟨by decide +kernel, by decide +kernel, by decide +kernel⟩⟩
theorem cl_L_147 : CLV RL 147 yX10_listed mX10_listed (some FieldType.int) 4 := ⟨⟨lwg_at 747 (by decide +kernel) rfl, lwg_at 748 (by decide +kernel) rfl, lwg_at 749 (by decide +kernel) rfl, lwg_at 50 (by decide +kernel) rfl⟩, lwg_at 750 (by decide +kernel) rfl, ⟨by decide +kernel, by decide +kernel, by decide +kernel⟩⟩
theorem cl_L_151 : CLV RL 151 yX11_listed mX11_listed (some FieldType.int) 4 := ⟨⟨lwg_at 1338 (by decide +kernel) rfl, lwg_at 1339 (by decide +kernel) rfl, lwg_at 1340 (by decide +kernel) rfl, lwg_at 61 (by decide +kernel) rfl⟩, lwg_at 1341 (by decide +kernel) rfl, ⟨by decide +kernel, by decide +kernel, by decide +kernel⟩⟩
theorem cl_L_152 : CLV RL 152 yX10_odds mX10_odds (some FieldType.long) 2 := ⟨⟨lwg_at 769 (by decide +kernel) rfl, lwg_at 770 (by decide +kernel) rfl, lwg_at 771 (by decide +kernel) rfl, lwg_at 50 (by decide +kernel) rfl⟩, lwg_at 772 (by decide +kernel) rfl, ⟨by decide +kernel, by decide +kernel, by decide +kernel⟩⟩
theorem cl_L_155 : CLV RL 155 yX11_odds mX11_odds (some FieldType.long) 2 := ⟨⟨lwg_at 1342 (by decide +kernel) rfl, lwg_at 1343 (by decide +kernel) rfl, lwg_at 1344 (by decide +kernel) rfl, lwg_at 61 (by decide +kernel) rfl⟩, lwg_at 1345 (by decide +kernel) rfl, ⟨by decide +kernel, by decide +kernel, by decide +kernel⟩⟩
theorem cl_L_156 : CLV RL 156 yX10_mean mX10_mean (some FieldType.long) 2 := ⟨⟨lwg_at 777 (by decide +kernel) rfl, lwg_at 778 (by decide +kernel) rfl, lwg_at 779 (by decide +kernel) rfl, lwg_at 50 (by decide +kernel) rfl⟩, lwg_at 780 (by decide +kernel) rfl, ⟨by decide +kernel, by decide +kernel, by decide +kernel⟩⟩
theorem cl_L_159 : CLV RL 159 yX11_mean mX11_mean (some FieldType.long) 2 := ⟨⟨lwg_at 1355 (by decide +kernel) rfl, lwg_at 1356 (by decide +kernel) rfl, lwg_at 1357 (by decide +kernel) rfl, lwg_at 61 (by decide +kernel) rfl⟩, lwg_at 1358 (by decide +kernel) rfl, ⟨by decide +kernel, by decide +kernel, by decide +kernel⟩⟩
theorem cl_L_160 : CLV RL 160 yX10_lots mX10_lots (some FieldType.int) 4 := ⟨⟨lwg_at 781 (by decide +kernel) rfl, lwg_at 782 (by decide +kernel) rfl, lwg_at 783 (by decide +kernel) rfl, lwg_at 50 (by decide +kernel) rfl⟩, lwg_at 784 (by decide +kernel) rfl, ⟨by decide +kernel, by decide +kernel, by decide +kernel⟩⟩
theorem cl_L_163 : CLV RL 163 yX11_lots mX11_lots (some FieldType.int) 4 := ⟨⟨lwg_at 1359 (by decide +kernel) rfl, lwg_at 1360 (by decide +kernel) rfl, lwg_at 1361 (by decide +kernel) rfl, lwg_at 61 (by decide +kernel) rfl⟩, lwg_at 1362 (by decide +kernel) rfl, ⟨by decide +kernel, by decide +kernel, by decide +kernel⟩⟩
theorem cl_L_164 : CLV RL 164 yX10_feed mX10_feed (some FieldType.int) 1 := ⟨⟨lwg_at 795 (by decide +kernel) rfl, lwg_at 796 (by decide +kernel) rfl, lwg_at 797 (by decide +kernel) rfl, lwg_at 50 (by decide +kernel) rfl⟩, lwg_at 798 (by decide +kernel) rfl, ⟨by decide +kernel, by decide +kernel, by decide +kernel⟩⟩
theorem cl_L_167 : CLV RL 167 yX11_feed mX11_feed (some FieldType.int) 1 := ⟨⟨lwg_at 1371 (by decide +kernel) rfl, lwg_at 1372 (by decide +kernel) rfl, lwg_at 1373 (by decide +kernel) rfl, lwg_at 61 (by decide +kernel) rfl⟩, lwg_at 1374 (by decide +kernel) rfl, ⟨by decide +kernel, by decide +kernel, by decide +kernel⟩⟩
theorem cl_L_168 : CLV RL 168 yX10_read mX10_read (some FieldType.int) 1 := ⟨⟨lwg_at 803 (by decide +kernel) rfl, lwg_at 804 (by decide +kernel) rfl, lwg_at 805 (by decide +kernel) rfl, lwg_at 50 (by decide +kernel) rfl⟩, lwg_at 806 (by decide +kernel) rfl, ⟨by decide +kernel, by decide +kernel, by decide +kernel⟩⟩
theorem cl_L_171 : CLV RL 171 yX11_read mX11_read (some FieldType.int) 1 := ⟨⟨lwg_at 1376 (by decide +kernel) rfl, lwg_at 1377 (by decide +kernel) rfl, lwg_at 1378 (by decide +kernel) rfl, lwg_at 61 (by decide +kernel) rfl⟩, lwg_at 1379 (by decide +kernel) rfl, ⟨by decide +kernel, by decide +kernel, by decide +kernel⟩⟩
theorem cl_L_172 : CLV RL 172 yX10_write mX10_write (some FieldType.int) 1 := ⟨⟨lwg_at 833 (by decide +kernel) rfl, lwg_at 834 (by decide +kernel) rfl, lwg_at 835 (by decide +kernel) rfl, lwg_at 50 (by decide +kernel) rfl⟩, lwg_at 836 (by decide +kernel) rfl, ⟨by decide +kernel, by decide +kernel, by decide +kernel⟩⟩
theorem cl_L_175 : CLV RL 175 yX11_write mX11_write (some FieldType.int) 1 := ⟨⟨lwg_at 1390 (by decide +kernel) rfl, lwg_at 1391 (by decide +kernel) rfl, lwg_at 1392 (by decide +kernel) rfl, lwg_at 61 (by decide +kernel) rfl⟩, lwg_at 1393 (by decide +kernel) rfl, ⟨by decide +kernel, by decide +kernel, by decide +kernel⟩⟩
theorem cl_L_176 : CLV RL 176 yX10_paper mX10_paper (some FieldType.int) 1 := ⟨⟨lwg_at 845 (by decide +kernel) rfl, lwg_at 846 (by decide +kernel) rfl, lwg_at 847 (by decide +kernel) rfl, lwg_at 50 (by decide +kernel) rfl⟩, lwg_at 848 (by decide +kernel) rfl, ⟨by decide +kernel, by decide +kernel, by decide +kernel⟩⟩
theorem cl_L_179 : CLV RL 179 yX11_paper mX11_paper (some FieldType.int) 1 := ⟨⟨lwg_at 1398 (by decide +kernel) rfl, lwg_at 1399 (by decide +kernel) rfl, lwg_at 1400 (by decide +kernel) rfl, lwg_at 61 (by decide +kernel) rfl⟩, lwg_at 1401 (by decide +kernel) rfl, ⟨by decide +kernel, by decide +kernel, by decide +kernel⟩⟩
theorem cl_L_180 : CLV RL 180 yX10_undo mX10_undo (some FieldType.int) 0 := ⟨⟨lwg_at 849 (by decide +kernel) rfl, lwg_at 850 (by decide +kernel) rfl, lwg_at 851 (by decide +kernel) rfl, lwg_at 50 (by decide +kernel) rfl⟩, lwg_at 852 (by decide +kernel) rfl, ⟨by decide +kernel, by decide +kernel, by decide +kernel⟩⟩
theorem cl_L_183 : CLV RL 183 yX11_undo mX11_undo (some FieldType.int) 0 := ⟨⟨lwg_at 1402 (by decide +kernel) rfl, lwg_at 1403 (by decide +kernel) rfl, lwg_at 1404 (by decide +kernel) rfl, lwg_at 61 (by decide +kernel) rfl⟩, lwg_at 1405 (by decide +kernel) rfl, ⟨by decide +kernel, by decide +kernel, by decide +kernel⟩⟩
theorem cl_L_184 : CLV RL 184 yX10_judge mX10_judge (some FieldType.int) 3 := ⟨⟨lwg_at 894 (by decide +kernel) rfl, lwg_at 895 (by decide +kernel) rfl, lwg_at 896 (by decide +kernel) rfl, lwg_at 50 (by decide +kernel) rfl⟩, lwg_at 897 (by decide +kernel) rfl, ⟨by decide +kernel, by decide +kernel, by decide +kernel⟩⟩
theorem cl_L_187 : CLV RL 187 yX11_judge mX11_judge (some FieldType.int) 3 := ⟨⟨lwg_at 1438 (by decide +kernel) rfl, lwg_at 1439 (by decide +kernel) rfl, lwg_at 1440 (by decide +kernel) rfl, lwg_at 61 (by decide +kernel) rfl⟩, lwg_at 1441 (by decide +kernel) rfl, ⟨by decide +kernel, by decide +kernel, by decide +kernel⟩⟩
theorem cl_L_188 : CLV RL 188 yX10_image mX10_image (some FieldType.int) 0 := ⟨⟨lwg_at 858 (by decide +kernel) rfl, lwg_at 859 (by decide +kernel) rfl, lwg_at 860 (by decide +kernel) rfl, lwg_at 50 (by decide +kernel) rfl⟩, lwg_at 861 (by decide +kernel) rfl, ⟨by decide +kernel, by decide +kernel, by decide +kernel⟩⟩
theorem cl_L_191 : CLV RL 191 yX11_image mX11_image (some FieldType.int) 0 := ⟨⟨lwg_at 1406 (by decide +kernel) rfl, lwg_at 1407 (by decide +kernel) rfl, lwg_at 1408 (by decide +kernel) rfl, lwg_at 61 (by decide +kernel) rfl⟩, lwg_at 1409 (by decide +kernel) rfl, ⟨by decide +kernel, by decide +kernel, by decide +kernel⟩⟩
theorem cl_L_192 : CLV RL 192 yX10_restore mX10_restore (some FieldType.int) 0 := ⟨⟨lwg_at 881 (by decide +kernel) rfl, lwg_at 882 (by decide +kernel) rfl, lwg_at 883 (by decide +kernel) rfl, lwg_at 50 (by decide +kernel) rfl⟩, lwg_at 884 (by decide +kernel) rfl, ⟨by decide +kernel, by decide +kernel, by decide +kernel⟩⟩
theorem cl_L_195 : CLV RL 195 yX11_restore mX11_restore (some FieldType.int) 0 := ⟨⟨lwg_at 1414 (by decide +kernel) rfl, lwg_at 1415 (by decide +kernel) rfl, lwg_at 1416 (by decide +kernel) rfl, lwg_at 61 (by decide +kernel) rfl⟩, lwg_at 1417 (by decide +kernel) rfl, ⟨by decide +kernel, by decide +kernel, by decide +kernel⟩⟩
theorem cl_L_196 : CLV RL 196 yX10_told mX10_told (some FieldType.int) 1 := ⟨⟨lwg_at 885 (by decide +kernel) rfl, lwg_at 886 (by decide +kernel) rfl, lwg_at 887 (by decide +kernel) rfl, lwg_at 50 (by decide +kernel) rfl⟩, lwg_at 888 (by decide +kernel) rfl, ⟨by decide +kernel, by decide +kernel, by decide +kernel⟩⟩
theorem cl_L_199 : CLV RL 199 yX11_told mX11_told (some FieldType.int) 1 := ⟨⟨lwg_at 1418 (by decide +kernel) rfl, lwg_at 1419 (by decide +kernel) rfl, lwg_at 1420 (by decide +kernel) rfl, lwg_at 61 (by decide +kernel) rfl⟩, lwg_at 1421 (by decide +kernel) rfl, ⟨by decide +kernel, by decide +kernel, by decide +kernel⟩⟩
theorem cl_L_200 : CLV RL 200 yX10_tape mX10_tape (some FieldType.int) 3 := ⟨⟨lwg_at 898 (by decide +kernel) rfl, lwg_at 899 (by decide +kernel) rfl, lwg_at 900 (by decide +kernel) rfl, lwg_at 50 (by decide +kernel) rfl⟩, lwg_at 901 (by decide +kernel) rfl, ⟨by decide +kernel, by decide +kernel, by decide +kernel⟩⟩
theorem cl_L_203 : CLV RL 203 yX11_tape mX11_tape (some FieldType.int) 3 := ⟨⟨lwg_at 1422 (by decide +kernel) rfl, lwg_at 1423 (by decide +kernel) rfl, lwg_at 1424 (by decide +kernel) rfl, lwg_at 61 (by decide +kernel) rfl⟩, lwg_at 1425 (by decide +kernel) rfl, ⟨by decide +kernel, by decide +kernel, by decide +kernel⟩⟩
theorem bp_32 : (Int8.ofInt 32).toInt32 = 32 := by decide
theorem co_L_204 : Cond.constantLong RL 204 (4294967295) ∈ lwg := lwg_at 1442 (by decide +kernel) rfl
theorem cl_L_206 : CLV RL 206 yX10_item mX10_item (some FieldType.int) 3 := ⟨⟨lwg_at 907 (by decide +kernel) rfl, lwg_at 908 (by decide +kernel) rfl, lwg_at 909 (by decide +kernel) rfl, lwg_at 50 (by decide +kernel) rfl⟩, lwg_at 910 (by decide +kernel) rfl, ⟨by decide +kernel, by decide +kernel, by decide +kernel⟩⟩
theorem cl_L_210 : CLV RL 210 yX11_item mX11_item (some FieldType.int) 3 := ⟨⟨lwg_at 1426 (by decide +kernel) rfl, lwg_at 1427 (by decide +kernel) rfl, lwg_at 1428 (by decide +kernel) rfl, lwg_at 61 (by decide +kernel) rfl⟩, lwg_at 1429 (by decide +kernel) rfl, ⟨by decide +kernel, by decide +kernel, by decide +kernel⟩⟩
theorem cl_L_211 : CLV RL 211 yX10_peek mX10_peek (some FieldType.long) 2 := ⟨⟨lwg_at 915 (by decide +kernel) rfl, lwg_at 916 (by decide +kernel) rfl, lwg_at 917 (by decide +kernel) rfl, lwg_at 50 (by decide +kernel) rfl⟩, lwg_at 918 (by decide +kernel) rfl, ⟨by decide +kernel, by decide +kernel, by decide +kernel⟩⟩
theorem cl_L_214 : CLV RL 214 yX11_peek mX11_peek (some FieldType.long) 2 := ⟨⟨lwg_at 1430 (by decide +kernel) rfl, lwg_at 1431 (by decide +kernel) rfl, lwg_at 1432 (by decide +kernel) rfl, lwg_at 61 (by decide +kernel) rfl⟩, lwg_at 1433 (by decide +kernel) rfl, ⟨by decide +kernel, by decide +kernel, by decide +kernel⟩⟩
theorem cl_L_215 : CLV RL 215 yX10_shift mX10_shift (some FieldType.int) 5 := ⟨⟨lwg_at 919 (by decide +kernel) rfl, lwg_at 920 (by decide +kernel) rfl, lwg_at 921 (by decide +kernel) rfl, lwg_at 50 (by decide +kernel) rfl⟩, lwg_at 922 (by decide +kernel) rfl, ⟨by decide +kernel, by decide +kernel, by decide +kernel⟩⟩
theorem cl_L_219 : CLV RL 219 yX11_shift mX11_shift (some FieldType.int) 5 := ⟨⟨lwg_at 1434 (by decide +kernel) rfl, lwg_at 1435 (by decide +kernel) rfl, lwg_at 1436 (by decide +kernel) rfl, lwg_at 61 (by decide +kernel) rfl⟩, lwg_at 1437 (by decide +kernel) rfl, ⟨by decide +kernel, by decide +kernel, by decide +kernel⟩⟩
theorem ic_6 : Int32.ofInt 6 = 6 := by decide
/-! ===== the law's loop ===== -/
def rmL : RM := ((7, 264, 600000, 7302250), false, some .boolean)
def ScrOk (G : GX) (b Ln : Nat) (xs : Nat → Int32) : Prop := match G with
  | ((_, _, _, _, s), _, (_, _, B, _)) => va_X b Ln xs s s.heap ∧ b < s.heap.size ∧ ¬ B ≤ b
section LW
variable {G : GX} {mt : MT} {rm : RM} {Q : State → Prop} {kn : Nat × Nat} {X : MX} {I : MI} {L : ML} {pc pc' : Nat} {lv lv' : List (Nat × Value)} {st : List Value} {b Ln : Nat} {xs : Nat → Int32}
theorem ex_sald {i : Int32} (hs : ScrOk G b Ln xs) (hd : decode mt.2.1 pc = .ok (.iaload, 1)) (hin : vp_in i Ln) (hp : pc + 1 = pc') (kk : Ex G mt rm Q kn X I L pc' lv (.int (xs (Int32.toNatClampNeg i)) :: st)) : Ex G mt rm Q kn X I L pc lv (.int i :: .ref b :: st) := by
  obtain ⟨⟨p, l, e, R, s⟩, ⟨m, ar, below, meth, c⟩, ⟨D, dA, B, tS⟩⟩ := G
  intro hc H locs ls hH hS hl
  subst hp
  exact va_sld hc.1 hc.2.1 hs.1 hs.2.1 hs.2.2 hS hin hd (kk hc H locs ls hH hS hl)
theorem ex_slen (hs : ScrOk G b Ln xs) (hd : decode mt.2.1 pc = .ok (.arraylength, 1)) (hp : pc + 1 = pc') (kk : Ex G mt rm Q kn X I L pc' lv (.int (nI Ln) :: st)) : Ex G mt rm Q kn X I L pc lv (.ref b :: st) := by
  obtain ⟨⟨p, l, e, R, s⟩, ⟨m, ar, below, meth, c⟩, ⟨D, dA, B, tS⟩⟩ := G
  intro hc H locs ls hH hS hl
  subst hp
  exact va_slen hc.1 hc.2.1 hs.1 hs.2.1 hs.2.2 hS hd (kk hc H locs ls hH hS hl)
end LW
theorem law_gt {a i : Nat} (ha : a < 2 ^ 30) (hi : i < 2 ^ 30) : nI a - 6 < nI i ↔ a < i + 6 := by
  have h6 : (6 : Int32).toInt = 6 := by decide
  rw [Int32.lt_iff_toInt_lt, Int32.toInt_sub, nI_toInt (by omega), nI_toInt (by omega), h6, Int.bmod_eq_of_le (by omega) (by omega)]
  omega
theorem law_in {i Ln k : Nat} (h : i + k < Ln) (hL : Ln < 2 ^ 30) : vp_in (nI i + nI k) Ln := by
  rw [nI_add]; exact vp_in_nI h (by omega)
theorem nI_c1 : nI 1 = 1 := by decide +kernel
theorem nI_c2 : nI 2 = 2 := by decide +kernel
theorem nI_c3 : nI 3 = 3 := by decide +kernel
theorem nI_c4 : nI 4 = 4 := by decide +kernel
theorem nI_c5 : nI 5 = 5 := by decide +kernel
theorem nI_c6 : nI 6 = 6 := by decide +kernel
theorem law_tail {G : GX} {Q : State → Prop} {b j c t : Nat} {X : MX} {I : MI} {L : ML} (hc : c ≤ 138 + 8 * (j + 1)) (ht : t ≤ 17299 + 4700 * (j + 1)) (hN : Ex G mL_law rmL Q (138 + 8 * (j + 1), 17299 + 4700 * (j + 1)) X I L 18 [(0, .ref b), (1, .ref (gB G + 0)), (2, .ref (gB G + 99)), (3, .int (nI (6 * (j + 1))))] []) : Ex G mL_law rmL Q (c, t) X I L 1889 [(0, .ref b), (1, .ref (gB G + 0)), (2, .ref (gB G + 99)), (3, .int (nI (6 * j)))] [] := by
  refine ex_widen (kn' := (138 + 8 * (j + 1), 17299 + 4700 * (j + 1))) hc ht ?_
  have e6 : nI (6 * j) + 6 = nI (6 * (j + 1)) := by rw [← nI_c6, nI_add]; rfl
  refine ex_iinc (v := nI (6 * (j + 1))) (lv' := [(3, .int (nI (6 * (j + 1)))), (0, .ref b), (1, .ref (gB G + 0)), (2, .ref (gB G + 99))]) 3 (pc' := 1892) dL_law_1889 rfl (by rw [ic_6]; exact e6) (Nat.le_of_ble_eq_true rfl) rfl rfl ?_
  refine ex_goto (tgt := 18) dL_law_1892 (by decide) ?_
  exact ex_sub [1, 2, 3, 0] rfl hN
set_option maxRecDepth 100000 in
set_option maxHeartbeats 4000000 in
theorem law_c0 {G : GX} {Q : State → Prop} {b Ln j N : Nat} {xs : Nat → Int32} {Inv : MX → MI → ML → Prop} (hs : ScrOk G b Ln xs) (hj : j ≤ 512) (hSh : ∀ X I L, Inv X I L → shX10 X ∧ shX11 X) (hT : S_letter N Inv) (hi1 : vp_in (nI (6 * j) + 1) Ln) (hi2 : vp_in (nI (6 * j) + 2) Ln) {X : MX} {I : MI} {L : ML} (hI : Inv X I L) (hN : ∀ X I L, Inv X I L → Ex G mL_law rmL Q (138 + 8 * (j + 1), 17299 + 4700 * (j + 1)) X I L 18 [(0, .ref b), (1, .ref (gB G + 0)), (2, .ref (gB G + 99)), (3, .int (nI (6 * (j + 1))))] []) : Ex G mL_law rmL Q (138 + 8 * j, 17299 + 4700 * j) X I L 244 [(0, .ref b), (1, .ref (gB G + 0)), (2, .ref (gB G + 99)), (3, .int (nI (6 * j)))] [] := by
  obtain ⟨hM, hO⟩ := hSh _ _ _ hI
  obtain ⟨r, I1, I2, h1, h2, hI2⟩ := hT _ _ _ ((xs (Int32.toNatClampNeg (nI (6 * j) + 1)))) ((xs (Int32.toNatClampNeg (nI (6 * j) + 2)))) hI
  refine ex_aload_n 1 (pc' := 245) dL_law_244 rfl rfl rfl ?_
  refine ex_aload_n 0 (pc' := 246) dL_law_245 rfl rfl rfl ?_
  refine ex_iload_n 3 (pc' := 247) dL_law_246 rfl rfl rfl ?_
  refine ex_iconst (v := 1) (pc' := 248) dL_law_247 ic_1 rfl ?_
  refine ex_iadd (pc' := 249) dL_law_248 rfl ?_
  refine ex_sald hs (pc' := 250) dL_law_249 hi1 rfl ?_
  refine ex_aload_n 0 (pc' := 251) dL_law_250 rfl rfl rfl ?_
  refine ex_iload_n 3 (pc' := 252) dL_law_251 rfl rfl rfl ?_
  refine ex_iconst (v := 2) (pc' := 253) dL_law_252 ic_2 rfl ?_
  refine ex_iadd (pc' := 254) dL_law_253 rfl ?_
  refine ex_sald hs (pc' := 255) dL_law_254 hi2 rfl ?_
  refine ex_callV_i (rm' := rmX10_letter) (st := []) (pc' := 258) [.int (xs (Int32.toNatClampNeg (nI (6 * j) + 1))), .int (xs (Int32.toNatClampNeg (nI (6 * j) + 2)))] dL_law_255 cl_L_13 (k_X10_letter G hM h1) rfl (sh10_k hM) ⟨_, _, rfl⟩ rfl rfl ⟨⟨Nat.le_of_ble_eq_true rfl, Nat.le_of_ble_eq_true rfl⟩, by show 138 + 8 * j + 0 ≤ 600000; omega, by show 17299 + 4700 * j + 0 ≤ 7302250; omega⟩ (Nat.le_of_ble_eq_true rfl) rfl rfl ?_
  refine ex_aload_n 2 (pc' := 259) dL_law_258 rfl rfl rfl ?_
  refine ex_aload_n 0 (pc' := 260) dL_law_259 rfl rfl rfl ?_
  refine ex_iload_n 3 (pc' := 261) dL_law_260 rfl rfl rfl ?_
  refine ex_iconst (v := 1) (pc' := 262) dL_law_261 ic_1 rfl ?_
  refine ex_iadd (pc' := 263) dL_law_262 rfl ?_
  refine ex_sald hs (pc' := 264) dL_law_263 hi1 rfl ?_
  refine ex_aload_n 0 (pc' := 265) dL_law_264 rfl rfl rfl ?_
  refine ex_iload_n 3 (pc' := 266) dL_law_265 rfl rfl rfl ?_
  refine ex_iconst (v := 2) (pc' := 267) dL_law_266 ic_2 rfl ?_
  refine ex_iadd (pc' := 268) dL_law_267 rfl ?_
  refine ex_sald hs (pc' := 269) dL_law_268 hi2 rfl ?_
  refine ex_callV_i (rm' := rmX11_letter) (st := [.int r]) (pc' := 272) [.int (xs (Int32.toNatClampNeg (nI (6 * j) + 1))), .int (xs (Int32.toNatClampNeg (nI (6 * j) + 2)))] dL_law_269 cl_L_17 (k_X11_letter G hO h2) rfl (sh11_k hO) ⟨_, _, rfl⟩ rfl rfl ⟨⟨Nat.le_of_ble_eq_true rfl, Nat.le_of_ble_eq_true rfl⟩, by show 138 + 8 * j + 0 ≤ 600000; omega, by show 17299 + 4700 * j + 0 ≤ 7302250; omega⟩ (Nat.le_of_ble_eq_true rfl) rfl rfl ?_
  refine ex_icmpeq (tgt := 1889) (pc' := 275) dL_law_272 (by decide) rfl (fun _ => ?_) (fun h => absurd rfl h)
  exact law_tail (c := 138 + 8 * j) (t := 17299 + 4700 * j) (by omega) (by omega) (hN _ _ _ hI2)
set_option maxRecDepth 100000 in
set_option maxHeartbeats 4000000 in
theorem law_c1 {G : GX} {Q : State → Prop} {b Ln j N : Nat} {xs : Nat → Int32} {Inv : MX → MI → ML → Prop} (hs : ScrOk G b Ln xs) (hj : j ≤ 512) (hSh : ∀ X I L, Inv X I L → shX10 X ∧ shX11 X) (hT : S_empty N Inv) (hi1 : vp_in (nI (6 * j) + 1) Ln) {X : MX} {I : MI} {L : ML} (hI : Inv X I L) (hN : ∀ X I L, Inv X I L → Ex G mL_law rmL Q (138 + 8 * (j + 1), 17299 + 4700 * (j + 1)) X I L 18 [(0, .ref b), (1, .ref (gB G + 0)), (2, .ref (gB G + 99)), (3, .int (nI (6 * (j + 1))))] []) : Ex G mL_law rmL Q (138 + 8 * j, 17299 + 4700 * j) X I L 277 [(0, .ref b), (1, .ref (gB G + 0)), (2, .ref (gB G + 99)), (3, .int (nI (6 * j)))] [] := by
  obtain ⟨hM, hO⟩ := hSh _ _ _ hI
  obtain ⟨r, I1, I2, h1, h2, hI2⟩ := hT _ _ _ ((xs (Int32.toNatClampNeg (nI (6 * j) + 1)))) hI
  refine ex_aload_n 1 (pc' := 278) dL_law_277 rfl rfl rfl ?_
  refine ex_aload_n 0 (pc' := 279) dL_law_278 rfl rfl rfl ?_
  refine ex_iload_n 3 (pc' := 280) dL_law_279 rfl rfl rfl ?_
  refine ex_iconst (v := 1) (pc' := 281) dL_law_280 ic_1 rfl ?_
  refine ex_iadd (pc' := 282) dL_law_281 rfl ?_
  refine ex_sald hs (pc' := 283) dL_law_282 hi1 rfl ?_
  refine ex_callV_i (rm' := rmX10_empty) (st := []) (pc' := 286) [.int (xs (Int32.toNatClampNeg (nI (6 * j) + 1)))] dL_law_283 cl_L_18 (k_X10_empty G hM h1) rfl (sh10_k hM) ⟨_, _, rfl⟩ rfl rfl ⟨⟨Nat.le_of_ble_eq_true rfl, Nat.le_of_ble_eq_true rfl⟩, by show 138 + 8 * j + 0 ≤ 600000; omega, by show 17299 + 4700 * j + 0 ≤ 7302250; omega⟩ (Nat.le_of_ble_eq_true rfl) rfl rfl ?_
  refine ex_aload_n 2 (pc' := 287) dL_law_286 rfl rfl rfl ?_
  refine ex_aload_n 0 (pc' := 288) dL_law_287 rfl rfl rfl ?_
  refine ex_iload_n 3 (pc' := 289) dL_law_288 rfl rfl rfl ?_
  refine ex_iconst (v := 1) (pc' := 290) dL_law_289 ic_1 rfl ?_
  refine ex_iadd (pc' := 291) dL_law_290 rfl ?_
  refine ex_sald hs (pc' := 292) dL_law_291 hi1 rfl ?_
  refine ex_callV_i (rm' := rmX11_empty) (st := [.int r]) (pc' := 295) [.int (xs (Int32.toNatClampNeg (nI (6 * j) + 1)))] dL_law_292 cl_L_22 (k_X11_empty G hO h2) rfl (sh11_k hO) ⟨_, _, rfl⟩ rfl rfl ⟨⟨Nat.le_of_ble_eq_true rfl, Nat.le_of_ble_eq_true rfl⟩, by show 138 + 8 * j + 0 ≤ 600000; omega, by show 17299 + 4700 * j + 0 ≤ 7302250; omega⟩ (Nat.le_of_ble_eq_true rfl) rfl rfl ?_
  refine ex_icmpeq (tgt := 1889) (pc' := 298) dL_law_295 (by decide) rfl (fun _ => ?_) (fun h => absurd rfl h)
  exact law_tail (c := 138 + 8 * j) (t := 17299 + 4700 * j) (by omega) (by omega) (hN _ _ _ hI2)
set_option maxRecDepth 100000 in
set_option maxHeartbeats 4000000 in
theorem law_c2 {G : GX} {Q : State → Prop} {b Ln j N : Nat} {xs : Nat → Int32} {Inv : MX → MI → ML → Prop} (hs : ScrOk G b Ln xs) (hj : j ≤ 512) (hSh : ∀ X I L, Inv X I L → shX10 X ∧ shX11 X) (hT : S_make N Inv) (hi1 : vp_in (nI (6 * j) + 1) Ln) (hi2 : vp_in (nI (6 * j) + 2) Ln) (hi3 : vp_in (nI (6 * j) + 3) Ln) {X : MX} {I : MI} {L : ML} (hI : Inv X I L) (hN : ∀ X I L, Inv X I L → Ex G mL_law rmL Q (138 + 8 * (j + 1), 17299 + 4700 * (j + 1)) X I L 18 [(0, .ref b), (1, .ref (gB G + 0)), (2, .ref (gB G + 99)), (3, .int (nI (6 * (j + 1))))] []) : Ex G mL_law rmL Q (138 + 8 * j, 17299 + 4700 * j) X I L 300 [(0, .ref b), (1, .ref (gB G + 0)), (2, .ref (gB G + 99)), (3, .int (nI (6 * j)))] [] := by
  obtain ⟨hM, hO⟩ := hSh _ _ _ hI
  obtain ⟨r, I1, I2, h1, h2, hI2⟩ := hT _ _ _ ((xs (Int32.toNatClampNeg (nI (6 * j) + 1)))) ((xs (Int32.toNatClampNeg (nI (6 * j) + 2)))) ((xs (Int32.toNatClampNeg (nI (6 * j) + 3)))) hI
  refine ex_aload_n 1 (pc' := 301) dL_law_300 rfl rfl rfl ?_
  refine ex_aload_n 0 (pc' := 302) dL_law_301 rfl rfl rfl ?_
  refine ex_iload_n 3 (pc' := 303) dL_law_302 rfl rfl rfl ?_
  refine ex_iconst (v := 1) (pc' := 304) dL_law_303 ic_1 rfl ?_
  refine ex_iadd (pc' := 305) dL_law_304 rfl ?_
  refine ex_sald hs (pc' := 306) dL_law_305 hi1 rfl ?_
  refine ex_aload_n 0 (pc' := 307) dL_law_306 rfl rfl rfl ?_
  refine ex_iload_n 3 (pc' := 308) dL_law_307 rfl rfl rfl ?_
  refine ex_iconst (v := 2) (pc' := 309) dL_law_308 ic_2 rfl ?_
  refine ex_iadd (pc' := 310) dL_law_309 rfl ?_
  refine ex_sald hs (pc' := 311) dL_law_310 hi2 rfl ?_
  refine ex_aload_n 0 (pc' := 312) dL_law_311 rfl rfl rfl ?_
  refine ex_iload_n 3 (pc' := 313) dL_law_312 rfl rfl rfl ?_
  refine ex_iconst (v := 3) (pc' := 314) dL_law_313 ic_3 rfl ?_
  refine ex_iadd (pc' := 315) dL_law_314 rfl ?_
  refine ex_sald hs (pc' := 316) dL_law_315 hi3 rfl ?_
  refine ex_callV_i (rm' := rmX10_make) (st := []) (pc' := 319) [.int (xs (Int32.toNatClampNeg (nI (6 * j) + 1))), .int (xs (Int32.toNatClampNeg (nI (6 * j) + 2))), .int (xs (Int32.toNatClampNeg (nI (6 * j) + 3)))] dL_law_316 cl_L_23 (k_X10_make G hM h1) rfl (sh10_k hM) ⟨_, _, rfl⟩ rfl rfl ⟨⟨Nat.le_of_ble_eq_true rfl, Nat.le_of_ble_eq_true rfl⟩, by show 138 + 8 * j + 0 ≤ 600000; omega, by show 17299 + 4700 * j + 0 ≤ 7302250; omega⟩ (Nat.le_of_ble_eq_true rfl) rfl rfl ?_
  refine ex_aload_n 2 (pc' := 320) dL_law_319 rfl rfl rfl ?_
  refine ex_aload_n 0 (pc' := 321) dL_law_320 rfl rfl rfl ?_
  refine ex_iload_n 3 (pc' := 322) dL_law_321 rfl rfl rfl ?_
  refine ex_iconst (v := 1) (pc' := 323) dL_law_322 ic_1 rfl ?_
  refine ex_iadd (pc' := 324) dL_law_323 rfl ?_
  refine ex_sald hs (pc' := 325) dL_law_324 hi1 rfl ?_
  refine ex_aload_n 0 (pc' := 326) dL_law_325 rfl rfl rfl ?_
  refine ex_iload_n 3 (pc' := 327) dL_law_326 rfl rfl rfl ?_
  refine ex_iconst (v := 2) (pc' := 328) dL_law_327 ic_2 rfl ?_
  refine ex_iadd (pc' := 329) dL_law_328 rfl ?_
  refine ex_sald hs (pc' := 330) dL_law_329 hi2 rfl ?_
  refine ex_aload_n 0 (pc' := 331) dL_law_330 rfl rfl rfl ?_
  refine ex_iload_n 3 (pc' := 332) dL_law_331 rfl rfl rfl ?_
  refine ex_iconst (v := 3) (pc' := 333) dL_law_332 ic_3 rfl ?_
  refine ex_iadd (pc' := 334) dL_law_333 rfl ?_
  refine ex_sald hs (pc' := 335) dL_law_334 hi3 rfl ?_
  refine ex_callV_i (rm' := rmX11_make) (st := [.int r]) (pc' := 338) [.int (xs (Int32.toNatClampNeg (nI (6 * j) + 1))), .int (xs (Int32.toNatClampNeg (nI (6 * j) + 2))), .int (xs (Int32.toNatClampNeg (nI (6 * j) + 3)))] dL_law_335 cl_L_27 (k_X11_make G hO h2) rfl (sh11_k hO) ⟨_, _, rfl⟩ rfl rfl ⟨⟨Nat.le_of_ble_eq_true rfl, Nat.le_of_ble_eq_true rfl⟩, by show 138 + 8 * j + 0 ≤ 600000; omega, by show 17299 + 4700 * j + 0 ≤ 7302250; omega⟩ (Nat.le_of_ble_eq_true rfl) rfl rfl ?_
  refine ex_icmpeq (tgt := 1889) (pc' := 341) dL_law_338 (by decide) rfl (fun _ => ?_) (fun h => absurd rfl h)
  exact law_tail (c := 138 + 8 * j) (t := 17299 + 4700 * j) (by omega) (by omega) (hN _ _ _ hI2)
set_option maxRecDepth 100000 in
set_option maxHeartbeats 4000000 in
theorem law_c3 {G : GX} {Q : State → Prop} {b Ln j N : Nat} {xs : Nat → Int32} {Inv : MX → MI → ML → Prop} (hs : ScrOk G b Ln xs) (hj : j ≤ 512) (hSh : ∀ X I L, Inv X I L → shX10 X ∧ shX11 X) (hT : S_join N Inv) (hi1 : vp_in (nI (6 * j) + 1) Ln) (hi2 : vp_in (nI (6 * j) + 2) Ln) {X : MX} {I : MI} {L : ML} (hI : Inv X I L) (hN : ∀ X I L, Inv X I L → Ex G mL_law rmL Q (138 + 8 * (j + 1), 17299 + 4700 * (j + 1)) X I L 18 [(0, .ref b), (1, .ref (gB G + 0)), (2, .ref (gB G + 99)), (3, .int (nI (6 * (j + 1))))] []) : Ex G mL_law rmL Q (138 + 8 * j, 17299 + 4700 * j) X I L 343 [(0, .ref b), (1, .ref (gB G + 0)), (2, .ref (gB G + 99)), (3, .int (nI (6 * j)))] [] := by
  obtain ⟨hM, hO⟩ := hSh _ _ _ hI
  obtain ⟨r, I1, I2, h1, h2, hI2⟩ := hT _ _ _ ((xs (Int32.toNatClampNeg (nI (6 * j) + 1)))) ((xs (Int32.toNatClampNeg (nI (6 * j) + 2)))) hI
  refine ex_aload_n 1 (pc' := 344) dL_law_343 rfl rfl rfl ?_
  refine ex_aload_n 0 (pc' := 345) dL_law_344 rfl rfl rfl ?_
  refine ex_iload_n 3 (pc' := 346) dL_law_345 rfl rfl rfl ?_
  refine ex_iconst (v := 1) (pc' := 347) dL_law_346 ic_1 rfl ?_
  refine ex_iadd (pc' := 348) dL_law_347 rfl ?_
  refine ex_sald hs (pc' := 349) dL_law_348 hi1 rfl ?_
  refine ex_aload_n 0 (pc' := 350) dL_law_349 rfl rfl rfl ?_
  refine ex_iload_n 3 (pc' := 351) dL_law_350 rfl rfl rfl ?_
  refine ex_iconst (v := 2) (pc' := 352) dL_law_351 ic_2 rfl ?_
  refine ex_iadd (pc' := 353) dL_law_352 rfl ?_
  refine ex_sald hs (pc' := 354) dL_law_353 hi2 rfl ?_
  refine ex_callV_i (rm' := rmX10_join) (st := []) (pc' := 357) [.int (xs (Int32.toNatClampNeg (nI (6 * j) + 1))), .int (xs (Int32.toNatClampNeg (nI (6 * j) + 2)))] dL_law_354 cl_L_28 (k_X10_join G hM h1) rfl (sh10_k hM) ⟨_, _, rfl⟩ rfl rfl ⟨⟨Nat.le_of_ble_eq_true rfl, Nat.le_of_ble_eq_true rfl⟩, by show 138 + 8 * j + 0 ≤ 600000; omega, by show 17299 + 4700 * j + 0 ≤ 7302250; omega⟩ (Nat.le_of_ble_eq_true rfl) rfl rfl ?_
  refine ex_aload_n 2 (pc' := 358) dL_law_357 rfl rfl rfl ?_
  refine ex_aload_n 0 (pc' := 359) dL_law_358 rfl rfl rfl ?_
  refine ex_iload_n 3 (pc' := 360) dL_law_359 rfl rfl rfl ?_
  refine ex_iconst (v := 1) (pc' := 361) dL_law_360 ic_1 rfl ?_
  refine ex_iadd (pc' := 362) dL_law_361 rfl ?_
  refine ex_sald hs (pc' := 363) dL_law_362 hi1 rfl ?_
  refine ex_aload_n 0 (pc' := 364) dL_law_363 rfl rfl rfl ?_
  refine ex_iload_n 3 (pc' := 365) dL_law_364 rfl rfl rfl ?_
  refine ex_iconst (v := 2) (pc' := 366) dL_law_365 ic_2 rfl ?_
  refine ex_iadd (pc' := 367) dL_law_366 rfl ?_
  refine ex_sald hs (pc' := 368) dL_law_367 hi2 rfl ?_
  refine ex_callV_i (rm' := rmX11_join) (st := [.int r]) (pc' := 371) [.int (xs (Int32.toNatClampNeg (nI (6 * j) + 1))), .int (xs (Int32.toNatClampNeg (nI (6 * j) + 2)))] dL_law_368 cl_L_31 (k_X11_join G hO h2) rfl (sh11_k hO) ⟨_, _, rfl⟩ rfl rfl ⟨⟨Nat.le_of_ble_eq_true rfl, Nat.le_of_ble_eq_true rfl⟩, by show 138 + 8 * j + 0 ≤ 600000; omega, by show 17299 + 4700 * j + 0 ≤ 7302250; omega⟩ (Nat.le_of_ble_eq_true rfl) rfl rfl ?_
  refine ex_icmpeq (tgt := 1889) (pc' := 374) dL_law_371 (by decide) rfl (fun _ => ?_) (fun h => absurd rfl h)
  exact law_tail (c := 138 + 8 * j) (t := 17299 + 4700 * j) (by omega) (by omega) (hN _ _ _ hI2)
set_option maxRecDepth 100000 in
set_option maxHeartbeats 4000000 in
theorem law_c4 {G : GX} {Q : State → Prop} {b Ln j N : Nat} {xs : Nat → Int32} {Inv : MX → MI → ML → Prop} (hs : ScrOk G b Ln xs) (hj : j ≤ 512) (hSh : ∀ X I L, Inv X I L → shX10 X ∧ shX11 X) (hT : S_turn N Inv) (hi1 : vp_in (nI (6 * j) + 1) Ln) {X : MX} {I : MI} {L : ML} (hI : Inv X I L) (hN : ∀ X I L, Inv X I L → Ex G mL_law rmL Q (138 + 8 * (j + 1), 17299 + 4700 * (j + 1)) X I L 18 [(0, .ref b), (1, .ref (gB G + 0)), (2, .ref (gB G + 99)), (3, .int (nI (6 * (j + 1))))] []) : Ex G mL_law rmL Q (138 + 8 * j, 17299 + 4700 * j) X I L 376 [(0, .ref b), (1, .ref (gB G + 0)), (2, .ref (gB G + 99)), (3, .int (nI (6 * j)))] [] := by
  obtain ⟨hM, hO⟩ := hSh _ _ _ hI
  obtain ⟨r, I1, I2, h1, h2, hI2⟩ := hT _ _ _ ((xs (Int32.toNatClampNeg (nI (6 * j) + 1)))) hI
  refine ex_aload_n 1 (pc' := 377) dL_law_376 rfl rfl rfl ?_
  refine ex_aload_n 0 (pc' := 378) dL_law_377 rfl rfl rfl ?_
  refine ex_iload_n 3 (pc' := 379) dL_law_378 rfl rfl rfl ?_
  refine ex_iconst (v := 1) (pc' := 380) dL_law_379 ic_1 rfl ?_
  refine ex_iadd (pc' := 381) dL_law_380 rfl ?_
  refine ex_sald hs (pc' := 382) dL_law_381 hi1 rfl ?_
  refine ex_callV_i (rm' := rmX10_turn) (st := []) (pc' := 385) [.int (xs (Int32.toNatClampNeg (nI (6 * j) + 1)))] dL_law_382 cl_L_32 (k_X10_turn G hM h1) rfl (sh10_k hM) ⟨_, _, rfl⟩ rfl rfl ⟨⟨Nat.le_of_ble_eq_true rfl, Nat.le_of_ble_eq_true rfl⟩, by show 138 + 8 * j + 0 ≤ 600000; omega, by show 17299 + 4700 * j + 0 ≤ 7302250; omega⟩ (Nat.le_of_ble_eq_true rfl) rfl rfl ?_
  refine ex_aload_n 2 (pc' := 386) dL_law_385 rfl rfl rfl ?_
  refine ex_aload_n 0 (pc' := 387) dL_law_386 rfl rfl rfl ?_
  refine ex_iload_n 3 (pc' := 388) dL_law_387 rfl rfl rfl ?_
  refine ex_iconst (v := 1) (pc' := 389) dL_law_388 ic_1 rfl ?_
  refine ex_iadd (pc' := 390) dL_law_389 rfl ?_
  refine ex_sald hs (pc' := 391) dL_law_390 hi1 rfl ?_
  refine ex_callV_i (rm' := rmX11_turn) (st := [.int r]) (pc' := 394) [.int (xs (Int32.toNatClampNeg (nI (6 * j) + 1)))] dL_law_391 cl_L_35 (k_X11_turn G hO h2) rfl (sh11_k hO) ⟨_, _, rfl⟩ rfl rfl ⟨⟨Nat.le_of_ble_eq_true rfl, Nat.le_of_ble_eq_true rfl⟩, by show 138 + 8 * j + 0 ≤ 600000; omega, by show 17299 + 4700 * j + 0 ≤ 7302250; omega⟩ (Nat.le_of_ble_eq_true rfl) rfl rfl ?_
  refine ex_icmpeq (tgt := 1889) (pc' := 397) dL_law_394 (by decide) rfl (fun _ => ?_) (fun h => absurd rfl h)
  exact law_tail (c := 138 + 8 * j) (t := 17299 + 4700 * j) (by omega) (by omega) (hN _ _ _ hI2)
set_option maxRecDepth 100000 in
set_option maxHeartbeats 4000000 in
theorem law_c5 {G : GX} {Q : State → Prop} {b Ln j N : Nat} {xs : Nat → Int32} {Inv : MX → MI → ML → Prop} (hs : ScrOk G b Ln xs) (hj : j ≤ 512) (hSh : ∀ X I L, Inv X I L → shX10 X ∧ shX11 X) (hT : S_word N Inv) (hi1 : vp_in (nI (6 * j) + 1) Ln) (hi2 : vp_in (nI (6 * j) + 2) Ln) {X : MX} {I : MI} {L : ML} (hI : Inv X I L) (hN : ∀ X I L, Inv X I L → Ex G mL_law rmL Q (138 + 8 * (j + 1), 17299 + 4700 * (j + 1)) X I L 18 [(0, .ref b), (1, .ref (gB G + 0)), (2, .ref (gB G + 99)), (3, .int (nI (6 * (j + 1))))] []) : Ex G mL_law rmL Q (138 + 8 * j, 17299 + 4700 * j) X I L 399 [(0, .ref b), (1, .ref (gB G + 0)), (2, .ref (gB G + 99)), (3, .int (nI (6 * j)))] [] := by
  obtain ⟨hM, hO⟩ := hSh _ _ _ hI
  obtain ⟨r, h1, h2, hI2⟩ := hT _ _ _ ((xs (Int32.toNatClampNeg (nI (6 * j) + 1)))) ((xs (Int32.toNatClampNeg (nI (6 * j) + 2)))) hI
  refine ex_aload_n 1 (pc' := 400) dL_law_399 rfl rfl rfl ?_
  refine ex_aload_n 0 (pc' := 401) dL_law_400 rfl rfl rfl ?_
  refine ex_iload_n 3 (pc' := 402) dL_law_401 rfl rfl rfl ?_
  refine ex_iconst (v := 1) (pc' := 403) dL_law_402 ic_1 rfl ?_
  refine ex_iadd (pc' := 404) dL_law_403 rfl ?_
  refine ex_sald hs (pc' := 405) dL_law_404 hi1 rfl ?_
  refine ex_aload_n 0 (pc' := 406) dL_law_405 rfl rfl rfl ?_
  refine ex_iload_n 3 (pc' := 407) dL_law_406 rfl rfl rfl ?_
  refine ex_iconst (v := 2) (pc' := 408) dL_law_407 ic_2 rfl ?_
  refine ex_iadd (pc' := 409) dL_law_408 rfl ?_
  refine ex_sald hs (pc' := 410) dL_law_409 hi2 rfl ?_
  refine ex_callV_i (rm' := rmX10_word) (st := []) (pc' := 413) [.int (xs (Int32.toNatClampNeg (nI (6 * j) + 1))), .int (xs (Int32.toNatClampNeg (nI (6 * j) + 2)))] dL_law_410 cl_L_36 (k_X10_word G hM h1) rfl (sh10_k hM) ⟨_, _, rfl⟩ rfl rfl ⟨⟨Nat.le_of_ble_eq_true rfl, Nat.le_of_ble_eq_true rfl⟩, by show 138 + 8 * j + 0 ≤ 600000; omega, by show 17299 + 4700 * j + 0 ≤ 7302250; omega⟩ (Nat.le_of_ble_eq_true rfl) rfl rfl ?_
  refine ex_aload_n 2 (pc' := 414) dL_law_413 rfl rfl rfl ?_
  refine ex_aload_n 0 (pc' := 415) dL_law_414 rfl rfl rfl ?_
  refine ex_iload_n 3 (pc' := 416) dL_law_415 rfl rfl rfl ?_
  refine ex_iconst (v := 1) (pc' := 417) dL_law_416 ic_1 rfl ?_
  refine ex_iadd (pc' := 418) dL_law_417 rfl ?_
  refine ex_sald hs (pc' := 419) dL_law_418 hi1 rfl ?_
  refine ex_aload_n 0 (pc' := 420) dL_law_419 rfl rfl rfl ?_
  refine ex_iload_n 3 (pc' := 421) dL_law_420 rfl rfl rfl ?_
  refine ex_iconst (v := 2) (pc' := 422) dL_law_421 ic_2 rfl ?_
  refine ex_iadd (pc' := 423) dL_law_422 rfl ?_
  refine ex_sald hs (pc' := 424) dL_law_423 hi2 rfl ?_
  refine ex_callV_i (rm' := rmX11_word) (st := [.int r]) (pc' := 427) [.int (xs (Int32.toNatClampNeg (nI (6 * j) + 1))), .int (xs (Int32.toNatClampNeg (nI (6 * j) + 2)))] dL_law_424 cl_L_39 (k_X11_word G hO h2) rfl (sh11_k hO) ⟨_, _, rfl⟩ rfl rfl ⟨⟨Nat.le_of_ble_eq_true rfl, Nat.le_of_ble_eq_true rfl⟩, by show 138 + 8 * j + 0 ≤ 600000; omega, by show 17299 + 4700 * j + 0 ≤ 7302250; omega⟩ (Nat.le_of_ble_eq_true rfl) rfl rfl ?_
  refine ex_icmpeq (tgt := 1889) (pc' := 430) dL_law_427 (by decide) rfl (fun _ => ?_) (fun h => absurd rfl h)
  exact law_tail (c := 138 + 8 * j) (t := 17299 + 4700 * j) (by omega) (by omega) (hN _ _ _ hI2)
set_option maxRecDepth 100000 in
set_option maxHeartbeats 4000000 in
theorem law_c6 {G : GX} {Q : State → Prop} {b Ln j N : Nat} {xs : Nat → Int32} {Inv : MX → MI → ML → Prop} (hs : ScrOk G b Ln xs) (hj : j ≤ 512) (hSh : ∀ X I L, Inv X I L → shX10 X ∧ shX11 X) (hT : S_acted N Inv) (hi1 : vp_in (nI (6 * j) + 1) Ln) (hi2 : vp_in (nI (6 * j) + 2) Ln) (hi3 : vp_in (nI (6 * j) + 3) Ln) {X : MX} {I : MI} {L : ML} (hI : Inv X I L) (hN : ∀ X I L, Inv X I L → Ex G mL_law rmL Q (138 + 8 * (j + 1), 17299 + 4700 * (j + 1)) X I L 18 [(0, .ref b), (1, .ref (gB G + 0)), (2, .ref (gB G + 99)), (3, .int (nI (6 * (j + 1))))] []) : Ex G mL_law rmL Q (138 + 8 * j, 17299 + 4700 * j) X I L 432 [(0, .ref b), (1, .ref (gB G + 0)), (2, .ref (gB G + 99)), (3, .int (nI (6 * j)))] [] := by
  obtain ⟨hM, hO⟩ := hSh _ _ _ hI
  obtain ⟨r, h1, h2, hI2⟩ := hT _ _ _ ((xs (Int32.toNatClampNeg (nI (6 * j) + 1)))) ((xs (Int32.toNatClampNeg (nI (6 * j) + 2)))) ((xs (Int32.toNatClampNeg (nI (6 * j) + 3)))) hI
  refine ex_aload_n 1 (pc' := 433) dL_law_432 rfl rfl rfl ?_
  refine ex_aload_n 0 (pc' := 434) dL_law_433 rfl rfl rfl ?_
  refine ex_iload_n 3 (pc' := 435) dL_law_434 rfl rfl rfl ?_
  refine ex_iconst (v := 1) (pc' := 436) dL_law_435 ic_1 rfl ?_
  refine ex_iadd (pc' := 437) dL_law_436 rfl ?_
  refine ex_sald hs (pc' := 438) dL_law_437 hi1 rfl ?_
  refine ex_aload_n 0 (pc' := 439) dL_law_438 rfl rfl rfl ?_
  refine ex_iload_n 3 (pc' := 440) dL_law_439 rfl rfl rfl ?_
  refine ex_iconst (v := 2) (pc' := 441) dL_law_440 ic_2 rfl ?_
  refine ex_iadd (pc' := 442) dL_law_441 rfl ?_
  refine ex_sald hs (pc' := 443) dL_law_442 hi2 rfl ?_
  refine ex_aload_n 0 (pc' := 444) dL_law_443 rfl rfl rfl ?_
  refine ex_iload_n 3 (pc' := 445) dL_law_444 rfl rfl rfl ?_
  refine ex_iconst (v := 3) (pc' := 446) dL_law_445 ic_3 rfl ?_
  refine ex_iadd (pc' := 447) dL_law_446 rfl ?_
  refine ex_sald hs (pc' := 448) dL_law_447 hi3 rfl ?_
  refine ex_callV_l (rm' := rmX10_acted) (st := []) (pc' := 451) [.int (xs (Int32.toNatClampNeg (nI (6 * j) + 1))), .int (xs (Int32.toNatClampNeg (nI (6 * j) + 2))), .int (xs (Int32.toNatClampNeg (nI (6 * j) + 3)))] dL_law_448 cl_L_40 (k_X10_acted G hM h1) rfl (sh10_k hM) ⟨_, _, rfl⟩ rfl rfl ⟨⟨Nat.le_of_ble_eq_true rfl, Nat.le_of_ble_eq_true rfl⟩, by show 138 + 8 * j + 0 ≤ 600000; omega, by show 17299 + 4700 * j + 0 ≤ 7302250; omega⟩ (Nat.le_of_ble_eq_true rfl) rfl rfl ?_
  refine ex_aload_n 2 (pc' := 452) dL_law_451 rfl rfl rfl ?_
  refine ex_aload_n 0 (pc' := 453) dL_law_452 rfl rfl rfl ?_
  refine ex_iload_n 3 (pc' := 454) dL_law_453 rfl rfl rfl ?_
  refine ex_iconst (v := 1) (pc' := 455) dL_law_454 ic_1 rfl ?_
  refine ex_iadd (pc' := 456) dL_law_455 rfl ?_
  refine ex_sald hs (pc' := 457) dL_law_456 hi1 rfl ?_
  refine ex_aload_n 0 (pc' := 458) dL_law_457 rfl rfl rfl ?_
  refine ex_iload_n 3 (pc' := 459) dL_law_458 rfl rfl rfl ?_
  refine ex_iconst (v := 2) (pc' := 460) dL_law_459 ic_2 rfl ?_
  refine ex_iadd (pc' := 461) dL_law_460 rfl ?_
  refine ex_sald hs (pc' := 462) dL_law_461 hi2 rfl ?_
  refine ex_aload_n 0 (pc' := 463) dL_law_462 rfl rfl rfl ?_
  refine ex_iload_n 3 (pc' := 464) dL_law_463 rfl rfl rfl ?_
  refine ex_iconst (v := 3) (pc' := 465) dL_law_464 ic_3 rfl ?_
  refine ex_iadd (pc' := 466) dL_law_465 rfl ?_
  refine ex_sald hs (pc' := 467) dL_law_466 hi3 rfl ?_
  refine ex_callV_l (rm' := rmX11_acted) (st := [.long r]) (pc' := 470) [.int (xs (Int32.toNatClampNeg (nI (6 * j) + 1))), .int (xs (Int32.toNatClampNeg (nI (6 * j) + 2))), .int (xs (Int32.toNatClampNeg (nI (6 * j) + 3)))] dL_law_467 cl_L_44 (k_X11_acted G hO h2) rfl (sh11_k hO) ⟨_, _, rfl⟩ rfl rfl ⟨⟨Nat.le_of_ble_eq_true rfl, Nat.le_of_ble_eq_true rfl⟩, by show 138 + 8 * j + 0 ≤ 600000; omega, by show 17299 + 4700 * j + 0 ≤ 7302250; omega⟩ (Nat.le_of_ble_eq_true rfl) rfl rfl ?_
  refine ex_lcmp (pc' := 471) dL_law_470 rfl ?_
  refine ex_lifeq (tgt := 1889) (pc' := 474) dL_law_471 (by decide) rfl (fun _ => ?_) (fun h => absurd rfl h)
  exact law_tail (c := 138 + 8 * j) (t := 17299 + 4700 * j) (by omega) (by omega) (hN _ _ _ hI2)
set_option maxRecDepth 100000 in
set_option maxHeartbeats 4000000 in
theorem law_c7 {G : GX} {Q : State → Prop} {b Ln j N : Nat} {xs : Nat → Int32} {Inv : MX → MI → ML → Prop} (hs : ScrOk G b Ln xs) (hj : j ≤ 512) (hSh : ∀ X I L, Inv X I L → shX10 X ∧ shX11 X) (hT : S_order N Inv) (hi1 : vp_in (nI (6 * j) + 1) Ln) (hi2 : vp_in (nI (6 * j) + 2) Ln) {X : MX} {I : MI} {L : ML} (hI : Inv X I L) (hN : ∀ X I L, Inv X I L → Ex G mL_law rmL Q (138 + 8 * (j + 1), 17299 + 4700 * (j + 1)) X I L 18 [(0, .ref b), (1, .ref (gB G + 0)), (2, .ref (gB G + 99)), (3, .int (nI (6 * (j + 1))))] []) : Ex G mL_law rmL Q (138 + 8 * j, 17299 + 4700 * j) X I L 476 [(0, .ref b), (1, .ref (gB G + 0)), (2, .ref (gB G + 99)), (3, .int (nI (6 * j)))] [] := by
  obtain ⟨hM, hO⟩ := hSh _ _ _ hI
  obtain ⟨r, L1, L2, h1, h2, hI2⟩ := hT _ _ _ ((xs (Int32.toNatClampNeg (nI (6 * j) + 1)))) ((xs (Int32.toNatClampNeg (nI (6 * j) + 2)))) hI
  refine ex_aload_n 1 (pc' := 477) dL_law_476 rfl rfl rfl ?_
  refine ex_aload_n 0 (pc' := 478) dL_law_477 rfl rfl rfl ?_
  refine ex_iload_n 3 (pc' := 479) dL_law_478 rfl rfl rfl ?_
  refine ex_iconst (v := 1) (pc' := 480) dL_law_479 ic_1 rfl ?_
  refine ex_iadd (pc' := 481) dL_law_480 rfl ?_
  refine ex_sald hs (pc' := 482) dL_law_481 hi1 rfl ?_
  refine ex_aload_n 0 (pc' := 483) dL_law_482 rfl rfl rfl ?_
  refine ex_iload_n 3 (pc' := 484) dL_law_483 rfl rfl rfl ?_
  refine ex_iconst (v := 2) (pc' := 485) dL_law_484 ic_2 rfl ?_
  refine ex_iadd (pc' := 486) dL_law_485 rfl ?_
  refine ex_sald hs (pc' := 487) dL_law_486 hi2 rfl ?_
  refine ex_callV_l (rm' := rmX10_order) (st := []) (pc' := 490) [.int (xs (Int32.toNatClampNeg (nI (6 * j) + 1))), .int (xs (Int32.toNatClampNeg (nI (6 * j) + 2)))] dL_law_487 cl_L_45 (k_X10_order G hM h1) rfl (sh10_k hM) ⟨_, _, rfl⟩ rfl rfl ⟨⟨Nat.le_of_ble_eq_true rfl, Nat.le_of_ble_eq_true rfl⟩, by show 138 + 8 * j + 0 ≤ 600000; omega, by show 17299 + 4700 * j + 0 ≤ 7302250; omega⟩ (Nat.le_of_ble_eq_true rfl) rfl rfl ?_
  refine ex_aload_n 2 (pc' := 491) dL_law_490 rfl rfl rfl ?_
  refine ex_aload_n 0 (pc' := 492) dL_law_491 rfl rfl rfl ?_
  refine ex_iload_n 3 (pc' := 493) dL_law_492 rfl rfl rfl ?_
  refine ex_iconst (v := 1) (pc' := 494) dL_law_493 ic_1 rfl ?_
  refine ex_iadd (pc' := 495) dL_law_494 rfl ?_
  refine ex_sald hs (pc' := 496) dL_law_495 hi1 rfl ?_
  refine ex_aload_n 0 (pc' := 497) dL_law_496 rfl rfl rfl ?_
  refine ex_iload_n 3 (pc' := 498) dL_law_497 rfl rfl rfl ?_
  refine ex_iconst (v := 2) (pc' := 499) dL_law_498 ic_2 rfl ?_
  refine ex_iadd (pc' := 500) dL_law_499 rfl ?_
  refine ex_sald hs (pc' := 501) dL_law_500 hi2 rfl ?_
  refine ex_callV_l (rm' := rmX11_order) (st := [.long r]) (pc' := 504) [.int (xs (Int32.toNatClampNeg (nI (6 * j) + 1))), .int (xs (Int32.toNatClampNeg (nI (6 * j) + 2)))] dL_law_501 cl_L_49 (k_X11_order G hO h2) rfl (sh11_k hO) ⟨_, _, rfl⟩ rfl rfl ⟨⟨Nat.le_of_ble_eq_true rfl, Nat.le_of_ble_eq_true rfl⟩, by show 138 + 8 * j + 0 ≤ 600000; omega, by show 17299 + 4700 * j + 0 ≤ 7302250; omega⟩ (Nat.le_of_ble_eq_true rfl) rfl rfl ?_
  refine ex_lcmp (pc' := 505) dL_law_504 rfl ?_
  refine ex_lifeq (tgt := 1889) (pc' := 508) dL_law_505 (by decide) rfl (fun _ => ?_) (fun h => absurd rfl h)
  exact law_tail (c := 138 + 8 * j) (t := 17299 + 4700 * j) (by omega) (by omega) (hN _ _ _ hI2)
set_option maxRecDepth 100000 in
set_option maxHeartbeats 4000000 in
theorem law_c8 {G : GX} {Q : State → Prop} {b Ln j N : Nat} {xs : Nat → Int32} {Inv : MX → MI → ML → Prop} (hs : ScrOk G b Ln xs) (hj : j ≤ 512) (hSh : ∀ X I L, Inv X I L → shX10 X ∧ shX11 X) (hT : S_clear N Inv)  {X : MX} {I : MI} {L : ML} (hI : Inv X I L) (hN : ∀ X I L, Inv X I L → Ex G mL_law rmL Q (138 + 8 * (j + 1), 17299 + 4700 * (j + 1)) X I L 18 [(0, .ref b), (1, .ref (gB G + 0)), (2, .ref (gB G + 99)), (3, .int (nI (6 * (j + 1))))] []) : Ex G mL_law rmL Q (138 + 8 * j, 17299 + 4700 * j) X I L 510 [(0, .ref b), (1, .ref (gB G + 0)), (2, .ref (gB G + 99)), (3, .int (nI (6 * j)))] [] := by
  obtain ⟨hM, hO⟩ := hSh _ _ _ hI
  obtain ⟨r, L1, L2, h1, h2, hI2⟩ := hT _ _ _  hI
  refine ex_aload_n 1 (pc' := 511) dL_law_510 rfl rfl rfl ?_
  refine ex_callV_i (rm' := rmX10_clear) (st := []) (pc' := 514) [] dL_law_511 cl_L_50 (k_X10_clear G hM h1) rfl (sh10_k hM) ⟨_, _, rfl⟩ rfl rfl ⟨⟨Nat.le_of_ble_eq_true rfl, Nat.le_of_ble_eq_true rfl⟩, by show 138 + 8 * j + 0 ≤ 600000; omega, by show 17299 + 4700 * j + 0 ≤ 7302250; omega⟩ (Nat.le_of_ble_eq_true rfl) rfl rfl ?_
  refine ex_aload_n 2 (pc' := 515) dL_law_514 rfl rfl rfl ?_
  refine ex_callV_i (rm' := rmX11_clear) (st := [.int r]) (pc' := 518) [] dL_law_515 cl_L_54 (k_X11_clear G hO h2) rfl (sh11_k hO) ⟨_, _, rfl⟩ rfl rfl ⟨⟨Nat.le_of_ble_eq_true rfl, Nat.le_of_ble_eq_true rfl⟩, by show 138 + 8 * j + 0 ≤ 600000; omega, by show 17299 + 4700 * j + 0 ≤ 7302250; omega⟩ (Nat.le_of_ble_eq_true rfl) rfl rfl ?_
  refine ex_icmpeq (tgt := 1889) (pc' := 521) dL_law_518 (by decide) rfl (fun _ => ?_) (fun h => absurd rfl h)
  exact law_tail (c := 138 + 8 * j) (t := 17299 + 4700 * j) (by omega) (by omega) (hN _ _ _ hI2)
set_option maxRecDepth 100000 in
set_option maxHeartbeats 4000000 in
theorem law_c9 {G : GX} {Q : State → Prop} {b Ln j N : Nat} {xs : Nat → Int32} {Inv : MX → MI → ML → Prop} (hs : ScrOk G b Ln xs) (hj : j ≤ 512) (hSh : ∀ X I L, Inv X I L → shX10 X ∧ shX11 X) (hT : S_add N Inv) (hi1 : vp_in (nI (6 * j) + 1) Ln) (hi2 : vp_in (nI (6 * j) + 2) Ln) {X : MX} {I : MI} {L : ML} (hI : Inv X I L) (hN : ∀ X I L, Inv X I L → Ex G mL_law rmL Q (138 + 8 * (j + 1), 17299 + 4700 * (j + 1)) X I L 18 [(0, .ref b), (1, .ref (gB G + 0)), (2, .ref (gB G + 99)), (3, .int (nI (6 * (j + 1))))] []) : Ex G mL_law rmL Q (138 + 8 * j, 17299 + 4700 * j) X I L 523 [(0, .ref b), (1, .ref (gB G + 0)), (2, .ref (gB G + 99)), (3, .int (nI (6 * j)))] [] := by
  obtain ⟨hM, hO⟩ := hSh _ _ _ hI
  obtain ⟨r, L1, L2, h1, h2, hI2⟩ := hT _ _ _ ((xs (Int32.toNatClampNeg (nI (6 * j) + 1)))) ((xs (Int32.toNatClampNeg (nI (6 * j) + 2)))) hI
  refine ex_aload_n 1 (pc' := 524) dL_law_523 rfl rfl rfl ?_
  refine ex_aload_n 0 (pc' := 525) dL_law_524 rfl rfl rfl ?_
  refine ex_iload_n 3 (pc' := 526) dL_law_525 rfl rfl rfl ?_
  refine ex_iconst (v := 1) (pc' := 527) dL_law_526 ic_1 rfl ?_
  refine ex_iadd (pc' := 528) dL_law_527 rfl ?_
  refine ex_sald hs (pc' := 529) dL_law_528 hi1 rfl ?_
  refine ex_aload_n 0 (pc' := 530) dL_law_529 rfl rfl rfl ?_
  refine ex_iload_n 3 (pc' := 531) dL_law_530 rfl rfl rfl ?_
  refine ex_iconst (v := 2) (pc' := 532) dL_law_531 ic_2 rfl ?_
  refine ex_iadd (pc' := 533) dL_law_532 rfl ?_
  refine ex_sald hs (pc' := 534) dL_law_533 hi2 rfl ?_
  refine ex_callV_i (rm' := rmX10_add) (st := []) (pc' := 537) [.int (xs (Int32.toNatClampNeg (nI (6 * j) + 1))), .int (xs (Int32.toNatClampNeg (nI (6 * j) + 2)))] dL_law_534 cl_L_55 (k_X10_add G hM h1) rfl (sh10_k hM) ⟨_, _, rfl⟩ rfl rfl ⟨⟨Nat.le_of_ble_eq_true rfl, Nat.le_of_ble_eq_true rfl⟩, by show 138 + 8 * j + 0 ≤ 600000; omega, by show 17299 + 4700 * j + 0 ≤ 7302250; omega⟩ (Nat.le_of_ble_eq_true rfl) rfl rfl ?_
  refine ex_aload_n 2 (pc' := 538) dL_law_537 rfl rfl rfl ?_
  refine ex_aload_n 0 (pc' := 539) dL_law_538 rfl rfl rfl ?_
  refine ex_iload_n 3 (pc' := 540) dL_law_539 rfl rfl rfl ?_
  refine ex_iconst (v := 1) (pc' := 541) dL_law_540 ic_1 rfl ?_
  refine ex_iadd (pc' := 542) dL_law_541 rfl ?_
  refine ex_sald hs (pc' := 543) dL_law_542 hi1 rfl ?_
  refine ex_aload_n 0 (pc' := 544) dL_law_543 rfl rfl rfl ?_
  refine ex_iload_n 3 (pc' := 545) dL_law_544 rfl rfl rfl ?_
  refine ex_iconst (v := 2) (pc' := 546) dL_law_545 ic_2 rfl ?_
  refine ex_iadd (pc' := 547) dL_law_546 rfl ?_
  refine ex_sald hs (pc' := 548) dL_law_547 hi2 rfl ?_
  refine ex_callV_i (rm' := rmX11_add) (st := [.int r]) (pc' := 551) [.int (xs (Int32.toNatClampNeg (nI (6 * j) + 1))), .int (xs (Int32.toNatClampNeg (nI (6 * j) + 2)))] dL_law_548 cl_L_58 (k_X11_add G hO h2) rfl (sh11_k hO) ⟨_, _, rfl⟩ rfl rfl ⟨⟨Nat.le_of_ble_eq_true rfl, Nat.le_of_ble_eq_true rfl⟩, by show 138 + 8 * j + 0 ≤ 600000; omega, by show 17299 + 4700 * j + 0 ≤ 7302250; omega⟩ (Nat.le_of_ble_eq_true rfl) rfl rfl ?_
  refine ex_icmpeq (tgt := 1889) (pc' := 554) dL_law_551 (by decide) rfl (fun _ => ?_) (fun h => absurd rfl h)
  exact law_tail (c := 138 + 8 * j) (t := 17299 + 4700 * j) (by omega) (by omega) (hN _ _ _ hI2)
set_option maxRecDepth 100000 in
set_option maxHeartbeats 4000000 in
theorem law_c10 {G : GX} {Q : State → Prop} {b Ln j N : Nat} {xs : Nat → Int32} {Inv : MX → MI → ML → Prop} (hs : ScrOk G b Ln xs) (hj : j ≤ 512) (hSh : ∀ X I L, Inv X I L → shX10 X ∧ shX11 X) (hT : S_times N Inv) (hi1 : vp_in (nI (6 * j) + 1) Ln) {X : MX} {I : MI} {L : ML} (hI : Inv X I L) (hN : ∀ X I L, Inv X I L → Ex G mL_law rmL Q (138 + 8 * (j + 1), 17299 + 4700 * (j + 1)) X I L 18 [(0, .ref b), (1, .ref (gB G + 0)), (2, .ref (gB G + 99)), (3, .int (nI (6 * (j + 1))))] []) : Ex G mL_law rmL Q (138 + 8 * j, 17299 + 4700 * j) X I L 556 [(0, .ref b), (1, .ref (gB G + 0)), (2, .ref (gB G + 99)), (3, .int (nI (6 * j)))] [] := by
  obtain ⟨hM, hO⟩ := hSh _ _ _ hI
  obtain ⟨r, L1, L2, h1, h2, hI2⟩ := hT _ _ _ ((xs (Int32.toNatClampNeg (nI (6 * j) + 1)))) hI
  refine ex_aload_n 1 (pc' := 557) dL_law_556 rfl rfl rfl ?_
  refine ex_aload_n 0 (pc' := 558) dL_law_557 rfl rfl rfl ?_
  refine ex_iload_n 3 (pc' := 559) dL_law_558 rfl rfl rfl ?_
  refine ex_iconst (v := 1) (pc' := 560) dL_law_559 ic_1 rfl ?_
  refine ex_iadd (pc' := 561) dL_law_560 rfl ?_
  refine ex_sald hs (pc' := 562) dL_law_561 hi1 rfl ?_
  refine ex_callV_i (rm' := rmX10_times) (st := []) (pc' := 565) [.int (xs (Int32.toNatClampNeg (nI (6 * j) + 1)))] dL_law_562 cl_L_59 (k_X10_times G hM h1) rfl (sh10_k hM) ⟨_, _, rfl⟩ rfl rfl ⟨⟨Nat.le_of_ble_eq_true rfl, Nat.le_of_ble_eq_true rfl⟩, by show 138 + 8 * j + 0 ≤ 600000; omega, by show 17299 + 4700 * j + 0 ≤ 7302250; omega⟩ (Nat.le_of_ble_eq_true rfl) rfl rfl ?_
  refine ex_aload_n 2 (pc' := 566) dL_law_565 rfl rfl rfl ?_
  refine ex_aload_n 0 (pc' := 567) dL_law_566 rfl rfl rfl ?_
  refine ex_iload_n 3 (pc' := 568) dL_law_567 rfl rfl rfl ?_
  refine ex_iconst (v := 1) (pc' := 569) dL_law_568 ic_1 rfl ?_
  refine ex_iadd (pc' := 570) dL_law_569 rfl ?_
  refine ex_sald hs (pc' := 571) dL_law_570 hi1 rfl ?_
  refine ex_callV_i (rm' := rmX11_times) (st := [.int r]) (pc' := 574) [.int (xs (Int32.toNatClampNeg (nI (6 * j) + 1)))] dL_law_571 cl_L_62 (k_X11_times G hO h2) rfl (sh11_k hO) ⟨_, _, rfl⟩ rfl rfl ⟨⟨Nat.le_of_ble_eq_true rfl, Nat.le_of_ble_eq_true rfl⟩, by show 138 + 8 * j + 0 ≤ 600000; omega, by show 17299 + 4700 * j + 0 ≤ 7302250; omega⟩ (Nat.le_of_ble_eq_true rfl) rfl rfl ?_
  refine ex_icmpeq (tgt := 1889) (pc' := 577) dL_law_574 (by decide) rfl (fun _ => ?_) (fun h => absurd rfl h)
  exact law_tail (c := 138 + 8 * j) (t := 17299 + 4700 * j) (by omega) (by omega) (hN _ _ _ hI2)
set_option maxRecDepth 100000 in
set_option maxHeartbeats 4000000 in
theorem law_c11 {G : GX} {Q : State → Prop} {b Ln j N : Nat} {xs : Nat → Int32} {Inv : MX → MI → ML → Prop} (hs : ScrOk G b Ln xs) (hj : j ≤ 512) (hSh : ∀ X I L, Inv X I L → shX10 X ∧ shX11 X) (hT : S_number N Inv) (hi1 : vp_in (nI (6 * j) + 1) Ln) (hi2 : vp_in (nI (6 * j) + 2) Ln) {X : MX} {I : MI} {L : ML} (hI : Inv X I L) (hN : ∀ X I L, Inv X I L → Ex G mL_law rmL Q (138 + 8 * (j + 1), 17299 + 4700 * (j + 1)) X I L 18 [(0, .ref b), (1, .ref (gB G + 0)), (2, .ref (gB G + 99)), (3, .int (nI (6 * (j + 1))))] []) : Ex G mL_law rmL Q (138 + 8 * j, 17299 + 4700 * j) X I L 579 [(0, .ref b), (1, .ref (gB G + 0)), (2, .ref (gB G + 99)), (3, .int (nI (6 * j)))] [] := by
  obtain ⟨hM, hO⟩ := hSh _ _ _ hI
  obtain ⟨r, h1, h2, hI2⟩ := hT _ _ _ ((xs (Int32.toNatClampNeg (nI (6 * j) + 1)))) ((xs (Int32.toNatClampNeg (nI (6 * j) + 2)))) hI
  refine ex_aload_n 1 (pc' := 580) dL_law_579 rfl rfl rfl ?_
  refine ex_aload_n 0 (pc' := 581) dL_law_580 rfl rfl rfl ?_
  refine ex_iload_n 3 (pc' := 582) dL_law_581 rfl rfl rfl ?_
  refine ex_iconst (v := 1) (pc' := 583) dL_law_582 ic_1 rfl ?_
  refine ex_iadd (pc' := 584) dL_law_583 rfl ?_
  refine ex_sald hs (pc' := 585) dL_law_584 hi1 rfl ?_
  refine ex_aload_n 0 (pc' := 586) dL_law_585 rfl rfl rfl ?_
  refine ex_iload_n 3 (pc' := 587) dL_law_586 rfl rfl rfl ?_
  refine ex_iconst (v := 2) (pc' := 588) dL_law_587 ic_2 rfl ?_
  refine ex_iadd (pc' := 589) dL_law_588 rfl ?_
  refine ex_sald hs (pc' := 590) dL_law_589 hi2 rfl ?_
  refine ex_callV_l (rm' := rmX10_number) (st := []) (pc' := 593) [.int (xs (Int32.toNatClampNeg (nI (6 * j) + 1))), .int (xs (Int32.toNatClampNeg (nI (6 * j) + 2)))] dL_law_590 cl_L_63 (k_X10_number G hM h1) rfl (sh10_k hM) ⟨_, _, rfl⟩ rfl rfl ⟨⟨Nat.le_of_ble_eq_true rfl, Nat.le_of_ble_eq_true rfl⟩, by show 138 + 8 * j + 0 ≤ 600000; omega, by show 17299 + 4700 * j + 0 ≤ 7302250; omega⟩ (Nat.le_of_ble_eq_true rfl) rfl rfl ?_
  refine ex_aload_n 2 (pc' := 594) dL_law_593 rfl rfl rfl ?_
  refine ex_aload_n 0 (pc' := 595) dL_law_594 rfl rfl rfl ?_
  refine ex_iload_n 3 (pc' := 596) dL_law_595 rfl rfl rfl ?_
  refine ex_iconst (v := 1) (pc' := 597) dL_law_596 ic_1 rfl ?_
  refine ex_iadd (pc' := 598) dL_law_597 rfl ?_
  refine ex_sald hs (pc' := 599) dL_law_598 hi1 rfl ?_
  refine ex_aload_n 0 (pc' := 600) dL_law_599 rfl rfl rfl ?_
  refine ex_iload_n 3 (pc' := 601) dL_law_600 rfl rfl rfl ?_
  refine ex_iconst (v := 2) (pc' := 602) dL_law_601 ic_2 rfl ?_
  refine ex_iadd (pc' := 603) dL_law_602 rfl ?_
  refine ex_sald hs (pc' := 604) dL_law_603 hi2 rfl ?_
  refine ex_callV_l (rm' := rmX11_number) (st := [.long r]) (pc' := 607) [.int (xs (Int32.toNatClampNeg (nI (6 * j) + 1))), .int (xs (Int32.toNatClampNeg (nI (6 * j) + 2)))] dL_law_604 cl_L_66 (k_X11_number G hO h2) rfl (sh11_k hO) ⟨_, _, rfl⟩ rfl rfl ⟨⟨Nat.le_of_ble_eq_true rfl, Nat.le_of_ble_eq_true rfl⟩, by show 138 + 8 * j + 0 ≤ 600000; omega, by show 17299 + 4700 * j + 0 ≤ 7302250; omega⟩ (Nat.le_of_ble_eq_true rfl) rfl rfl ?_
  refine ex_lcmp (pc' := 608) dL_law_607 rfl ?_
  refine ex_lifeq (tgt := 1889) (pc' := 611) dL_law_608 (by decide) rfl (fun _ => ?_) (fun h => absurd rfl h)
  exact law_tail (c := 138 + 8 * j) (t := 17299 + 4700 * j) (by omega) (by omega) (hN _ _ _ hI2)
set_option maxRecDepth 100000 in
set_option maxHeartbeats 4000000 in
theorem law_c12 {G : GX} {Q : State → Prop} {b Ln j N : Nat} {xs : Nat → Int32} {Inv : MX → MI → ML → Prop} (hs : ScrOk G b Ln xs) (hj : j ≤ 512) (hSh : ∀ X I L, Inv X I L → shX10 X ∧ shX11 X) (hT : S_side N Inv) (hi1 : vp_in (nI (6 * j) + 1) Ln) (hi2 : vp_in (nI (6 * j) + 2) Ln) {X : MX} {I : MI} {L : ML} (hI : Inv X I L) (hN : ∀ X I L, Inv X I L → Ex G mL_law rmL Q (138 + 8 * (j + 1), 17299 + 4700 * (j + 1)) X I L 18 [(0, .ref b), (1, .ref (gB G + 0)), (2, .ref (gB G + 99)), (3, .int (nI (6 * (j + 1))))] []) : Ex G mL_law rmL Q (138 + 8 * j, 17299 + 4700 * j) X I L 613 [(0, .ref b), (1, .ref (gB G + 0)), (2, .ref (gB G + 99)), (3, .int (nI (6 * j)))] [] := by
  obtain ⟨hM, hO⟩ := hSh _ _ _ hI
  obtain ⟨r, I1, I2, h1, h2, hI2⟩ := hT _ _ _ ((xs (Int32.toNatClampNeg (nI (6 * j) + 1)))) ((xs (Int32.toNatClampNeg (nI (6 * j) + 2)))) hI
  refine ex_aload_n 1 (pc' := 614) dL_law_613 rfl rfl rfl ?_
  refine ex_aload_n 0 (pc' := 615) dL_law_614 rfl rfl rfl ?_
  refine ex_iload_n 3 (pc' := 616) dL_law_615 rfl rfl rfl ?_
  refine ex_iconst (v := 1) (pc' := 617) dL_law_616 ic_1 rfl ?_
  refine ex_iadd (pc' := 618) dL_law_617 rfl ?_
  refine ex_sald hs (pc' := 619) dL_law_618 hi1 rfl ?_
  refine ex_aload_n 0 (pc' := 620) dL_law_619 rfl rfl rfl ?_
  refine ex_iload_n 3 (pc' := 621) dL_law_620 rfl rfl rfl ?_
  refine ex_iconst (v := 2) (pc' := 622) dL_law_621 ic_2 rfl ?_
  refine ex_iadd (pc' := 623) dL_law_622 rfl ?_
  refine ex_sald hs (pc' := 624) dL_law_623 hi2 rfl ?_
  refine ex_callV_i (rm' := rmX10_side) (st := []) (pc' := 627) [.int (xs (Int32.toNatClampNeg (nI (6 * j) + 1))), .int (xs (Int32.toNatClampNeg (nI (6 * j) + 2)))] dL_law_624 cl_L_67 (k_X10_side G hM h1) rfl (sh10_k hM) ⟨_, _, rfl⟩ rfl rfl ⟨⟨Nat.le_of_ble_eq_true rfl, Nat.le_of_ble_eq_true rfl⟩, by show 138 + 8 * j + 0 ≤ 600000; omega, by show 17299 + 4700 * j + 0 ≤ 7302250; omega⟩ (Nat.le_of_ble_eq_true rfl) rfl rfl ?_
  refine ex_aload_n 2 (pc' := 628) dL_law_627 rfl rfl rfl ?_
  refine ex_aload_n 0 (pc' := 629) dL_law_628 rfl rfl rfl ?_
  refine ex_iload_n 3 (pc' := 630) dL_law_629 rfl rfl rfl ?_
  refine ex_iconst (v := 1) (pc' := 631) dL_law_630 ic_1 rfl ?_
  refine ex_iadd (pc' := 632) dL_law_631 rfl ?_
  refine ex_sald hs (pc' := 633) dL_law_632 hi1 rfl ?_
  refine ex_aload_n 0 (pc' := 634) dL_law_633 rfl rfl rfl ?_
  refine ex_iload_n 3 (pc' := 635) dL_law_634 rfl rfl rfl ?_
  refine ex_iconst (v := 2) (pc' := 636) dL_law_635 ic_2 rfl ?_
  refine ex_iadd (pc' := 637) dL_law_636 rfl ?_
  refine ex_sald hs (pc' := 638) dL_law_637 hi2 rfl ?_
  refine ex_callV_i (rm' := rmX11_side) (st := [.int r]) (pc' := 641) [.int (xs (Int32.toNatClampNeg (nI (6 * j) + 1))), .int (xs (Int32.toNatClampNeg (nI (6 * j) + 2)))] dL_law_638 cl_L_70 (k_X11_side G hO h2) rfl (sh11_k hO) ⟨_, _, rfl⟩ rfl rfl ⟨⟨Nat.le_of_ble_eq_true rfl, Nat.le_of_ble_eq_true rfl⟩, by show 138 + 8 * j + 0 ≤ 600000; omega, by show 17299 + 4700 * j + 0 ≤ 7302250; omega⟩ (Nat.le_of_ble_eq_true rfl) rfl rfl ?_
  refine ex_icmpeq (tgt := 1889) (pc' := 644) dL_law_641 (by decide) rfl (fun _ => ?_) (fun h => absurd rfl h)
  exact law_tail (c := 138 + 8 * j) (t := 17299 + 4700 * j) (by omega) (by omega) (hN _ _ _ hI2)
set_option maxRecDepth 100000 in
set_option maxHeartbeats 4000000 in
theorem law_c13 {G : GX} {Q : State → Prop} {b Ln j N : Nat} {xs : Nat → Int32} {Inv : MX → MI → ML → Prop} (hs : ScrOk G b Ln xs) (hj : j ≤ 512) (hSh : ∀ X I L, Inv X I L → shX10 X ∧ shX11 X) (hT : S_cell N Inv) (hi1 : vp_in (nI (6 * j) + 1) Ln) (hi2 : vp_in (nI (6 * j) + 2) Ln) (hi3 : vp_in (nI (6 * j) + 3) Ln) {X : MX} {I : MI} {L : ML} (hI : Inv X I L) (hN : ∀ X I L, Inv X I L → Ex G mL_law rmL Q (138 + 8 * (j + 1), 17299 + 4700 * (j + 1)) X I L 18 [(0, .ref b), (1, .ref (gB G + 0)), (2, .ref (gB G + 99)), (3, .int (nI (6 * (j + 1))))] []) : Ex G mL_law rmL Q (138 + 8 * j, 17299 + 4700 * j) X I L 646 [(0, .ref b), (1, .ref (gB G + 0)), (2, .ref (gB G + 99)), (3, .int (nI (6 * j)))] [] := by
  obtain ⟨hM, hO⟩ := hSh _ _ _ hI
  obtain ⟨r, I1, I2, h1, h2, hI2⟩ := hT _ _ _ ((xs (Int32.toNatClampNeg (nI (6 * j) + 1)))) ((xs (Int32.toNatClampNeg (nI (6 * j) + 2)))) ((xs (Int32.toNatClampNeg (nI (6 * j) + 3)))) hI
  refine ex_aload_n 1 (pc' := 647) dL_law_646 rfl rfl rfl ?_
  refine ex_aload_n 0 (pc' := 648) dL_law_647 rfl rfl rfl ?_
  refine ex_iload_n 3 (pc' := 649) dL_law_648 rfl rfl rfl ?_
  refine ex_iconst (v := 1) (pc' := 650) dL_law_649 ic_1 rfl ?_
  refine ex_iadd (pc' := 651) dL_law_650 rfl ?_
  refine ex_sald hs (pc' := 652) dL_law_651 hi1 rfl ?_
  refine ex_aload_n 0 (pc' := 653) dL_law_652 rfl rfl rfl ?_
  refine ex_iload_n 3 (pc' := 654) dL_law_653 rfl rfl rfl ?_
  refine ex_iconst (v := 2) (pc' := 655) dL_law_654 ic_2 rfl ?_
  refine ex_iadd (pc' := 656) dL_law_655 rfl ?_
  refine ex_sald hs (pc' := 657) dL_law_656 hi2 rfl ?_
  refine ex_aload_n 0 (pc' := 658) dL_law_657 rfl rfl rfl ?_
  refine ex_iload_n 3 (pc' := 659) dL_law_658 rfl rfl rfl ?_
  refine ex_iconst (v := 3) (pc' := 660) dL_law_659 ic_3 rfl ?_
  refine ex_iadd (pc' := 661) dL_law_660 rfl ?_
  refine ex_sald hs (pc' := 662) dL_law_661 hi3 rfl ?_
  refine ex_callV_i (rm' := rmX10_cell) (st := []) (pc' := 665) [.int (xs (Int32.toNatClampNeg (nI (6 * j) + 1))), .int (xs (Int32.toNatClampNeg (nI (6 * j) + 2))), .int (xs (Int32.toNatClampNeg (nI (6 * j) + 3)))] dL_law_662 cl_L_71 (k_X10_cell G hM h1) rfl (sh10_k hM) ⟨_, _, rfl⟩ rfl rfl ⟨⟨Nat.le_of_ble_eq_true rfl, Nat.le_of_ble_eq_true rfl⟩, by show 138 + 8 * j + 0 ≤ 600000; omega, by show 17299 + 4700 * j + 0 ≤ 7302250; omega⟩ (Nat.le_of_ble_eq_true rfl) rfl rfl ?_
  refine ex_aload_n 2 (pc' := 666) dL_law_665 rfl rfl rfl ?_
  refine ex_aload_n 0 (pc' := 667) dL_law_666 rfl rfl rfl ?_
  refine ex_iload_n 3 (pc' := 668) dL_law_667 rfl rfl rfl ?_
  refine ex_iconst (v := 1) (pc' := 669) dL_law_668 ic_1 rfl ?_
  refine ex_iadd (pc' := 670) dL_law_669 rfl ?_
  refine ex_sald hs (pc' := 671) dL_law_670 hi1 rfl ?_
  refine ex_aload_n 0 (pc' := 672) dL_law_671 rfl rfl rfl ?_
  refine ex_iload_n 3 (pc' := 673) dL_law_672 rfl rfl rfl ?_
  refine ex_iconst (v := 2) (pc' := 674) dL_law_673 ic_2 rfl ?_
  refine ex_iadd (pc' := 675) dL_law_674 rfl ?_
  refine ex_sald hs (pc' := 676) dL_law_675 hi2 rfl ?_
  refine ex_aload_n 0 (pc' := 677) dL_law_676 rfl rfl rfl ?_
  refine ex_iload_n 3 (pc' := 678) dL_law_677 rfl rfl rfl ?_
  refine ex_iconst (v := 3) (pc' := 679) dL_law_678 ic_3 rfl ?_
  refine ex_iadd (pc' := 680) dL_law_679 rfl ?_
  refine ex_sald hs (pc' := 681) dL_law_680 hi3 rfl ?_
  refine ex_callV_i (rm' := rmX11_cell) (st := [.int r]) (pc' := 684) [.int (xs (Int32.toNatClampNeg (nI (6 * j) + 1))), .int (xs (Int32.toNatClampNeg (nI (6 * j) + 2))), .int (xs (Int32.toNatClampNeg (nI (6 * j) + 3)))] dL_law_681 cl_L_74 (k_X11_cell G hO h2) rfl (sh11_k hO) ⟨_, _, rfl⟩ rfl rfl ⟨⟨Nat.le_of_ble_eq_true rfl, Nat.le_of_ble_eq_true rfl⟩, by show 138 + 8 * j + 0 ≤ 600000; omega, by show 17299 + 4700 * j + 0 ≤ 7302250; omega⟩ (Nat.le_of_ble_eq_true rfl) rfl rfl ?_
  refine ex_icmpeq (tgt := 1889) (pc' := 687) dL_law_684 (by decide) rfl (fun _ => ?_) (fun h => absurd rfl h)
  exact law_tail (c := 138 + 8 * j) (t := 17299 + 4700 * j) (by omega) (by omega) (hN _ _ _ hI2)
set_option maxRecDepth 100000 in
set_option maxHeartbeats 4000000 in
theorem law_c14 {G : GX} {Q : State → Prop} {b Ln j N : Nat} {xs : Nat → Int32} {Inv : MX → MI → ML → Prop} (hs : ScrOk G b Ln xs) (hj : j ≤ 512) (hSh : ∀ X I L, Inv X I L → shX10 X ∧ shX11 X) (hT : S_board N Inv) (hi1 : vp_in (nI (6 * j) + 1) Ln) (hi2 : vp_in (nI (6 * j) + 2) Ln) {X : MX} {I : MI} {L : ML} (hI : Inv X I L) (hN : ∀ X I L, Inv X I L → Ex G mL_law rmL Q (138 + 8 * (j + 1), 17299 + 4700 * (j + 1)) X I L 18 [(0, .ref b), (1, .ref (gB G + 0)), (2, .ref (gB G + 99)), (3, .int (nI (6 * (j + 1))))] []) : Ex G mL_law rmL Q (138 + 8 * j, 17299 + 4700 * j) X I L 689 [(0, .ref b), (1, .ref (gB G + 0)), (2, .ref (gB G + 99)), (3, .int (nI (6 * j)))] [] := by
  obtain ⟨hM, hO⟩ := hSh _ _ _ hI
  obtain ⟨r, I1, I2, h1, h2, hI2⟩ := hT _ _ _ ((xs (Int32.toNatClampNeg (nI (6 * j) + 1)))) ((xs (Int32.toNatClampNeg (nI (6 * j) + 2)))) hI
  refine ex_aload_n 1 (pc' := 690) dL_law_689 rfl rfl rfl ?_
  refine ex_aload_n 0 (pc' := 691) dL_law_690 rfl rfl rfl ?_
  refine ex_iload_n 3 (pc' := 692) dL_law_691 rfl rfl rfl ?_
  refine ex_iconst (v := 1) (pc' := 693) dL_law_692 ic_1 rfl ?_
  refine ex_iadd (pc' := 694) dL_law_693 rfl ?_
  refine ex_sald hs (pc' := 695) dL_law_694 hi1 rfl ?_
  refine ex_aload_n 0 (pc' := 696) dL_law_695 rfl rfl rfl ?_
  refine ex_iload_n 3 (pc' := 697) dL_law_696 rfl rfl rfl ?_
  refine ex_iconst (v := 2) (pc' := 698) dL_law_697 ic_2 rfl ?_
  refine ex_iadd (pc' := 699) dL_law_698 rfl ?_
  refine ex_sald hs (pc' := 700) dL_law_699 hi2 rfl ?_
  refine ex_callV_i (rm' := rmX10_board) (st := []) (pc' := 703) [.int (xs (Int32.toNatClampNeg (nI (6 * j) + 1))), .int (xs (Int32.toNatClampNeg (nI (6 * j) + 2)))] dL_law_700 cl_L_75 (k_X10_board G hM h1) rfl (sh10_k hM) ⟨_, _, rfl⟩ rfl rfl ⟨⟨Nat.le_of_ble_eq_true rfl, Nat.le_of_ble_eq_true rfl⟩, by show 138 + 8 * j + 0 ≤ 600000; omega, by show 17299 + 4700 * j + 0 ≤ 7302250; omega⟩ (Nat.le_of_ble_eq_true rfl) rfl rfl ?_
  refine ex_aload_n 2 (pc' := 704) dL_law_703 rfl rfl rfl ?_
  refine ex_aload_n 0 (pc' := 705) dL_law_704 rfl rfl rfl ?_
  refine ex_iload_n 3 (pc' := 706) dL_law_705 rfl rfl rfl ?_
  refine ex_iconst (v := 1) (pc' := 707) dL_law_706 ic_1 rfl ?_
  refine ex_iadd (pc' := 708) dL_law_707 rfl ?_
  refine ex_sald hs (pc' := 709) dL_law_708 hi1 rfl ?_
  refine ex_aload_n 0 (pc' := 710) dL_law_709 rfl rfl rfl ?_
  refine ex_iload_n 3 (pc' := 711) dL_law_710 rfl rfl rfl ?_
  refine ex_iconst (v := 2) (pc' := 712) dL_law_711 ic_2 rfl ?_
  refine ex_iadd (pc' := 713) dL_law_712 rfl ?_
  refine ex_sald hs (pc' := 714) dL_law_713 hi2 rfl ?_
  refine ex_callV_i (rm' := rmX11_board) (st := [.int r]) (pc' := 717) [.int (xs (Int32.toNatClampNeg (nI (6 * j) + 1))), .int (xs (Int32.toNatClampNeg (nI (6 * j) + 2)))] dL_law_714 cl_L_78 (k_X11_board G hO h2) rfl (sh11_k hO) ⟨_, _, rfl⟩ rfl rfl ⟨⟨Nat.le_of_ble_eq_true rfl, Nat.le_of_ble_eq_true rfl⟩, by show 138 + 8 * j + 0 ≤ 600000; omega, by show 17299 + 4700 * j + 0 ≤ 7302250; omega⟩ (Nat.le_of_ble_eq_true rfl) rfl rfl ?_
  refine ex_icmpeq (tgt := 1889) (pc' := 720) dL_law_717 (by decide) rfl (fun _ => ?_) (fun h => absurd rfl h)
  exact law_tail (c := 138 + 8 * j) (t := 17299 + 4700 * j) (by omega) (by omega) (hN _ _ _ hI2)
set_option maxRecDepth 100000 in
set_option maxHeartbeats 4000000 in
theorem law_c15 {G : GX} {Q : State → Prop} {b Ln j N : Nat} {xs : Nat → Int32} {Inv : MX → MI → ML → Prop} (hs : ScrOk G b Ln xs) (hj : j ≤ 512) (hSh : ∀ X I L, Inv X I L → shX10 X ∧ shX11 X) (hT : S_steps N Inv) (hi1 : vp_in (nI (6 * j) + 1) Ln) (hi2 : vp_in (nI (6 * j) + 2) Ln) (hi3 : vp_in (nI (6 * j) + 3) Ln) {X : MX} {I : MI} {L : ML} (hI : Inv X I L) (hN : ∀ X I L, Inv X I L → Ex G mL_law rmL Q (138 + 8 * (j + 1), 17299 + 4700 * (j + 1)) X I L 18 [(0, .ref b), (1, .ref (gB G + 0)), (2, .ref (gB G + 99)), (3, .int (nI (6 * (j + 1))))] []) : Ex G mL_law rmL Q (138 + 8 * j, 17299 + 4700 * j) X I L 722 [(0, .ref b), (1, .ref (gB G + 0)), (2, .ref (gB G + 99)), (3, .int (nI (6 * j)))] [] := by
  obtain ⟨hM, hO⟩ := hSh _ _ _ hI
  obtain ⟨r, I1, I2, h1, h2, hI2⟩ := hT _ _ _ ((xs (Int32.toNatClampNeg (nI (6 * j) + 1)))) ((xs (Int32.toNatClampNeg (nI (6 * j) + 2)))) ((xs (Int32.toNatClampNeg (nI (6 * j) + 3)))) hI
  refine ex_aload_n 1 (pc' := 723) dL_law_722 rfl rfl rfl ?_
  refine ex_aload_n 0 (pc' := 724) dL_law_723 rfl rfl rfl ?_
  refine ex_iload_n 3 (pc' := 725) dL_law_724 rfl rfl rfl ?_
  refine ex_iconst (v := 1) (pc' := 726) dL_law_725 ic_1 rfl ?_
  refine ex_iadd (pc' := 727) dL_law_726 rfl ?_
  refine ex_sald hs (pc' := 728) dL_law_727 hi1 rfl ?_
  refine ex_aload_n 0 (pc' := 729) dL_law_728 rfl rfl rfl ?_
  refine ex_iload_n 3 (pc' := 730) dL_law_729 rfl rfl rfl ?_
  refine ex_iconst (v := 2) (pc' := 731) dL_law_730 ic_2 rfl ?_
  refine ex_iadd (pc' := 732) dL_law_731 rfl ?_
  refine ex_sald hs (pc' := 733) dL_law_732 hi2 rfl ?_
  refine ex_aload_n 0 (pc' := 734) dL_law_733 rfl rfl rfl ?_
  refine ex_iload_n 3 (pc' := 735) dL_law_734 rfl rfl rfl ?_
  refine ex_iconst (v := 3) (pc' := 736) dL_law_735 ic_3 rfl ?_
  refine ex_iadd (pc' := 737) dL_law_736 rfl ?_
  refine ex_sald hs (pc' := 738) dL_law_737 hi3 rfl ?_
  refine ex_callV_i (rm' := rmX10_steps) (st := []) (pc' := 741) [.int (xs (Int32.toNatClampNeg (nI (6 * j) + 1))), .int (xs (Int32.toNatClampNeg (nI (6 * j) + 2))), .int (xs (Int32.toNatClampNeg (nI (6 * j) + 3)))] dL_law_738 cl_L_79 (k_X10_steps G hM h1) rfl (sh10_k hM) ⟨_, _, rfl⟩ rfl rfl ⟨⟨Nat.le_of_ble_eq_true rfl, Nat.le_of_ble_eq_true rfl⟩, by show 138 + 8 * j + 0 ≤ 600000; omega, by show 17299 + 4700 * j + 0 ≤ 7302250; omega⟩ (Nat.le_of_ble_eq_true rfl) rfl rfl ?_
  refine ex_aload_n 2 (pc' := 742) dL_law_741 rfl rfl rfl ?_
  refine ex_aload_n 0 (pc' := 743) dL_law_742 rfl rfl rfl ?_
  refine ex_iload_n 3 (pc' := 744) dL_law_743 rfl rfl rfl ?_
  refine ex_iconst (v := 1) (pc' := 745) dL_law_744 ic_1 rfl ?_
  refine ex_iadd (pc' := 746) dL_law_745 rfl ?_
  refine ex_sald hs (pc' := 747) dL_law_746 hi1 rfl ?_
  refine ex_aload_n 0 (pc' := 748) dL_law_747 rfl rfl rfl ?_
  refine ex_iload_n 3 (pc' := 749) dL_law_748 rfl rfl rfl ?_
  refine ex_iconst (v := 2) (pc' := 750) dL_law_749 ic_2 rfl ?_
  refine ex_iadd (pc' := 751) dL_law_750 rfl ?_
  refine ex_sald hs (pc' := 752) dL_law_751 hi2 rfl ?_
  refine ex_aload_n 0 (pc' := 753) dL_law_752 rfl rfl rfl ?_
  refine ex_iload_n 3 (pc' := 754) dL_law_753 rfl rfl rfl ?_
  refine ex_iconst (v := 3) (pc' := 755) dL_law_754 ic_3 rfl ?_
  refine ex_iadd (pc' := 756) dL_law_755 rfl ?_
  refine ex_sald hs (pc' := 757) dL_law_756 hi3 rfl ?_
  refine ex_callV_i (rm' := rmX11_steps) (st := [.int r]) (pc' := 760) [.int (xs (Int32.toNatClampNeg (nI (6 * j) + 1))), .int (xs (Int32.toNatClampNeg (nI (6 * j) + 2))), .int (xs (Int32.toNatClampNeg (nI (6 * j) + 3)))] dL_law_757 cl_L_82 (k_X11_steps G hO h2) rfl (sh11_k hO) ⟨_, _, rfl⟩ rfl rfl ⟨⟨Nat.le_of_ble_eq_true rfl, Nat.le_of_ble_eq_true rfl⟩, by show 138 + 8 * j + 0 ≤ 600000; omega, by show 17299 + 4700 * j + 0 ≤ 7302250; omega⟩ (Nat.le_of_ble_eq_true rfl) rfl rfl ?_
  refine ex_icmpeq (tgt := 1889) (pc' := 763) dL_law_760 (by decide) rfl (fun _ => ?_) (fun h => absurd rfl h)
  exact law_tail (c := 138 + 8 * j) (t := 17299 + 4700 * j) (by omega) (by omega) (hN _ _ _ hI2)
set_option maxRecDepth 100000 in
set_option maxHeartbeats 4000000 in
theorem law_c16 {G : GX} {Q : State → Prop} {b Ln j N : Nat} {xs : Nat → Int32} {Inv : MX → MI → ML → Prop} (hs : ScrOk G b Ln xs) (hj : j ≤ 512) (hSh : ∀ X I L, Inv X I L → shX10 X ∧ shX11 X) (hT : S_other N Inv) (hi1 : vp_in (nI (6 * j) + 1) Ln) {X : MX} {I : MI} {L : ML} (hI : Inv X I L) (hN : ∀ X I L, Inv X I L → Ex G mL_law rmL Q (138 + 8 * (j + 1), 17299 + 4700 * (j + 1)) X I L 18 [(0, .ref b), (1, .ref (gB G + 0)), (2, .ref (gB G + 99)), (3, .int (nI (6 * (j + 1))))] []) : Ex G mL_law rmL Q (138 + 8 * j, 17299 + 4700 * j) X I L 765 [(0, .ref b), (1, .ref (gB G + 0)), (2, .ref (gB G + 99)), (3, .int (nI (6 * j)))] [] := by
  obtain ⟨hM, hO⟩ := hSh _ _ _ hI
  obtain ⟨r, I1, I2, h1, h2, hI2⟩ := hT _ _ _ ((xs (Int32.toNatClampNeg (nI (6 * j) + 1)))) hI
  refine ex_aload_n 1 (pc' := 766) dL_law_765 rfl rfl rfl ?_
  refine ex_aload_n 0 (pc' := 767) dL_law_766 rfl rfl rfl ?_
  refine ex_iload_n 3 (pc' := 768) dL_law_767 rfl rfl rfl ?_
  refine ex_iconst (v := 1) (pc' := 769) dL_law_768 ic_1 rfl ?_
  refine ex_iadd (pc' := 770) dL_law_769 rfl ?_
  refine ex_sald hs (pc' := 771) dL_law_770 hi1 rfl ?_
  refine ex_callV_i (rm' := rmX10_other) (st := []) (pc' := 774) [.int (xs (Int32.toNatClampNeg (nI (6 * j) + 1)))] dL_law_771 cl_L_83 (k_X10_other G hM h1) rfl (sh10_k hM) ⟨_, _, rfl⟩ rfl rfl ⟨⟨Nat.le_of_ble_eq_true rfl, Nat.le_of_ble_eq_true rfl⟩, by show 138 + 8 * j + 0 ≤ 600000; omega, by show 17299 + 4700 * j + 0 ≤ 7302250; omega⟩ (Nat.le_of_ble_eq_true rfl) rfl rfl ?_
  refine ex_aload_n 2 (pc' := 775) dL_law_774 rfl rfl rfl ?_
  refine ex_aload_n 0 (pc' := 776) dL_law_775 rfl rfl rfl ?_
  refine ex_iload_n 3 (pc' := 777) dL_law_776 rfl rfl rfl ?_
  refine ex_iconst (v := 1) (pc' := 778) dL_law_777 ic_1 rfl ?_
  refine ex_iadd (pc' := 779) dL_law_778 rfl ?_
  refine ex_sald hs (pc' := 780) dL_law_779 hi1 rfl ?_
  refine ex_callV_i (rm' := rmX11_other) (st := [.int r]) (pc' := 783) [.int (xs (Int32.toNatClampNeg (nI (6 * j) + 1)))] dL_law_780 cl_L_86 (k_X11_other G hO h2) rfl (sh11_k hO) ⟨_, _, rfl⟩ rfl rfl ⟨⟨Nat.le_of_ble_eq_true rfl, Nat.le_of_ble_eq_true rfl⟩, by show 138 + 8 * j + 0 ≤ 600000; omega, by show 17299 + 4700 * j + 0 ≤ 7302250; omega⟩ (Nat.le_of_ble_eq_true rfl) rfl rfl ?_
  refine ex_icmpeq (tgt := 1889) (pc' := 786) dL_law_783 (by decide) rfl (fun _ => ?_) (fun h => absurd rfl h)
  exact law_tail (c := 138 + 8 * j) (t := 17299 + 4700 * j) (by omega) (by omega) (hN _ _ _ hI2)
set_option maxRecDepth 100000 in
set_option maxHeartbeats 4000000 in
theorem law_c17 {G : GX} {Q : State → Prop} {b Ln j N : Nat} {xs : Nat → Int32} {Inv : MX → MI → ML → Prop} (hs : ScrOk G b Ln xs) (hj : j ≤ 512) (hSh : ∀ X I L, Inv X I L → shX10 X ∧ shX11 X) (hT : S_turned N Inv) (hi1 : vp_in (nI (6 * j) + 1) Ln) {X : MX} {I : MI} {L : ML} (hI : Inv X I L) (hN : ∀ X I L, Inv X I L → Ex G mL_law rmL Q (138 + 8 * (j + 1), 17299 + 4700 * (j + 1)) X I L 18 [(0, .ref b), (1, .ref (gB G + 0)), (2, .ref (gB G + 99)), (3, .int (nI (6 * (j + 1))))] []) : Ex G mL_law rmL Q (138 + 8 * j, 17299 + 4700 * j) X I L 788 [(0, .ref b), (1, .ref (gB G + 0)), (2, .ref (gB G + 99)), (3, .int (nI (6 * j)))] [] := by
  obtain ⟨hM, hO⟩ := hSh _ _ _ hI
  obtain ⟨r, I1, I2, h1, h2, hI2⟩ := hT _ _ _ ((xs (Int32.toNatClampNeg (nI (6 * j) + 1)))) hI
  refine ex_aload_n 1 (pc' := 789) dL_law_788 rfl rfl rfl ?_
  refine ex_aload_n 0 (pc' := 790) dL_law_789 rfl rfl rfl ?_
  refine ex_iload_n 3 (pc' := 791) dL_law_790 rfl rfl rfl ?_
  refine ex_iconst (v := 1) (pc' := 792) dL_law_791 ic_1 rfl ?_
  refine ex_iadd (pc' := 793) dL_law_792 rfl ?_
  refine ex_sald hs (pc' := 794) dL_law_793 hi1 rfl ?_
  refine ex_callV_i (rm' := rmX10_turned) (st := []) (pc' := 797) [.int (xs (Int32.toNatClampNeg (nI (6 * j) + 1)))] dL_law_794 cl_L_87 (k_X10_turned G hM h1) rfl (sh10_k hM) ⟨_, _, rfl⟩ rfl rfl ⟨⟨Nat.le_of_ble_eq_true rfl, Nat.le_of_ble_eq_true rfl⟩, by show 138 + 8 * j + 0 ≤ 600000; omega, by show 17299 + 4700 * j + 0 ≤ 7302250; omega⟩ (Nat.le_of_ble_eq_true rfl) rfl rfl ?_
  refine ex_aload_n 2 (pc' := 798) dL_law_797 rfl rfl rfl ?_
  refine ex_aload_n 0 (pc' := 799) dL_law_798 rfl rfl rfl ?_
  refine ex_iload_n 3 (pc' := 800) dL_law_799 rfl rfl rfl ?_
  refine ex_iconst (v := 1) (pc' := 801) dL_law_800 ic_1 rfl ?_
  refine ex_iadd (pc' := 802) dL_law_801 rfl ?_
  refine ex_sald hs (pc' := 803) dL_law_802 hi1 rfl ?_
  refine ex_callV_i (rm' := rmX11_turned) (st := [.int r]) (pc' := 806) [.int (xs (Int32.toNatClampNeg (nI (6 * j) + 1)))] dL_law_803 cl_L_90 (k_X11_turned G hO h2) rfl (sh11_k hO) ⟨_, _, rfl⟩ rfl rfl ⟨⟨Nat.le_of_ble_eq_true rfl, Nat.le_of_ble_eq_true rfl⟩, by show 138 + 8 * j + 0 ≤ 600000; omega, by show 17299 + 4700 * j + 0 ≤ 7302250; omega⟩ (Nat.le_of_ble_eq_true rfl) rfl rfl ?_
  refine ex_icmpeq (tgt := 1889) (pc' := 809) dL_law_806 (by decide) rfl (fun _ => ?_) (fun h => absurd rfl h)
  exact law_tail (c := 138 + 8 * j) (t := 17299 + 4700 * j) (by omega) (by omega) (hN _ _ _ hI2)
set_option maxRecDepth 100000 in
set_option maxHeartbeats 4000000 in
theorem law_c18 {G : GX} {Q : State → Prop} {b Ln j N : Nat} {xs : Nat → Int32} {Inv : MX → MI → ML → Prop} (hs : ScrOk G b Ln xs) (hj : j ≤ 512) (hSh : ∀ X I L, Inv X I L → shX10 X ∧ shX11 X) (hT : S_flipped N Inv) (hi1 : vp_in (nI (6 * j) + 1) Ln) {X : MX} {I : MI} {L : ML} (hI : Inv X I L) (hN : ∀ X I L, Inv X I L → Ex G mL_law rmL Q (138 + 8 * (j + 1), 17299 + 4700 * (j + 1)) X I L 18 [(0, .ref b), (1, .ref (gB G + 0)), (2, .ref (gB G + 99)), (3, .int (nI (6 * (j + 1))))] []) : Ex G mL_law rmL Q (138 + 8 * j, 17299 + 4700 * j) X I L 811 [(0, .ref b), (1, .ref (gB G + 0)), (2, .ref (gB G + 99)), (3, .int (nI (6 * j)))] [] := by
  obtain ⟨hM, hO⟩ := hSh _ _ _ hI
  obtain ⟨r, I1, I2, h1, h2, hI2⟩ := hT _ _ _ ((xs (Int32.toNatClampNeg (nI (6 * j) + 1)))) hI
  refine ex_aload_n 1 (pc' := 812) dL_law_811 rfl rfl rfl ?_
  refine ex_aload_n 0 (pc' := 813) dL_law_812 rfl rfl rfl ?_
  refine ex_iload_n 3 (pc' := 814) dL_law_813 rfl rfl rfl ?_
  refine ex_iconst (v := 1) (pc' := 815) dL_law_814 ic_1 rfl ?_
  refine ex_iadd (pc' := 816) dL_law_815 rfl ?_
  refine ex_sald hs (pc' := 817) dL_law_816 hi1 rfl ?_
  refine ex_callV_i (rm' := rmX10_flipped) (st := []) (pc' := 820) [.int (xs (Int32.toNatClampNeg (nI (6 * j) + 1)))] dL_law_817 cl_L_91 (k_X10_flipped G hM h1) rfl (sh10_k hM) ⟨_, _, rfl⟩ rfl rfl ⟨⟨Nat.le_of_ble_eq_true rfl, Nat.le_of_ble_eq_true rfl⟩, by show 138 + 8 * j + 0 ≤ 600000; omega, by show 17299 + 4700 * j + 0 ≤ 7302250; omega⟩ (Nat.le_of_ble_eq_true rfl) rfl rfl ?_
  refine ex_aload_n 2 (pc' := 821) dL_law_820 rfl rfl rfl ?_
  refine ex_aload_n 0 (pc' := 822) dL_law_821 rfl rfl rfl ?_
  refine ex_iload_n 3 (pc' := 823) dL_law_822 rfl rfl rfl ?_
  refine ex_iconst (v := 1) (pc' := 824) dL_law_823 ic_1 rfl ?_
  refine ex_iadd (pc' := 825) dL_law_824 rfl ?_
  refine ex_sald hs (pc' := 826) dL_law_825 hi1 rfl ?_
  refine ex_callV_i (rm' := rmX11_flipped) (st := [.int r]) (pc' := 829) [.int (xs (Int32.toNatClampNeg (nI (6 * j) + 1)))] dL_law_826 cl_L_94 (k_X11_flipped G hO h2) rfl (sh11_k hO) ⟨_, _, rfl⟩ rfl rfl ⟨⟨Nat.le_of_ble_eq_true rfl, Nat.le_of_ble_eq_true rfl⟩, by show 138 + 8 * j + 0 ≤ 600000; omega, by show 17299 + 4700 * j + 0 ≤ 7302250; omega⟩ (Nat.le_of_ble_eq_true rfl) rfl rfl ?_
  refine ex_icmpeq (tgt := 1889) (pc' := 832) dL_law_829 (by decide) rfl (fun _ => ?_) (fun h => absurd rfl h)
  exact law_tail (c := 138 + 8 * j) (t := 17299 + 4700 * j) (by omega) (by omega) (hN _ _ _ hI2)
set_option maxRecDepth 100000 in
set_option maxHeartbeats 4000000 in
theorem law_c19 {G : GX} {Q : State → Prop} {b Ln j N : Nat} {xs : Nat → Int32} {Inv : MX → MI → ML → Prop} (hs : ScrOk G b Ln xs) (hj : j ≤ 512) (hSh : ∀ X I L, Inv X I L → shX10 X ∧ shX11 X) (hT : S_row N Inv) (hi1 : vp_in (nI (6 * j) + 1) Ln) (hi2 : vp_in (nI (6 * j) + 2) Ln) {X : MX} {I : MI} {L : ML} (hI : Inv X I L) (hN : ∀ X I L, Inv X I L → Ex G mL_law rmL Q (138 + 8 * (j + 1), 17299 + 4700 * (j + 1)) X I L 18 [(0, .ref b), (1, .ref (gB G + 0)), (2, .ref (gB G + 99)), (3, .int (nI (6 * (j + 1))))] []) : Ex G mL_law rmL Q (138 + 8 * j, 17299 + 4700 * j) X I L 834 [(0, .ref b), (1, .ref (gB G + 0)), (2, .ref (gB G + 99)), (3, .int (nI (6 * j)))] [] := by
  obtain ⟨hM, hO⟩ := hSh _ _ _ hI
  obtain ⟨r, h1, h2, hI2⟩ := hT _ _ _ ((xs (Int32.toNatClampNeg (nI (6 * j) + 1)))) ((xs (Int32.toNatClampNeg (nI (6 * j) + 2)))) hI
  refine ex_aload_n 1 (pc' := 835) dL_law_834 rfl rfl rfl ?_
  refine ex_aload_n 0 (pc' := 836) dL_law_835 rfl rfl rfl ?_
  refine ex_iload_n 3 (pc' := 837) dL_law_836 rfl rfl rfl ?_
  refine ex_iconst (v := 1) (pc' := 838) dL_law_837 ic_1 rfl ?_
  refine ex_iadd (pc' := 839) dL_law_838 rfl ?_
  refine ex_sald hs (pc' := 840) dL_law_839 hi1 rfl ?_
  refine ex_aload_n 0 (pc' := 841) dL_law_840 rfl rfl rfl ?_
  refine ex_iload_n 3 (pc' := 842) dL_law_841 rfl rfl rfl ?_
  refine ex_iconst (v := 2) (pc' := 843) dL_law_842 ic_2 rfl ?_
  refine ex_iadd (pc' := 844) dL_law_843 rfl ?_
  refine ex_sald hs (pc' := 845) dL_law_844 hi2 rfl ?_
  refine ex_callV_i (rm' := rmX10_row) (st := []) (pc' := 848) [.int (xs (Int32.toNatClampNeg (nI (6 * j) + 1))), .int (xs (Int32.toNatClampNeg (nI (6 * j) + 2)))] dL_law_845 cl_L_95 (k_X10_row G hM h1) rfl (sh10_k hM) ⟨_, _, rfl⟩ rfl rfl ⟨⟨Nat.le_of_ble_eq_true rfl, Nat.le_of_ble_eq_true rfl⟩, by show 138 + 8 * j + 0 ≤ 600000; omega, by show 17299 + 4700 * j + 0 ≤ 7302250; omega⟩ (Nat.le_of_ble_eq_true rfl) rfl rfl ?_
  refine ex_aload_n 2 (pc' := 849) dL_law_848 rfl rfl rfl ?_
  refine ex_aload_n 0 (pc' := 850) dL_law_849 rfl rfl rfl ?_
  refine ex_iload_n 3 (pc' := 851) dL_law_850 rfl rfl rfl ?_
  refine ex_iconst (v := 1) (pc' := 852) dL_law_851 ic_1 rfl ?_
  refine ex_iadd (pc' := 853) dL_law_852 rfl ?_
  refine ex_sald hs (pc' := 854) dL_law_853 hi1 rfl ?_
  refine ex_aload_n 0 (pc' := 855) dL_law_854 rfl rfl rfl ?_
  refine ex_iload_n 3 (pc' := 856) dL_law_855 rfl rfl rfl ?_
  refine ex_iconst (v := 2) (pc' := 857) dL_law_856 ic_2 rfl ?_
  refine ex_iadd (pc' := 858) dL_law_857 rfl ?_
  refine ex_sald hs (pc' := 859) dL_law_858 hi2 rfl ?_
  refine ex_callV_i (rm' := rmX11_row) (st := [.int r]) (pc' := 862) [.int (xs (Int32.toNatClampNeg (nI (6 * j) + 1))), .int (xs (Int32.toNatClampNeg (nI (6 * j) + 2)))] dL_law_859 cl_L_98 (k_X11_row G hO h2) rfl (sh11_k hO) ⟨_, _, rfl⟩ rfl rfl ⟨⟨Nat.le_of_ble_eq_true rfl, Nat.le_of_ble_eq_true rfl⟩, by show 138 + 8 * j + 0 ≤ 600000; omega, by show 17299 + 4700 * j + 0 ≤ 7302250; omega⟩ (Nat.le_of_ble_eq_true rfl) rfl rfl ?_
  refine ex_icmpeq (tgt := 1889) (pc' := 865) dL_law_862 (by decide) rfl (fun _ => ?_) (fun h => absurd rfl h)
  exact law_tail (c := 138 + 8 * j) (t := 17299 + 4700 * j) (by omega) (by omega) (hN _ _ _ hI2)
set_option maxRecDepth 100000 in
set_option maxHeartbeats 4000000 in
theorem law_c20 {G : GX} {Q : State → Prop} {b Ln j N : Nat} {xs : Nat → Int32} {Inv : MX → MI → ML → Prop} (hs : ScrOk G b Ln xs) (hj : j ≤ 512) (hSh : ∀ X I L, Inv X I L → shX10 X ∧ shX11 X) (hT : S_of N Inv) (hi1 : vp_in (nI (6 * j) + 1) Ln) (hi2 : vp_in (nI (6 * j) + 2) Ln) {X : MX} {I : MI} {L : ML} (hI : Inv X I L) (hN : ∀ X I L, Inv X I L → Ex G mL_law rmL Q (138 + 8 * (j + 1), 17299 + 4700 * (j + 1)) X I L 18 [(0, .ref b), (1, .ref (gB G + 0)), (2, .ref (gB G + 99)), (3, .int (nI (6 * (j + 1))))] []) : Ex G mL_law rmL Q (138 + 8 * j, 17299 + 4700 * j) X I L 867 [(0, .ref b), (1, .ref (gB G + 0)), (2, .ref (gB G + 99)), (3, .int (nI (6 * j)))] [] := by
  obtain ⟨hM, hO⟩ := hSh _ _ _ hI
  obtain ⟨r, X1, I1, L1, I2, h1, h2, hI2⟩ := hT _ _ _ ((xs (Int32.toNatClampNeg (nI (6 * j) + 1)))) ((xs (Int32.toNatClampNeg (nI (6 * j) + 2)))) hI
  have hO1 : shX11 X1 := (hSh _ _ _ hI2).2
  refine ex_aload_n 1 (pc' := 868) dL_law_867 rfl rfl rfl ?_
  refine ex_aload_n 0 (pc' := 869) dL_law_868 rfl rfl rfl ?_
  refine ex_iload_n 3 (pc' := 870) dL_law_869 rfl rfl rfl ?_
  refine ex_iconst (v := 1) (pc' := 871) dL_law_870 ic_1 rfl ?_
  refine ex_iadd (pc' := 872) dL_law_871 rfl ?_
  refine ex_sald hs (pc' := 873) dL_law_872 hi1 rfl ?_
  refine ex_aload_n 0 (pc' := 874) dL_law_873 rfl rfl rfl ?_
  refine ex_iload_n 3 (pc' := 875) dL_law_874 rfl rfl rfl ?_
  refine ex_iconst (v := 2) (pc' := 876) dL_law_875 ic_2 rfl ?_
  refine ex_iadd (pc' := 877) dL_law_876 rfl ?_
  refine ex_sald hs (pc' := 878) dL_law_877 hi2 rfl ?_
  refine ex_callV (rm' := rmX10_of) (st := []) (pc' := 881) [.int (xs (Int32.toNatClampNeg (nI (6 * j) + 1))), .int (xs (Int32.toNatClampNeg (nI (6 * j) + 2)))] dL_law_878 cl_L_99 (k_X10_of G hM h1) rfl (sh10_k hM) ⟨_, _, rfl⟩ rfl rfl ⟨⟨Nat.le_of_ble_eq_true rfl, Nat.le_of_ble_eq_true rfl⟩, by show 138 + 8 * j + 8 ≤ 600000; omega, by show 17299 + 4700 * j + 4700 ≤ 7302250; omega⟩ (Nat.le_of_ble_eq_true rfl) rfl ?_
  show Ex G mL_law rmL Q (138 + 8 * j + 8, 17299 + 4700 * j + 4700) X1 I1 L1 881 [(0, .ref b), (1, .ref (gB G + 0)), (2, .ref (gB G + 99)), (3, .int (nI (6 * j)))] [.int r]
  refine ex_aload_n 2 (pc' := 882) dL_law_881 rfl rfl rfl ?_
  refine ex_aload_n 0 (pc' := 883) dL_law_882 rfl rfl rfl ?_
  refine ex_iload_n 3 (pc' := 884) dL_law_883 rfl rfl rfl ?_
  refine ex_iconst (v := 1) (pc' := 885) dL_law_884 ic_1 rfl ?_
  refine ex_iadd (pc' := 886) dL_law_885 rfl ?_
  refine ex_sald hs (pc' := 887) dL_law_886 hi1 rfl ?_
  refine ex_aload_n 0 (pc' := 888) dL_law_887 rfl rfl rfl ?_
  refine ex_iload_n 3 (pc' := 889) dL_law_888 rfl rfl rfl ?_
  refine ex_iconst (v := 2) (pc' := 890) dL_law_889 ic_2 rfl ?_
  refine ex_iadd (pc' := 891) dL_law_890 rfl ?_
  refine ex_sald hs (pc' := 892) dL_law_891 hi2 rfl ?_
  refine ex_callV_i (rm' := rmX11_of) (st := [.int r]) (pc' := 895) [.int (xs (Int32.toNatClampNeg (nI (6 * j) + 1))), .int (xs (Int32.toNatClampNeg (nI (6 * j) + 2)))] dL_law_892 cl_L_102 (k_X11_of G hO1 h2) rfl (sh11_k hO1) ⟨_, _, rfl⟩ rfl rfl ⟨⟨Nat.le_of_ble_eq_true rfl, Nat.le_of_ble_eq_true rfl⟩, by show 138 + 8 * j + 8 + 0 ≤ 600000; omega, by show 17299 + 4700 * j + 4700 + 0 ≤ 7302250; omega⟩ (Nat.le_of_ble_eq_true rfl) rfl rfl ?_
  refine ex_icmpeq (tgt := 1889) (pc' := 898) dL_law_895 (by decide) rfl (fun _ => ?_) (fun h => absurd rfl h)
  exact law_tail (c := 138 + 8 * j + 8) (t := 17299 + 4700 * j + 4700) (by omega) (by omega) (hN _ _ _ hI2)
set_option maxRecDepth 100000 in
set_option maxHeartbeats 4000000 in
theorem law_c21 {G : GX} {Q : State → Prop} {b Ln j N : Nat} {xs : Nat → Int32} {Inv : MX → MI → ML → Prop} (hs : ScrOk G b Ln xs) (hj : j ≤ 512) (hSh : ∀ X I L, Inv X I L → shX10 X ∧ shX11 X) (hT : S_count N Inv) (hi1 : vp_in (nI (6 * j) + 1) Ln) (hi2 : vp_in (nI (6 * j) + 2) Ln) {X : MX} {I : MI} {L : ML} (hI : Inv X I L) (hN : ∀ X I L, Inv X I L → Ex G mL_law rmL Q (138 + 8 * (j + 1), 17299 + 4700 * (j + 1)) X I L 18 [(0, .ref b), (1, .ref (gB G + 0)), (2, .ref (gB G + 99)), (3, .int (nI (6 * (j + 1))))] []) : Ex G mL_law rmL Q (138 + 8 * j, 17299 + 4700 * j) X I L 900 [(0, .ref b), (1, .ref (gB G + 0)), (2, .ref (gB G + 99)), (3, .int (nI (6 * j)))] [] := by
  obtain ⟨hM, hO⟩ := hSh _ _ _ hI
  obtain ⟨r, I1, I2, h1, h2, hI2⟩ := hT _ _ _ ((xs (Int32.toNatClampNeg (nI (6 * j) + 1)))) ((xs (Int32.toNatClampNeg (nI (6 * j) + 2)))) hI
  refine ex_aload_n 1 (pc' := 901) dL_law_900 rfl rfl rfl ?_
  refine ex_aload_n 0 (pc' := 902) dL_law_901 rfl rfl rfl ?_
  refine ex_iload_n 3 (pc' := 903) dL_law_902 rfl rfl rfl ?_
  refine ex_iconst (v := 1) (pc' := 904) dL_law_903 ic_1 rfl ?_
  refine ex_iadd (pc' := 905) dL_law_904 rfl ?_
  refine ex_sald hs (pc' := 906) dL_law_905 hi1 rfl ?_
  refine ex_aload_n 0 (pc' := 907) dL_law_906 rfl rfl rfl ?_
  refine ex_iload_n 3 (pc' := 908) dL_law_907 rfl rfl rfl ?_
  refine ex_iconst (v := 2) (pc' := 909) dL_law_908 ic_2 rfl ?_
  refine ex_iadd (pc' := 910) dL_law_909 rfl ?_
  refine ex_sald hs (pc' := 911) dL_law_910 hi2 rfl ?_
  refine ex_callV_i (rm' := rmX10_count) (st := []) (pc' := 914) [.int (xs (Int32.toNatClampNeg (nI (6 * j) + 1))), .int (xs (Int32.toNatClampNeg (nI (6 * j) + 2)))] dL_law_911 cl_L_103 (k_X10_count G hM h1) rfl (sh10_k hM) ⟨_, _, rfl⟩ rfl rfl ⟨⟨Nat.le_of_ble_eq_true rfl, Nat.le_of_ble_eq_true rfl⟩, by show 138 + 8 * j + 0 ≤ 600000; omega, by show 17299 + 4700 * j + 0 ≤ 7302250; omega⟩ (Nat.le_of_ble_eq_true rfl) rfl rfl ?_
  refine ex_aload_n 2 (pc' := 915) dL_law_914 rfl rfl rfl ?_
  refine ex_aload_n 0 (pc' := 916) dL_law_915 rfl rfl rfl ?_
  refine ex_iload_n 3 (pc' := 917) dL_law_916 rfl rfl rfl ?_
  refine ex_iconst (v := 1) (pc' := 918) dL_law_917 ic_1 rfl ?_
  refine ex_iadd (pc' := 919) dL_law_918 rfl ?_
  refine ex_sald hs (pc' := 920) dL_law_919 hi1 rfl ?_
  refine ex_aload_n 0 (pc' := 921) dL_law_920 rfl rfl rfl ?_
  refine ex_iload_n 3 (pc' := 922) dL_law_921 rfl rfl rfl ?_
  refine ex_iconst (v := 2) (pc' := 923) dL_law_922 ic_2 rfl ?_
  refine ex_iadd (pc' := 924) dL_law_923 rfl ?_
  refine ex_sald hs (pc' := 925) dL_law_924 hi2 rfl ?_
  refine ex_callV_i (rm' := rmX11_count) (st := [.int r]) (pc' := 928) [.int (xs (Int32.toNatClampNeg (nI (6 * j) + 1))), .int (xs (Int32.toNatClampNeg (nI (6 * j) + 2)))] dL_law_925 cl_L_106 (k_X11_count G hO h2) rfl (sh11_k hO) ⟨_, _, rfl⟩ rfl rfl ⟨⟨Nat.le_of_ble_eq_true rfl, Nat.le_of_ble_eq_true rfl⟩, by show 138 + 8 * j + 0 ≤ 600000; omega, by show 17299 + 4700 * j + 0 ≤ 7302250; omega⟩ (Nat.le_of_ble_eq_true rfl) rfl rfl ?_
  refine ex_icmpeq (tgt := 1889) (pc' := 931) dL_law_928 (by decide) rfl (fun _ => ?_) (fun h => absurd rfl h)
  exact law_tail (c := 138 + 8 * j) (t := 17299 + 4700 * j) (by omega) (by omega) (hN _ _ _ hI2)
set_option maxRecDepth 100000 in
set_option maxHeartbeats 4000000 in
theorem law_c22 {G : GX} {Q : State → Prop} {b Ln j N : Nat} {xs : Nat → Int32} {Inv : MX → MI → ML → Prop} (hs : ScrOk G b Ln xs) (hj : j ≤ 512) (hSh : ∀ X I L, Inv X I L → shX10 X ∧ shX11 X) (hT : S_hits N Inv) (hi1 : vp_in (nI (6 * j) + 1) Ln) (hi2 : vp_in (nI (6 * j) + 2) Ln) {X : MX} {I : MI} {L : ML} (hI : Inv X I L) (hN : ∀ X I L, Inv X I L → Ex G mL_law rmL Q (138 + 8 * (j + 1), 17299 + 4700 * (j + 1)) X I L 18 [(0, .ref b), (1, .ref (gB G + 0)), (2, .ref (gB G + 99)), (3, .int (nI (6 * (j + 1))))] []) : Ex G mL_law rmL Q (138 + 8 * j, 17299 + 4700 * j) X I L 933 [(0, .ref b), (1, .ref (gB G + 0)), (2, .ref (gB G + 99)), (3, .int (nI (6 * j)))] [] := by
  obtain ⟨hM, hO⟩ := hSh _ _ _ hI
  obtain ⟨r, I1, I2, h1, h2, hI2⟩ := hT _ _ _ ((xs (Int32.toNatClampNeg (nI (6 * j) + 1)))) ((xs (Int32.toNatClampNeg (nI (6 * j) + 2)))) hI
  refine ex_aload_n 1 (pc' := 934) dL_law_933 rfl rfl rfl ?_
  refine ex_aload_n 0 (pc' := 935) dL_law_934 rfl rfl rfl ?_
  refine ex_iload_n 3 (pc' := 936) dL_law_935 rfl rfl rfl ?_
  refine ex_iconst (v := 1) (pc' := 937) dL_law_936 ic_1 rfl ?_
  refine ex_iadd (pc' := 938) dL_law_937 rfl ?_
  refine ex_sald hs (pc' := 939) dL_law_938 hi1 rfl ?_
  refine ex_aload_n 0 (pc' := 940) dL_law_939 rfl rfl rfl ?_
  refine ex_iload_n 3 (pc' := 941) dL_law_940 rfl rfl rfl ?_
  refine ex_iconst (v := 2) (pc' := 942) dL_law_941 ic_2 rfl ?_
  refine ex_iadd (pc' := 943) dL_law_942 rfl ?_
  refine ex_sald hs (pc' := 944) dL_law_943 hi2 rfl ?_
  refine ex_callV_i (rm' := rmX10_hits) (st := []) (pc' := 947) [.int (xs (Int32.toNatClampNeg (nI (6 * j) + 1))), .int (xs (Int32.toNatClampNeg (nI (6 * j) + 2)))] dL_law_944 cl_L_107 (k_X10_hits G hM h1) rfl (sh10_k hM) ⟨_, _, rfl⟩ rfl rfl ⟨⟨Nat.le_of_ble_eq_true rfl, Nat.le_of_ble_eq_true rfl⟩, by show 138 + 8 * j + 0 ≤ 600000; omega, by show 17299 + 4700 * j + 0 ≤ 7302250; omega⟩ (Nat.le_of_ble_eq_true rfl) rfl rfl ?_
  refine ex_aload_n 2 (pc' := 948) dL_law_947 rfl rfl rfl ?_
  refine ex_aload_n 0 (pc' := 949) dL_law_948 rfl rfl rfl ?_
  refine ex_iload_n 3 (pc' := 950) dL_law_949 rfl rfl rfl ?_
  refine ex_iconst (v := 1) (pc' := 951) dL_law_950 ic_1 rfl ?_
  refine ex_iadd (pc' := 952) dL_law_951 rfl ?_
  refine ex_sald hs (pc' := 953) dL_law_952 hi1 rfl ?_
  refine ex_aload_n 0 (pc' := 954) dL_law_953 rfl rfl rfl ?_
  refine ex_iload_n 3 (pc' := 955) dL_law_954 rfl rfl rfl ?_
  refine ex_iconst (v := 2) (pc' := 956) dL_law_955 ic_2 rfl ?_
  refine ex_iadd (pc' := 957) dL_law_956 rfl ?_
  refine ex_sald hs (pc' := 958) dL_law_957 hi2 rfl ?_
  refine ex_callV_i (rm' := rmX11_hits) (st := [.int r]) (pc' := 961) [.int (xs (Int32.toNatClampNeg (nI (6 * j) + 1))), .int (xs (Int32.toNatClampNeg (nI (6 * j) + 2)))] dL_law_958 cl_L_110 (k_X11_hits G hO h2) rfl (sh11_k hO) ⟨_, _, rfl⟩ rfl rfl ⟨⟨Nat.le_of_ble_eq_true rfl, Nat.le_of_ble_eq_true rfl⟩, by show 138 + 8 * j + 0 ≤ 600000; omega, by show 17299 + 4700 * j + 0 ≤ 7302250; omega⟩ (Nat.le_of_ble_eq_true rfl) rfl rfl ?_
  refine ex_icmpeq (tgt := 1889) (pc' := 964) dL_law_961 (by decide) rfl (fun _ => ?_) (fun h => absurd rfl h)
  exact law_tail (c := 138 + 8 * j) (t := 17299 + 4700 * j) (by omega) (by omega) (hN _ _ _ hI2)
set_option maxRecDepth 100000 in
set_option maxHeartbeats 4000000 in
theorem law_c23 {G : GX} {Q : State → Prop} {b Ln j N : Nat} {xs : Nat → Int32} {Inv : MX → MI → ML → Prop} (hs : ScrOk G b Ln xs) (hj : j ≤ 512) (hSh : ∀ X I L, Inv X I L → shX10 X ∧ shX11 X) (hT : S_factored N Inv) (hi1 : vp_in (nI (6 * j) + 1) Ln) (hi2 : vp_in (nI (6 * j) + 2) Ln) {X : MX} {I : MI} {L : ML} (hI : Inv X I L) (hN : ∀ X I L, Inv X I L → Ex G mL_law rmL Q (138 + 8 * (j + 1), 17299 + 4700 * (j + 1)) X I L 18 [(0, .ref b), (1, .ref (gB G + 0)), (2, .ref (gB G + 99)), (3, .int (nI (6 * (j + 1))))] []) : Ex G mL_law rmL Q (138 + 8 * j, 17299 + 4700 * j) X I L 966 [(0, .ref b), (1, .ref (gB G + 0)), (2, .ref (gB G + 99)), (3, .int (nI (6 * j)))] [] := by
  obtain ⟨hM, hO⟩ := hSh _ _ _ hI
  obtain ⟨r, I1, I2, h1, h2, hI2⟩ := hT _ _ _ ((xs (Int32.toNatClampNeg (nI (6 * j) + 1)))) ((xs (Int32.toNatClampNeg (nI (6 * j) + 2)))) hI
  refine ex_aload_n 1 (pc' := 967) dL_law_966 rfl rfl rfl ?_
  refine ex_aload_n 0 (pc' := 968) dL_law_967 rfl rfl rfl ?_
  refine ex_iload_n 3 (pc' := 969) dL_law_968 rfl rfl rfl ?_
  refine ex_iconst (v := 1) (pc' := 970) dL_law_969 ic_1 rfl ?_
  refine ex_iadd (pc' := 971) dL_law_970 rfl ?_
  refine ex_sald hs (pc' := 972) dL_law_971 hi1 rfl ?_
  refine ex_aload_n 0 (pc' := 973) dL_law_972 rfl rfl rfl ?_
  refine ex_iload_n 3 (pc' := 974) dL_law_973 rfl rfl rfl ?_
  refine ex_iconst (v := 2) (pc' := 975) dL_law_974 ic_2 rfl ?_
  refine ex_iadd (pc' := 976) dL_law_975 rfl ?_
  refine ex_sald hs (pc' := 977) dL_law_976 hi2 rfl ?_
  refine ex_callV_l (rm' := rmX10_factored) (st := []) (pc' := 980) [.int (xs (Int32.toNatClampNeg (nI (6 * j) + 1))), .int (xs (Int32.toNatClampNeg (nI (6 * j) + 2)))] dL_law_977 cl_L_111 (k_X10_factored G hM h1) rfl (sh10_k hM) ⟨_, _, rfl⟩ rfl rfl ⟨⟨Nat.le_of_ble_eq_true rfl, Nat.le_of_ble_eq_true rfl⟩, by show 138 + 8 * j + 0 ≤ 600000; omega, by show 17299 + 4700 * j + 0 ≤ 7302250; omega⟩ (Nat.le_of_ble_eq_true rfl) rfl rfl ?_
  refine ex_aload_n 2 (pc' := 981) dL_law_980 rfl rfl rfl ?_
  refine ex_aload_n 0 (pc' := 982) dL_law_981 rfl rfl rfl ?_
  refine ex_iload_n 3 (pc' := 983) dL_law_982 rfl rfl rfl ?_
  refine ex_iconst (v := 1) (pc' := 984) dL_law_983 ic_1 rfl ?_
  refine ex_iadd (pc' := 985) dL_law_984 rfl ?_
  refine ex_sald hs (pc' := 986) dL_law_985 hi1 rfl ?_
  refine ex_aload_n 0 (pc' := 987) dL_law_986 rfl rfl rfl ?_
  refine ex_iload_n 3 (pc' := 988) dL_law_987 rfl rfl rfl ?_
  refine ex_iconst (v := 2) (pc' := 989) dL_law_988 ic_2 rfl ?_
  refine ex_iadd (pc' := 990) dL_law_989 rfl ?_
  refine ex_sald hs (pc' := 991) dL_law_990 hi2 rfl ?_
  refine ex_callV_l (rm' := rmX11_factored) (st := [.long r]) (pc' := 994) [.int (xs (Int32.toNatClampNeg (nI (6 * j) + 1))), .int (xs (Int32.toNatClampNeg (nI (6 * j) + 2)))] dL_law_991 cl_L_114 (k_X11_factored G hO h2) rfl (sh11_k hO) ⟨_, _, rfl⟩ rfl rfl ⟨⟨Nat.le_of_ble_eq_true rfl, Nat.le_of_ble_eq_true rfl⟩, by show 138 + 8 * j + 0 ≤ 600000; omega, by show 17299 + 4700 * j + 0 ≤ 7302250; omega⟩ (Nat.le_of_ble_eq_true rfl) rfl rfl ?_
  refine ex_lcmp (pc' := 995) dL_law_994 rfl ?_
  refine ex_lifeq (tgt := 1889) (pc' := 998) dL_law_995 (by decide) rfl (fun _ => ?_) (fun h => absurd rfl h)
  exact law_tail (c := 138 + 8 * j) (t := 17299 + 4700 * j) (by omega) (by omega) (hN _ _ _ hI2)
set_option maxRecDepth 100000 in
set_option maxHeartbeats 4000000 in
theorem law_c24 {G : GX} {Q : State → Prop} {b Ln j N : Nat} {xs : Nat → Int32} {Inv : MX → MI → ML → Prop} (hs : ScrOk G b Ln xs) (hj : j ≤ 512) (hSh : ∀ X I L, Inv X I L → shX10 X ∧ shX11 X) (hT : S_bySteps N Inv) (hi1 : vp_in (nI (6 * j) + 1) Ln) (hi2 : vp_in (nI (6 * j) + 2) Ln) {X : MX} {I : MI} {L : ML} (hI : Inv X I L) (hN : ∀ X I L, Inv X I L → Ex G mL_law rmL Q (138 + 8 * (j + 1), 17299 + 4700 * (j + 1)) X I L 18 [(0, .ref b), (1, .ref (gB G + 0)), (2, .ref (gB G + 99)), (3, .int (nI (6 * (j + 1))))] []) : Ex G mL_law rmL Q (138 + 8 * j, 17299 + 4700 * j) X I L 1000 [(0, .ref b), (1, .ref (gB G + 0)), (2, .ref (gB G + 99)), (3, .int (nI (6 * j)))] [] := by
  obtain ⟨hM, hO⟩ := hSh _ _ _ hI
  obtain ⟨r, h1, h2, hI2⟩ := hT _ _ _ ((xs (Int32.toNatClampNeg (nI (6 * j) + 1)))) ((xs (Int32.toNatClampNeg (nI (6 * j) + 2)))) hI
  refine ex_aload_n 1 (pc' := 1001) dL_law_1000 rfl rfl rfl ?_
  refine ex_aload_n 0 (pc' := 1002) dL_law_1001 rfl rfl rfl ?_
  refine ex_iload_n 3 (pc' := 1003) dL_law_1002 rfl rfl rfl ?_
  refine ex_iconst (v := 1) (pc' := 1004) dL_law_1003 ic_1 rfl ?_
  refine ex_iadd (pc' := 1005) dL_law_1004 rfl ?_
  refine ex_sald hs (pc' := 1006) dL_law_1005 hi1 rfl ?_
  refine ex_aload_n 0 (pc' := 1007) dL_law_1006 rfl rfl rfl ?_
  refine ex_iload_n 3 (pc' := 1008) dL_law_1007 rfl rfl rfl ?_
  refine ex_iconst (v := 2) (pc' := 1009) dL_law_1008 ic_2 rfl ?_
  refine ex_iadd (pc' := 1010) dL_law_1009 rfl ?_
  refine ex_sald hs (pc' := 1011) dL_law_1010 hi2 rfl ?_
  refine ex_callV_l (rm' := rmX10_bySteps) (st := []) (pc' := 1014) [.int (xs (Int32.toNatClampNeg (nI (6 * j) + 1))), .int (xs (Int32.toNatClampNeg (nI (6 * j) + 2)))] dL_law_1011 cl_L_115 (k_X10_bySteps G hM h1) rfl (sh10_k hM) ⟨_, _, rfl⟩ rfl rfl ⟨⟨Nat.le_of_ble_eq_true rfl, Nat.le_of_ble_eq_true rfl⟩, by show 138 + 8 * j + 0 ≤ 600000; omega, by show 17299 + 4700 * j + 0 ≤ 7302250; omega⟩ (Nat.le_of_ble_eq_true rfl) rfl rfl ?_
  refine ex_aload_n 2 (pc' := 1015) dL_law_1014 rfl rfl rfl ?_
  refine ex_aload_n 0 (pc' := 1016) dL_law_1015 rfl rfl rfl ?_
  refine ex_iload_n 3 (pc' := 1017) dL_law_1016 rfl rfl rfl ?_
  refine ex_iconst (v := 1) (pc' := 1018) dL_law_1017 ic_1 rfl ?_
  refine ex_iadd (pc' := 1019) dL_law_1018 rfl ?_
  refine ex_sald hs (pc' := 1020) dL_law_1019 hi1 rfl ?_
  refine ex_aload_n 0 (pc' := 1021) dL_law_1020 rfl rfl rfl ?_
  refine ex_iload_n 3 (pc' := 1022) dL_law_1021 rfl rfl rfl ?_
  refine ex_iconst (v := 2) (pc' := 1023) dL_law_1022 ic_2 rfl ?_
  refine ex_iadd (pc' := 1024) dL_law_1023 rfl ?_
  refine ex_sald hs (pc' := 1025) dL_law_1024 hi2 rfl ?_
  refine ex_callV_l (rm' := rmX11_bySteps) (st := [.long r]) (pc' := 1028) [.int (xs (Int32.toNatClampNeg (nI (6 * j) + 1))), .int (xs (Int32.toNatClampNeg (nI (6 * j) + 2)))] dL_law_1025 cl_L_118 (k_X11_bySteps G hO h2) rfl (sh11_k hO) ⟨_, _, rfl⟩ rfl rfl ⟨⟨Nat.le_of_ble_eq_true rfl, Nat.le_of_ble_eq_true rfl⟩, by show 138 + 8 * j + 0 ≤ 600000; omega, by show 17299 + 4700 * j + 0 ≤ 7302250; omega⟩ (Nat.le_of_ble_eq_true rfl) rfl rfl ?_
  refine ex_lcmp (pc' := 1029) dL_law_1028 rfl ?_
  refine ex_lifeq (tgt := 1889) (pc' := 1032) dL_law_1029 (by decide) rfl (fun _ => ?_) (fun h => absurd rfl h)
  exact law_tail (c := 138 + 8 * j) (t := 17299 + 4700 * j) (by omega) (by omega) (hN _ _ _ hI2)
set_option maxRecDepth 100000 in
set_option maxHeartbeats 4000000 in
theorem law_c25 {G : GX} {Q : State → Prop} {b Ln j N : Nat} {xs : Nat → Int32} {Inv : MX → MI → ML → Prop} (hs : ScrOk G b Ln xs) (hj : j ≤ 512) (hSh : ∀ X I L, Inv X I L → shX10 X ∧ shX11 X) (hT : S_all N Inv) (hi1 : vp_in (nI (6 * j) + 1) Ln) (hi2 : vp_in (nI (6 * j) + 2) Ln) (hi3 : vp_in (nI (6 * j) + 3) Ln) {X : MX} {I : MI} {L : ML} (hI : Inv X I L) (hN : ∀ X I L, Inv X I L → Ex G mL_law rmL Q (138 + 8 * (j + 1), 17299 + 4700 * (j + 1)) X I L 18 [(0, .ref b), (1, .ref (gB G + 0)), (2, .ref (gB G + 99)), (3, .int (nI (6 * (j + 1))))] []) : Ex G mL_law rmL Q (138 + 8 * j, 17299 + 4700 * j) X I L 1034 [(0, .ref b), (1, .ref (gB G + 0)), (2, .ref (gB G + 99)), (3, .int (nI (6 * j)))] [] := by
  obtain ⟨hM, hO⟩ := hSh _ _ _ hI
  obtain ⟨r, X1, I1, L1, I2, h1, h2, hI2⟩ := hT _ _ _ ((xs (Int32.toNatClampNeg (nI (6 * j) + 1)))) ((xs (Int32.toNatClampNeg (nI (6 * j) + 2)))) ((xs (Int32.toNatClampNeg (nI (6 * j) + 3)))) hI
  have hO1 : shX11 X1 := (hSh _ _ _ hI2).2
  refine ex_aload_n 1 (pc' := 1035) dL_law_1034 rfl rfl rfl ?_
  refine ex_aload_n 0 (pc' := 1036) dL_law_1035 rfl rfl rfl ?_
  refine ex_iload_n 3 (pc' := 1037) dL_law_1036 rfl rfl rfl ?_
  refine ex_iconst (v := 1) (pc' := 1038) dL_law_1037 ic_1 rfl ?_
  refine ex_iadd (pc' := 1039) dL_law_1038 rfl ?_
  refine ex_sald hs (pc' := 1040) dL_law_1039 hi1 rfl ?_
  refine ex_aload_n 0 (pc' := 1041) dL_law_1040 rfl rfl rfl ?_
  refine ex_iload_n 3 (pc' := 1042) dL_law_1041 rfl rfl rfl ?_
  refine ex_iconst (v := 2) (pc' := 1043) dL_law_1042 ic_2 rfl ?_
  refine ex_iadd (pc' := 1044) dL_law_1043 rfl ?_
  refine ex_sald hs (pc' := 1045) dL_law_1044 hi2 rfl ?_
  refine ex_aload_n 0 (pc' := 1046) dL_law_1045 rfl rfl rfl ?_
  refine ex_iload_n 3 (pc' := 1047) dL_law_1046 rfl rfl rfl ?_
  refine ex_iconst (v := 3) (pc' := 1048) dL_law_1047 ic_3 rfl ?_
  refine ex_iadd (pc' := 1049) dL_law_1048 rfl ?_
  refine ex_sald hs (pc' := 1050) dL_law_1049 hi3 rfl ?_
  refine ex_callV (rm' := rmX10_all) (st := []) (pc' := 1053) [.int (xs (Int32.toNatClampNeg (nI (6 * j) + 1))), .int (xs (Int32.toNatClampNeg (nI (6 * j) + 2))), .int (xs (Int32.toNatClampNeg (nI (6 * j) + 3)))] dL_law_1050 cl_L_119 (k_X10_all G hM h1) rfl (sh10_k hM) ⟨_, _, rfl⟩ rfl rfl ⟨⟨Nat.le_of_ble_eq_true rfl, Nat.le_of_ble_eq_true rfl⟩, by show 138 + 8 * j + 8 ≤ 600000; omega, by show 17299 + 4700 * j + 4700 ≤ 7302250; omega⟩ (Nat.le_of_ble_eq_true rfl) rfl ?_
  show Ex G mL_law rmL Q (138 + 8 * j + 8, 17299 + 4700 * j + 4700) X1 I1 L1 1053 [(0, .ref b), (1, .ref (gB G + 0)), (2, .ref (gB G + 99)), (3, .int (nI (6 * j)))] [.int r]
  refine ex_aload_n 2 (pc' := 1054) dL_law_1053 rfl rfl rfl ?_
  refine ex_aload_n 0 (pc' := 1055) dL_law_1054 rfl rfl rfl ?_
  refine ex_iload_n 3 (pc' := 1056) dL_law_1055 rfl rfl rfl ?_
  refine ex_iconst (v := 1) (pc' := 1057) dL_law_1056 ic_1 rfl ?_
  refine ex_iadd (pc' := 1058) dL_law_1057 rfl ?_
  refine ex_sald hs (pc' := 1059) dL_law_1058 hi1 rfl ?_
  refine ex_aload_n 0 (pc' := 1060) dL_law_1059 rfl rfl rfl ?_
  refine ex_iload_n 3 (pc' := 1061) dL_law_1060 rfl rfl rfl ?_
  refine ex_iconst (v := 2) (pc' := 1062) dL_law_1061 ic_2 rfl ?_
  refine ex_iadd (pc' := 1063) dL_law_1062 rfl ?_
  refine ex_sald hs (pc' := 1064) dL_law_1063 hi2 rfl ?_
  refine ex_aload_n 0 (pc' := 1065) dL_law_1064 rfl rfl rfl ?_
  refine ex_iload_n 3 (pc' := 1066) dL_law_1065 rfl rfl rfl ?_
  refine ex_iconst (v := 3) (pc' := 1067) dL_law_1066 ic_3 rfl ?_
  refine ex_iadd (pc' := 1068) dL_law_1067 rfl ?_
  refine ex_sald hs (pc' := 1069) dL_law_1068 hi3 rfl ?_
  refine ex_callV_i (rm' := rmX11_all) (st := [.int r]) (pc' := 1072) [.int (xs (Int32.toNatClampNeg (nI (6 * j) + 1))), .int (xs (Int32.toNatClampNeg (nI (6 * j) + 2))), .int (xs (Int32.toNatClampNeg (nI (6 * j) + 3)))] dL_law_1069 cl_L_122 (k_X11_all G hO1 h2) rfl (sh11_k hO1) ⟨_, _, rfl⟩ rfl rfl ⟨⟨Nat.le_of_ble_eq_true rfl, Nat.le_of_ble_eq_true rfl⟩, by show 138 + 8 * j + 8 + 0 ≤ 600000; omega, by show 17299 + 4700 * j + 4700 + 0 ≤ 7302250; omega⟩ (Nat.le_of_ble_eq_true rfl) rfl rfl ?_
  refine ex_icmpeq (tgt := 1889) (pc' := 1075) dL_law_1072 (by decide) rfl (fun _ => ?_) (fun h => absurd rfl h)
  exact law_tail (c := 138 + 8 * j + 8) (t := 17299 + 4700 * j + 4700) (by omega) (by omega) (hN _ _ _ hI2)
set_option maxRecDepth 100000 in
set_option maxHeartbeats 4000000 in
theorem law_c26 {G : GX} {Q : State → Prop} {b Ln j N : Nat} {xs : Nat → Int32} {Inv : MX → MI → ML → Prop} (hs : ScrOk G b Ln xs) (hj : j ≤ 512) (hSh : ∀ X I L, Inv X I L → shX10 X ∧ shX11 X) (hT : S_like N Inv) (hi1 : vp_in (nI (6 * j) + 1) Ln) (hi2 : vp_in (nI (6 * j) + 2) Ln) {X : MX} {I : MI} {L : ML} (hI : Inv X I L) (hN : ∀ X I L, Inv X I L → Ex G mL_law rmL Q (138 + 8 * (j + 1), 17299 + 4700 * (j + 1)) X I L 18 [(0, .ref b), (1, .ref (gB G + 0)), (2, .ref (gB G + 99)), (3, .int (nI (6 * (j + 1))))] []) : Ex G mL_law rmL Q (138 + 8 * j, 17299 + 4700 * j) X I L 1077 [(0, .ref b), (1, .ref (gB G + 0)), (2, .ref (gB G + 99)), (3, .int (nI (6 * j)))] [] := by
  obtain ⟨hM, hO⟩ := hSh _ _ _ hI
  obtain ⟨r, X1, I1, L1, I2, h1, h2, hI2⟩ := hT _ _ _ ((xs (Int32.toNatClampNeg (nI (6 * j) + 1)))) ((xs (Int32.toNatClampNeg (nI (6 * j) + 2)))) hI
  have hO1 : shX11 X1 := (hSh _ _ _ hI2).2
  refine ex_aload_n 1 (pc' := 1078) dL_law_1077 rfl rfl rfl ?_
  refine ex_aload_n 0 (pc' := 1079) dL_law_1078 rfl rfl rfl ?_
  refine ex_iload_n 3 (pc' := 1080) dL_law_1079 rfl rfl rfl ?_
  refine ex_iconst (v := 1) (pc' := 1081) dL_law_1080 ic_1 rfl ?_
  refine ex_iadd (pc' := 1082) dL_law_1081 rfl ?_
  refine ex_sald hs (pc' := 1083) dL_law_1082 hi1 rfl ?_
  refine ex_aload_n 0 (pc' := 1084) dL_law_1083 rfl rfl rfl ?_
  refine ex_iload_n 3 (pc' := 1085) dL_law_1084 rfl rfl rfl ?_
  refine ex_iconst (v := 2) (pc' := 1086) dL_law_1085 ic_2 rfl ?_
  refine ex_iadd (pc' := 1087) dL_law_1086 rfl ?_
  refine ex_sald hs (pc' := 1088) dL_law_1087 hi2 rfl ?_
  refine ex_callV (rm' := rmX10_like) (st := []) (pc' := 1091) [.int (xs (Int32.toNatClampNeg (nI (6 * j) + 1))), .int (xs (Int32.toNatClampNeg (nI (6 * j) + 2)))] dL_law_1088 cl_L_123 (k_X10_like G hM h1) rfl (sh10_k hM) ⟨_, _, rfl⟩ rfl rfl ⟨⟨Nat.le_of_ble_eq_true rfl, Nat.le_of_ble_eq_true rfl⟩, by show 138 + 8 * j + 8 ≤ 600000; omega, by show 17299 + 4700 * j + 4700 ≤ 7302250; omega⟩ (Nat.le_of_ble_eq_true rfl) rfl ?_
  show Ex G mL_law rmL Q (138 + 8 * j + 8, 17299 + 4700 * j + 4700) X1 I1 L1 1091 [(0, .ref b), (1, .ref (gB G + 0)), (2, .ref (gB G + 99)), (3, .int (nI (6 * j)))] [.int r]
  refine ex_aload_n 2 (pc' := 1092) dL_law_1091 rfl rfl rfl ?_
  refine ex_aload_n 0 (pc' := 1093) dL_law_1092 rfl rfl rfl ?_
  refine ex_iload_n 3 (pc' := 1094) dL_law_1093 rfl rfl rfl ?_
  refine ex_iconst (v := 1) (pc' := 1095) dL_law_1094 ic_1 rfl ?_
  refine ex_iadd (pc' := 1096) dL_law_1095 rfl ?_
  refine ex_sald hs (pc' := 1097) dL_law_1096 hi1 rfl ?_
  refine ex_aload_n 0 (pc' := 1098) dL_law_1097 rfl rfl rfl ?_
  refine ex_iload_n 3 (pc' := 1099) dL_law_1098 rfl rfl rfl ?_
  refine ex_iconst (v := 2) (pc' := 1100) dL_law_1099 ic_2 rfl ?_
  refine ex_iadd (pc' := 1101) dL_law_1100 rfl ?_
  refine ex_sald hs (pc' := 1102) dL_law_1101 hi2 rfl ?_
  refine ex_callV_i (rm' := rmX11_like) (st := [.int r]) (pc' := 1105) [.int (xs (Int32.toNatClampNeg (nI (6 * j) + 1))), .int (xs (Int32.toNatClampNeg (nI (6 * j) + 2)))] dL_law_1102 cl_L_126 (k_X11_like G hO1 h2) rfl (sh11_k hO1) ⟨_, _, rfl⟩ rfl rfl ⟨⟨Nat.le_of_ble_eq_true rfl, Nat.le_of_ble_eq_true rfl⟩, by show 138 + 8 * j + 8 + 0 ≤ 600000; omega, by show 17299 + 4700 * j + 4700 + 0 ≤ 7302250; omega⟩ (Nat.le_of_ble_eq_true rfl) rfl rfl ?_
  refine ex_icmpeq (tgt := 1889) (pc' := 1108) dL_law_1105 (by decide) rfl (fun _ => ?_) (fun h => absurd rfl h)
  exact law_tail (c := 138 + 8 * j + 8) (t := 17299 + 4700 * j + 4700) (by omega) (by omega) (hN _ _ _ hI2)
set_option maxRecDepth 100000 in
set_option maxHeartbeats 4000000 in
theorem law_c27 {G : GX} {Q : State → Prop} {b Ln j N : Nat} {xs : Nat → Int32} {Inv : MX → MI → ML → Prop} (hs : ScrOk G b Ln xs) (hj : j ≤ 512) (hSh : ∀ X I L, Inv X I L → shX10 X ∧ shX11 X) (hT : S_classes N Inv) (hi1 : vp_in (nI (6 * j) + 1) Ln) (hi2 : vp_in (nI (6 * j) + 2) Ln) (hi3 : vp_in (nI (6 * j) + 3) Ln) {X : MX} {I : MI} {L : ML} (hI : Inv X I L) (hN : ∀ X I L, Inv X I L → Ex G mL_law rmL Q (138 + 8 * (j + 1), 17299 + 4700 * (j + 1)) X I L 18 [(0, .ref b), (1, .ref (gB G + 0)), (2, .ref (gB G + 99)), (3, .int (nI (6 * (j + 1))))] []) : Ex G mL_law rmL Q (138 + 8 * j, 17299 + 4700 * j) X I L 1110 [(0, .ref b), (1, .ref (gB G + 0)), (2, .ref (gB G + 99)), (3, .int (nI (6 * j)))] [] := by
  obtain ⟨hM, hO⟩ := hSh _ _ _ hI
  obtain ⟨r, X1, I1, L1, I2, h1, h2, hI2⟩ := hT _ _ _ ((xs (Int32.toNatClampNeg (nI (6 * j) + 1)))) ((xs (Int32.toNatClampNeg (nI (6 * j) + 2)))) ((xs (Int32.toNatClampNeg (nI (6 * j) + 3)))) hI
  have hO1 : shX11 X1 := (hSh _ _ _ hI2).2
  refine ex_aload_n 1 (pc' := 1111) dL_law_1110 rfl rfl rfl ?_
  refine ex_aload_n 0 (pc' := 1112) dL_law_1111 rfl rfl rfl ?_
  refine ex_iload_n 3 (pc' := 1113) dL_law_1112 rfl rfl rfl ?_
  refine ex_iconst (v := 1) (pc' := 1114) dL_law_1113 ic_1 rfl ?_
  refine ex_iadd (pc' := 1115) dL_law_1114 rfl ?_
  refine ex_sald hs (pc' := 1116) dL_law_1115 hi1 rfl ?_
  refine ex_aload_n 0 (pc' := 1117) dL_law_1116 rfl rfl rfl ?_
  refine ex_iload_n 3 (pc' := 1118) dL_law_1117 rfl rfl rfl ?_
  refine ex_iconst (v := 2) (pc' := 1119) dL_law_1118 ic_2 rfl ?_
  refine ex_iadd (pc' := 1120) dL_law_1119 rfl ?_
  refine ex_sald hs (pc' := 1121) dL_law_1120 hi2 rfl ?_
  refine ex_aload_n 0 (pc' := 1122) dL_law_1121 rfl rfl rfl ?_
  refine ex_iload_n 3 (pc' := 1123) dL_law_1122 rfl rfl rfl ?_
  refine ex_iconst (v := 3) (pc' := 1124) dL_law_1123 ic_3 rfl ?_
  refine ex_iadd (pc' := 1125) dL_law_1124 rfl ?_
  refine ex_sald hs (pc' := 1126) dL_law_1125 hi3 rfl ?_
  refine ex_callV (rm' := rmX10_classes) (st := []) (pc' := 1129) [.int (xs (Int32.toNatClampNeg (nI (6 * j) + 1))), .int (xs (Int32.toNatClampNeg (nI (6 * j) + 2))), .int (xs (Int32.toNatClampNeg (nI (6 * j) + 3)))] dL_law_1126 cl_L_127 (k_X10_classes G hM h1) rfl (sh10_k hM) ⟨_, _, rfl⟩ rfl rfl ⟨⟨Nat.le_of_ble_eq_true rfl, Nat.le_of_ble_eq_true rfl⟩, by show 138 + 8 * j + 8 ≤ 600000; omega, by show 17299 + 4700 * j + 4700 ≤ 7302250; omega⟩ (Nat.le_of_ble_eq_true rfl) rfl ?_
  show Ex G mL_law rmL Q (138 + 8 * j + 8, 17299 + 4700 * j + 4700) X1 I1 L1 1129 [(0, .ref b), (1, .ref (gB G + 0)), (2, .ref (gB G + 99)), (3, .int (nI (6 * j)))] [.int r]
  refine ex_aload_n 2 (pc' := 1130) dL_law_1129 rfl rfl rfl ?_
  refine ex_aload_n 0 (pc' := 1131) dL_law_1130 rfl rfl rfl ?_
  refine ex_iload_n 3 (pc' := 1132) dL_law_1131 rfl rfl rfl ?_
  refine ex_iconst (v := 1) (pc' := 1133) dL_law_1132 ic_1 rfl ?_
  refine ex_iadd (pc' := 1134) dL_law_1133 rfl ?_
  refine ex_sald hs (pc' := 1135) dL_law_1134 hi1 rfl ?_
  refine ex_aload_n 0 (pc' := 1136) dL_law_1135 rfl rfl rfl ?_
  refine ex_iload_n 3 (pc' := 1137) dL_law_1136 rfl rfl rfl ?_
  refine ex_iconst (v := 2) (pc' := 1138) dL_law_1137 ic_2 rfl ?_
  refine ex_iadd (pc' := 1139) dL_law_1138 rfl ?_
  refine ex_sald hs (pc' := 1140) dL_law_1139 hi2 rfl ?_
  refine ex_aload_n 0 (pc' := 1141) dL_law_1140 rfl rfl rfl ?_
  refine ex_iload_n 3 (pc' := 1142) dL_law_1141 rfl rfl rfl ?_
  refine ex_iconst (v := 3) (pc' := 1143) dL_law_1142 ic_3 rfl ?_
  refine ex_iadd (pc' := 1144) dL_law_1143 rfl ?_
  refine ex_sald hs (pc' := 1145) dL_law_1144 hi3 rfl ?_
  refine ex_callV_i (rm' := rmX11_classes) (st := [.int r]) (pc' := 1148) [.int (xs (Int32.toNatClampNeg (nI (6 * j) + 1))), .int (xs (Int32.toNatClampNeg (nI (6 * j) + 2))), .int (xs (Int32.toNatClampNeg (nI (6 * j) + 3)))] dL_law_1145 cl_L_130 (k_X11_classes G hO1 h2) rfl (sh11_k hO1) ⟨_, _, rfl⟩ rfl rfl ⟨⟨Nat.le_of_ble_eq_true rfl, Nat.le_of_ble_eq_true rfl⟩, by show 138 + 8 * j + 8 + 0 ≤ 600000; omega, by show 17299 + 4700 * j + 4700 + 0 ≤ 7302250; omega⟩ (Nat.le_of_ble_eq_true rfl) rfl rfl ?_
  refine ex_icmpeq (tgt := 1889) (pc' := 1151) dL_law_1148 (by decide) rfl (fun _ => ?_) (fun h => absurd rfl h)
  exact law_tail (c := 138 + 8 * j + 8) (t := 17299 + 4700 * j + 4700) (by omega) (by omega) (hN _ _ _ hI2)
set_option maxRecDepth 100000 in
set_option maxHeartbeats 4000000 in
theorem law_c28 {G : GX} {Q : State → Prop} {b Ln j N : Nat} {xs : Nat → Int32} {Inv : MX → MI → ML → Prop} (hs : ScrOk G b Ln xs) (hj : j ≤ 512) (hSh : ∀ X I L, Inv X I L → shX10 X ∧ shX11 X) (hT : S_see N Inv) (hi1 : vp_in (nI (6 * j) + 1) Ln) (hi2 : vp_in (nI (6 * j) + 2) Ln) {X : MX} {I : MI} {L : ML} (hI : Inv X I L) (hN : ∀ X I L, Inv X I L → Ex G mL_law rmL Q (138 + 8 * (j + 1), 17299 + 4700 * (j + 1)) X I L 18 [(0, .ref b), (1, .ref (gB G + 0)), (2, .ref (gB G + 99)), (3, .int (nI (6 * (j + 1))))] []) : Ex G mL_law rmL Q (138 + 8 * j, 17299 + 4700 * j) X I L 1153 [(0, .ref b), (1, .ref (gB G + 0)), (2, .ref (gB G + 99)), (3, .int (nI (6 * j)))] [] := by
  obtain ⟨hM, hO⟩ := hSh _ _ _ hI
  obtain ⟨r, I1, I2, h1, h2, hI2⟩ := hT _ _ _ ((xs (Int32.toNatClampNeg (nI (6 * j) + 1)))) ((xs (Int32.toNatClampNeg (nI (6 * j) + 2)))) hI
  refine ex_aload_n 1 (pc' := 1154) dL_law_1153 rfl rfl rfl ?_
  refine ex_aload_n 0 (pc' := 1155) dL_law_1154 rfl rfl rfl ?_
  refine ex_iload_n 3 (pc' := 1156) dL_law_1155 rfl rfl rfl ?_
  refine ex_iconst (v := 1) (pc' := 1157) dL_law_1156 ic_1 rfl ?_
  refine ex_iadd (pc' := 1158) dL_law_1157 rfl ?_
  refine ex_sald hs (pc' := 1159) dL_law_1158 hi1 rfl ?_
  refine ex_aload_n 0 (pc' := 1160) dL_law_1159 rfl rfl rfl ?_
  refine ex_iload_n 3 (pc' := 1161) dL_law_1160 rfl rfl rfl ?_
  refine ex_iconst (v := 2) (pc' := 1162) dL_law_1161 ic_2 rfl ?_
  refine ex_iadd (pc' := 1163) dL_law_1162 rfl ?_
  refine ex_sald hs (pc' := 1164) dL_law_1163 hi2 rfl ?_
  refine ex_callV_i (rm' := rmX10_see) (st := []) (pc' := 1167) [.int (xs (Int32.toNatClampNeg (nI (6 * j) + 1))), .int (xs (Int32.toNatClampNeg (nI (6 * j) + 2)))] dL_law_1164 cl_L_131 (k_X10_see G hM h1) rfl (sh10_k hM) ⟨_, _, rfl⟩ rfl rfl ⟨⟨Nat.le_of_ble_eq_true rfl, Nat.le_of_ble_eq_true rfl⟩, by show 138 + 8 * j + 0 ≤ 600000; omega, by show 17299 + 4700 * j + 0 ≤ 7302250; omega⟩ (Nat.le_of_ble_eq_true rfl) rfl rfl ?_
  refine ex_aload_n 2 (pc' := 1168) dL_law_1167 rfl rfl rfl ?_
  refine ex_aload_n 0 (pc' := 1169) dL_law_1168 rfl rfl rfl ?_
  refine ex_iload_n 3 (pc' := 1170) dL_law_1169 rfl rfl rfl ?_
  refine ex_iconst (v := 1) (pc' := 1171) dL_law_1170 ic_1 rfl ?_
  refine ex_iadd (pc' := 1172) dL_law_1171 rfl ?_
  refine ex_sald hs (pc' := 1173) dL_law_1172 hi1 rfl ?_
  refine ex_aload_n 0 (pc' := 1174) dL_law_1173 rfl rfl rfl ?_
  refine ex_iload_n 3 (pc' := 1175) dL_law_1174 rfl rfl rfl ?_
  refine ex_iconst (v := 2) (pc' := 1176) dL_law_1175 ic_2 rfl ?_
  refine ex_iadd (pc' := 1177) dL_law_1176 rfl ?_
  refine ex_sald hs (pc' := 1178) dL_law_1177 hi2 rfl ?_
  refine ex_callV_i (rm' := rmX11_see) (st := [.int r]) (pc' := 1181) [.int (xs (Int32.toNatClampNeg (nI (6 * j) + 1))), .int (xs (Int32.toNatClampNeg (nI (6 * j) + 2)))] dL_law_1178 cl_L_134 (k_X11_see G hO h2) rfl (sh11_k hO) ⟨_, _, rfl⟩ rfl rfl ⟨⟨Nat.le_of_ble_eq_true rfl, Nat.le_of_ble_eq_true rfl⟩, by show 138 + 8 * j + 0 ≤ 600000; omega, by show 17299 + 4700 * j + 0 ≤ 7302250; omega⟩ (Nat.le_of_ble_eq_true rfl) rfl rfl ?_
  refine ex_icmpeq (tgt := 1889) (pc' := 1184) dL_law_1181 (by decide) rfl (fun _ => ?_) (fun h => absurd rfl h)
  exact law_tail (c := 138 + 8 * j) (t := 17299 + 4700 * j) (by omega) (by omega) (hN _ _ _ hI2)
set_option maxRecDepth 100000 in
set_option maxHeartbeats 4000000 in
theorem law_c29 {G : GX} {Q : State → Prop} {b Ln j N : Nat} {xs : Nat → Int32} {Inv : MX → MI → ML → Prop} (hs : ScrOk G b Ln xs) (hj : j ≤ 512) (hSh : ∀ X I L, Inv X I L → shX10 X ∧ shX11 X) (hT : S_fits N Inv) (hi1 : vp_in (nI (6 * j) + 1) Ln) (hi2 : vp_in (nI (6 * j) + 2) Ln) {X : MX} {I : MI} {L : ML} (hI : Inv X I L) (hN : ∀ X I L, Inv X I L → Ex G mL_law rmL Q (138 + 8 * (j + 1), 17299 + 4700 * (j + 1)) X I L 18 [(0, .ref b), (1, .ref (gB G + 0)), (2, .ref (gB G + 99)), (3, .int (nI (6 * (j + 1))))] []) : Ex G mL_law rmL Q (138 + 8 * j, 17299 + 4700 * j) X I L 1186 [(0, .ref b), (1, .ref (gB G + 0)), (2, .ref (gB G + 99)), (3, .int (nI (6 * j)))] [] := by
  obtain ⟨hM, hO⟩ := hSh _ _ _ hI
  obtain ⟨r, X1, I1, L1, I2, h1, h2, hI2⟩ := hT _ _ _ ((xs (Int32.toNatClampNeg (nI (6 * j) + 1)))) ((xs (Int32.toNatClampNeg (nI (6 * j) + 2)))) hI
  have hO1 : shX11 X1 := (hSh _ _ _ hI2).2
  refine ex_aload_n 1 (pc' := 1187) dL_law_1186 rfl rfl rfl ?_
  refine ex_aload_n 0 (pc' := 1188) dL_law_1187 rfl rfl rfl ?_
  refine ex_iload_n 3 (pc' := 1189) dL_law_1188 rfl rfl rfl ?_
  refine ex_iconst (v := 1) (pc' := 1190) dL_law_1189 ic_1 rfl ?_
  refine ex_iadd (pc' := 1191) dL_law_1190 rfl ?_
  refine ex_sald hs (pc' := 1192) dL_law_1191 hi1 rfl ?_
  refine ex_aload_n 0 (pc' := 1193) dL_law_1192 rfl rfl rfl ?_
  refine ex_iload_n 3 (pc' := 1194) dL_law_1193 rfl rfl rfl ?_
  refine ex_iconst (v := 2) (pc' := 1195) dL_law_1194 ic_2 rfl ?_
  refine ex_iadd (pc' := 1196) dL_law_1195 rfl ?_
  refine ex_sald hs (pc' := 1197) dL_law_1196 hi2 rfl ?_
  refine ex_callV (rm' := rmX10_fits) (st := []) (pc' := 1200) [.int (xs (Int32.toNatClampNeg (nI (6 * j) + 1))), .int (xs (Int32.toNatClampNeg (nI (6 * j) + 2)))] dL_law_1197 cl_L_135 (k_X10_fits G hM h1) rfl (sh10_k hM) ⟨_, _, rfl⟩ rfl rfl ⟨⟨Nat.le_of_ble_eq_true rfl, Nat.le_of_ble_eq_true rfl⟩, by show 138 + 8 * j + 8 ≤ 600000; omega, by show 17299 + 4700 * j + 4700 ≤ 7302250; omega⟩ (Nat.le_of_ble_eq_true rfl) rfl ?_
  show Ex G mL_law rmL Q (138 + 8 * j + 8, 17299 + 4700 * j + 4700) X1 I1 L1 1200 [(0, .ref b), (1, .ref (gB G + 0)), (2, .ref (gB G + 99)), (3, .int (nI (6 * j)))] [.int r]
  refine ex_aload_n 2 (pc' := 1201) dL_law_1200 rfl rfl rfl ?_
  refine ex_aload_n 0 (pc' := 1202) dL_law_1201 rfl rfl rfl ?_
  refine ex_iload_n 3 (pc' := 1203) dL_law_1202 rfl rfl rfl ?_
  refine ex_iconst (v := 1) (pc' := 1204) dL_law_1203 ic_1 rfl ?_
  refine ex_iadd (pc' := 1205) dL_law_1204 rfl ?_
  refine ex_sald hs (pc' := 1206) dL_law_1205 hi1 rfl ?_
  refine ex_aload_n 0 (pc' := 1207) dL_law_1206 rfl rfl rfl ?_
  refine ex_iload_n 3 (pc' := 1208) dL_law_1207 rfl rfl rfl ?_
  refine ex_iconst (v := 2) (pc' := 1209) dL_law_1208 ic_2 rfl ?_
  refine ex_iadd (pc' := 1210) dL_law_1209 rfl ?_
  refine ex_sald hs (pc' := 1211) dL_law_1210 hi2 rfl ?_
  refine ex_callV_i (rm' := rmX11_fits) (st := [.int r]) (pc' := 1214) [.int (xs (Int32.toNatClampNeg (nI (6 * j) + 1))), .int (xs (Int32.toNatClampNeg (nI (6 * j) + 2)))] dL_law_1211 cl_L_138 (k_X11_fits G hO1 h2) rfl (sh11_k hO1) ⟨_, _, rfl⟩ rfl rfl ⟨⟨Nat.le_of_ble_eq_true rfl, Nat.le_of_ble_eq_true rfl⟩, by show 138 + 8 * j + 8 + 0 ≤ 600000; omega, by show 17299 + 4700 * j + 4700 + 0 ≤ 7302250; omega⟩ (Nat.le_of_ble_eq_true rfl) rfl rfl ?_
  refine ex_icmpeq (tgt := 1889) (pc' := 1217) dL_law_1214 (by decide) rfl (fun _ => ?_) (fun h => absurd rfl h)
  exact law_tail (c := 138 + 8 * j + 8) (t := 17299 + 4700 * j + 4700) (by omega) (by omega) (hN _ _ _ hI2)
set_option maxRecDepth 100000 in
set_option maxHeartbeats 4000000 in
theorem law_c30 {G : GX} {Q : State → Prop} {b Ln j N : Nat} {xs : Nat → Int32} {Inv : MX → MI → ML → Prop} (hs : ScrOk G b Ln xs) (hj : j ≤ 512) (hSh : ∀ X I L, Inv X I L → shX10 X ∧ shX11 X) (hT : S_weight N Inv) (hi1 : vp_in (nI (6 * j) + 1) Ln) (hi2 : vp_in (nI (6 * j) + 2) Ln) (hi3 : vp_in (nI (6 * j) + 3) Ln) {X : MX} {I : MI} {L : ML} (hI : Inv X I L) (hN : ∀ X I L, Inv X I L → Ex G mL_law rmL Q (138 + 8 * (j + 1), 17299 + 4700 * (j + 1)) X I L 18 [(0, .ref b), (1, .ref (gB G + 0)), (2, .ref (gB G + 99)), (3, .int (nI (6 * (j + 1))))] []) : Ex G mL_law rmL Q (138 + 8 * j, 17299 + 4700 * j) X I L 1219 [(0, .ref b), (1, .ref (gB G + 0)), (2, .ref (gB G + 99)), (3, .int (nI (6 * j)))] [] := by
  obtain ⟨hM, hO⟩ := hSh _ _ _ hI
  obtain ⟨r, I1, I2, h1, h2, hI2⟩ := hT _ _ _ ((xs (Int32.toNatClampNeg (nI (6 * j) + 1)))) ((xs (Int32.toNatClampNeg (nI (6 * j) + 2)))) ((xs (Int32.toNatClampNeg (nI (6 * j) + 3)))) hI
  refine ex_aload_n 1 (pc' := 1220) dL_law_1219 rfl rfl rfl ?_
  refine ex_aload_n 0 (pc' := 1221) dL_law_1220 rfl rfl rfl ?_
  refine ex_iload_n 3 (pc' := 1222) dL_law_1221 rfl rfl rfl ?_
  refine ex_iconst (v := 1) (pc' := 1223) dL_law_1222 ic_1 rfl ?_
  refine ex_iadd (pc' := 1224) dL_law_1223 rfl ?_
  refine ex_sald hs (pc' := 1225) dL_law_1224 hi1 rfl ?_
  refine ex_aload_n 0 (pc' := 1226) dL_law_1225 rfl rfl rfl ?_
  refine ex_iload_n 3 (pc' := 1227) dL_law_1226 rfl rfl rfl ?_
  refine ex_iconst (v := 2) (pc' := 1228) dL_law_1227 ic_2 rfl ?_
  refine ex_iadd (pc' := 1229) dL_law_1228 rfl ?_
  refine ex_sald hs (pc' := 1230) dL_law_1229 hi2 rfl ?_
  refine ex_aload_n 0 (pc' := 1231) dL_law_1230 rfl rfl rfl ?_
  refine ex_iload_n 3 (pc' := 1232) dL_law_1231 rfl rfl rfl ?_
  refine ex_iconst (v := 3) (pc' := 1233) dL_law_1232 ic_3 rfl ?_
  refine ex_iadd (pc' := 1234) dL_law_1233 rfl ?_
  refine ex_sald hs (pc' := 1235) dL_law_1234 hi3 rfl ?_
  refine ex_callV_i (rm' := rmX10_weight) (st := []) (pc' := 1238) [.int (xs (Int32.toNatClampNeg (nI (6 * j) + 1))), .int (xs (Int32.toNatClampNeg (nI (6 * j) + 2))), .int (xs (Int32.toNatClampNeg (nI (6 * j) + 3)))] dL_law_1235 cl_L_139 (k_X10_weight G hM h1) rfl (sh10_k hM) ⟨_, _, rfl⟩ rfl rfl ⟨⟨Nat.le_of_ble_eq_true rfl, Nat.le_of_ble_eq_true rfl⟩, by show 138 + 8 * j + 0 ≤ 600000; omega, by show 17299 + 4700 * j + 0 ≤ 7302250; omega⟩ (Nat.le_of_ble_eq_true rfl) rfl rfl ?_
  refine ex_aload_n 2 (pc' := 1239) dL_law_1238 rfl rfl rfl ?_
  refine ex_aload_n 0 (pc' := 1240) dL_law_1239 rfl rfl rfl ?_
  refine ex_iload_n 3 (pc' := 1241) dL_law_1240 rfl rfl rfl ?_
  refine ex_iconst (v := 1) (pc' := 1242) dL_law_1241 ic_1 rfl ?_
  refine ex_iadd (pc' := 1243) dL_law_1242 rfl ?_
  refine ex_sald hs (pc' := 1244) dL_law_1243 hi1 rfl ?_
  refine ex_aload_n 0 (pc' := 1245) dL_law_1244 rfl rfl rfl ?_
  refine ex_iload_n 3 (pc' := 1246) dL_law_1245 rfl rfl rfl ?_
  refine ex_iconst (v := 2) (pc' := 1247) dL_law_1246 ic_2 rfl ?_
  refine ex_iadd (pc' := 1248) dL_law_1247 rfl ?_
  refine ex_sald hs (pc' := 1249) dL_law_1248 hi2 rfl ?_
  refine ex_aload_n 0 (pc' := 1250) dL_law_1249 rfl rfl rfl ?_
  refine ex_iload_n 3 (pc' := 1251) dL_law_1250 rfl rfl rfl ?_
  refine ex_iconst (v := 3) (pc' := 1252) dL_law_1251 ic_3 rfl ?_
  refine ex_iadd (pc' := 1253) dL_law_1252 rfl ?_
  refine ex_sald hs (pc' := 1254) dL_law_1253 hi3 rfl ?_
  refine ex_callV_i (rm' := rmX11_weight) (st := [.int r]) (pc' := 1257) [.int (xs (Int32.toNatClampNeg (nI (6 * j) + 1))), .int (xs (Int32.toNatClampNeg (nI (6 * j) + 2))), .int (xs (Int32.toNatClampNeg (nI (6 * j) + 3)))] dL_law_1254 cl_L_142 (k_X11_weight G hO h2) rfl (sh11_k hO) ⟨_, _, rfl⟩ rfl rfl ⟨⟨Nat.le_of_ble_eq_true rfl, Nat.le_of_ble_eq_true rfl⟩, by show 138 + 8 * j + 0 ≤ 600000; omega, by show 17299 + 4700 * j + 0 ≤ 7302250; omega⟩ (Nat.le_of_ble_eq_true rfl) rfl rfl ?_
  refine ex_icmpeq (tgt := 1889) (pc' := 1260) dL_law_1257 (by decide) rfl (fun _ => ?_) (fun h => absurd rfl h)
  exact law_tail (c := 138 + 8 * j) (t := 17299 + 4700 * j) (by omega) (by omega) (hN _ _ _ hI2)
set_option maxRecDepth 100000 in
set_option maxHeartbeats 4000000 in
theorem law_c31 {G : GX} {Q : State → Prop} {b Ln j N : Nat} {xs : Nat → Int32} {Inv : MX → MI → ML → Prop} (hs : ScrOk G b Ln xs) (hj : j ≤ 512) (hSh : ∀ X I L, Inv X I L → shX10 X ∧ shX11 X) (hT : S_cheapest N Inv) (hi1 : vp_in (nI (6 * j) + 1) Ln) (hi2 : vp_in (nI (6 * j) + 2) Ln) (hi3 : vp_in (nI (6 * j) + 3) Ln) {X : MX} {I : MI} {L : ML} (hI : Inv X I L) (hN : ∀ X I L, Inv X I L → Ex G mL_law rmL Q (138 + 8 * (j + 1), 17299 + 4700 * (j + 1)) X I L 18 [(0, .ref b), (1, .ref (gB G + 0)), (2, .ref (gB G + 99)), (3, .int (nI (6 * (j + 1))))] []) : Ex G mL_law rmL Q (138 + 8 * j, 17299 + 4700 * j) X I L 1262 [(0, .ref b), (1, .ref (gB G + 0)), (2, .ref (gB G + 99)), (3, .int (nI (6 * j)))] [] := by
  obtain ⟨hM, hO⟩ := hSh _ _ _ hI
  obtain ⟨r, I1, I2, h1, h2, hI2⟩ := hT _ _ _ ((xs (Int32.toNatClampNeg (nI (6 * j) + 1)))) ((xs (Int32.toNatClampNeg (nI (6 * j) + 2)))) ((xs (Int32.toNatClampNeg (nI (6 * j) + 3)))) hI
  refine ex_aload_n 1 (pc' := 1263) dL_law_1262 rfl rfl rfl ?_
  refine ex_aload_n 0 (pc' := 1264) dL_law_1263 rfl rfl rfl ?_
  refine ex_iload_n 3 (pc' := 1265) dL_law_1264 rfl rfl rfl ?_
  refine ex_iconst (v := 1) (pc' := 1266) dL_law_1265 ic_1 rfl ?_
  refine ex_iadd (pc' := 1267) dL_law_1266 rfl ?_
  refine ex_sald hs (pc' := 1268) dL_law_1267 hi1 rfl ?_
  refine ex_aload_n 0 (pc' := 1269) dL_law_1268 rfl rfl rfl ?_
  refine ex_iload_n 3 (pc' := 1270) dL_law_1269 rfl rfl rfl ?_
  refine ex_iconst (v := 2) (pc' := 1271) dL_law_1270 ic_2 rfl ?_
  refine ex_iadd (pc' := 1272) dL_law_1271 rfl ?_
  refine ex_sald hs (pc' := 1273) dL_law_1272 hi2 rfl ?_
  refine ex_aload_n 0 (pc' := 1274) dL_law_1273 rfl rfl rfl ?_
  refine ex_iload_n 3 (pc' := 1275) dL_law_1274 rfl rfl rfl ?_
  refine ex_iconst (v := 3) (pc' := 1276) dL_law_1275 ic_3 rfl ?_
  refine ex_iadd (pc' := 1277) dL_law_1276 rfl ?_
  refine ex_sald hs (pc' := 1278) dL_law_1277 hi3 rfl ?_
  refine ex_callV_i (rm' := rmX10_cheapest) (st := []) (pc' := 1281) [.int (xs (Int32.toNatClampNeg (nI (6 * j) + 1))), .int (xs (Int32.toNatClampNeg (nI (6 * j) + 2))), .int (xs (Int32.toNatClampNeg (nI (6 * j) + 3)))] dL_law_1278 cl_L_143 (k_X10_cheapest G hM h1) rfl (sh10_k hM) ⟨_, _, rfl⟩ rfl rfl ⟨⟨Nat.le_of_ble_eq_true rfl, Nat.le_of_ble_eq_true rfl⟩, by show 138 + 8 * j + 0 ≤ 600000; omega, by show 17299 + 4700 * j + 0 ≤ 7302250; omega⟩ (Nat.le_of_ble_eq_true rfl) rfl rfl ?_
  refine ex_aload_n 2 (pc' := 1282) dL_law_1281 rfl rfl rfl ?_
  refine ex_aload_n 0 (pc' := 1283) dL_law_1282 rfl rfl rfl ?_
  refine ex_iload_n 3 (pc' := 1284) dL_law_1283 rfl rfl rfl ?_
  refine ex_iconst (v := 1) (pc' := 1285) dL_law_1284 ic_1 rfl ?_
  refine ex_iadd (pc' := 1286) dL_law_1285 rfl ?_
  refine ex_sald hs (pc' := 1287) dL_law_1286 hi1 rfl ?_
  refine ex_aload_n 0 (pc' := 1288) dL_law_1287 rfl rfl rfl ?_
  refine ex_iload_n 3 (pc' := 1289) dL_law_1288 rfl rfl rfl ?_
  refine ex_iconst (v := 2) (pc' := 1290) dL_law_1289 ic_2 rfl ?_
  refine ex_iadd (pc' := 1291) dL_law_1290 rfl ?_
  refine ex_sald hs (pc' := 1292) dL_law_1291 hi2 rfl ?_
  refine ex_aload_n 0 (pc' := 1293) dL_law_1292 rfl rfl rfl ?_
  refine ex_iload_n 3 (pc' := 1294) dL_law_1293 rfl rfl rfl ?_
  refine ex_iconst (v := 3) (pc' := 1295) dL_law_1294 ic_3 rfl ?_
  refine ex_iadd (pc' := 1296) dL_law_1295 rfl ?_
  refine ex_sald hs (pc' := 1297) dL_law_1296 hi3 rfl ?_
  refine ex_callV_i (rm' := rmX11_cheapest) (st := [.int r]) (pc' := 1300) [.int (xs (Int32.toNatClampNeg (nI (6 * j) + 1))), .int (xs (Int32.toNatClampNeg (nI (6 * j) + 2))), .int (xs (Int32.toNatClampNeg (nI (6 * j) + 3)))] dL_law_1297 cl_L_146 (k_X11_cheapest G hO h2) rfl (sh11_k hO) ⟨_, _, rfl⟩ rfl rfl ⟨⟨Nat.le_of_ble_eq_true rfl, Nat.le_of_ble_eq_true rfl⟩, by show 138 + 8 * j + 0 ≤ 600000; omega, by show 17299 + 4700 * j + 0 ≤ 7302250; omega⟩ (Nat.le_of_ble_eq_true rfl) rfl rfl ?_
  refine ex_icmpeq (tgt := 1889) (pc' := 1303) dL_law_1300 (by decide) rfl (fun _ => ?_) (fun h => absurd rfl h)
  exact law_tail (c := 138 + 8 * j) (t := 17299 + 4700 * j) (by omega) (by omega) (hN _ _ _ hI2)
set_option maxRecDepth 100000 in
set_option maxHeartbeats 4000000 in
theorem law_c32 {G : GX} {Q : State → Prop} {b Ln j N : Nat} {xs : Nat → Int32} {Inv : MX → MI → ML → Prop} (hs : ScrOk G b Ln xs) (hj : j ≤ 512) (hSh : ∀ X I L, Inv X I L → shX10 X ∧ shX11 X) (hT : S_listed N Inv) (hi1 : vp_in (nI (6 * j) + 1) Ln) (hi2 : vp_in (nI (6 * j) + 2) Ln) (hi3 : vp_in (nI (6 * j) + 3) Ln) (hi4 : vp_in (nI (6 * j) + 4) Ln) {X : MX} {I : MI} {L : ML} (hI : Inv X I L) (hN : ∀ X I L, Inv X I L → Ex G mL_law rmL Q (138 + 8 * (j + 1), 17299 + 4700 * (j + 1)) X I L 18 [(0, .ref b), (1, .ref (gB G + 0)), (2, .ref (gB G + 99)), (3, .int (nI (6 * (j + 1))))] []) : Ex G mL_law rmL Q (138 + 8 * j, 17299 + 4700 * j) X I L 1305 [(0, .ref b), (1, .ref (gB G + 0)), (2, .ref (gB G + 99)), (3, .int (nI (6 * j)))] [] := by
  obtain ⟨hM, hO⟩ := hSh _ _ _ hI
  obtain ⟨r, I1, I2, h1, h2, hI2⟩ := hT _ _ _ ((xs (Int32.toNatClampNeg (nI (6 * j) + 1)))) ((xs (Int32.toNatClampNeg (nI (6 * j) + 2)))) ((xs (Int32.toNatClampNeg (nI (6 * j) + 3)))) ((xs (Int32.toNatClampNeg (nI (6 * j) + 4)))) hI
  refine ex_aload_n 1 (pc' := 1306) dL_law_1305 rfl rfl rfl ?_
  refine ex_aload_n 0 (pc' := 1307) dL_law_1306 rfl rfl rfl ?_
  refine ex_iload_n 3 (pc' := 1308) dL_law_1307 rfl rfl rfl ?_
  refine ex_iconst (v := 1) (pc' := 1309) dL_law_1308 ic_1 rfl ?_
  refine ex_iadd (pc' := 1310) dL_law_1309 rfl ?_
  refine ex_sald hs (pc' := 1311) dL_law_1310 hi1 rfl ?_
  refine ex_aload_n 0 (pc' := 1312) dL_law_1311 rfl rfl rfl ?_
  refine ex_iload_n 3 (pc' := 1313) dL_law_1312 rfl rfl rfl ?_
  refine ex_iconst (v := 2) (pc' := 1314) dL_law_1313 ic_2 rfl ?_
  refine ex_iadd (pc' := 1315) dL_law_1314 rfl ?_
  refine ex_sald hs (pc' := 1316) dL_law_1315 hi2 rfl ?_
  refine ex_aload_n 0 (pc' := 1317) dL_law_1316 rfl rfl rfl ?_
  refine ex_iload_n 3 (pc' := 1318) dL_law_1317 rfl rfl rfl ?_
  refine ex_iconst (v := 3) (pc' := 1319) dL_law_1318 ic_3 rfl ?_
  refine ex_iadd (pc' := 1320) dL_law_1319 rfl ?_
  refine ex_sald hs (pc' := 1321) dL_law_1320 hi3 rfl ?_
  refine ex_aload_n 0 (pc' := 1322) dL_law_1321 rfl rfl rfl ?_
  refine ex_iload_n 3 (pc' := 1323) dL_law_1322 rfl rfl rfl ?_
  refine ex_iconst (v := 4) (pc' := 1324) dL_law_1323 ic_4 rfl ?_
  refine ex_iadd (pc' := 1325) dL_law_1324 rfl ?_
  refine ex_sald hs (pc' := 1326) dL_law_1325 hi4 rfl ?_
  refine ex_callV_i (rm' := rmX10_listed) (st := []) (pc' := 1329) [.int (xs (Int32.toNatClampNeg (nI (6 * j) + 1))), .int (xs (Int32.toNatClampNeg (nI (6 * j) + 2))), .int (xs (Int32.toNatClampNeg (nI (6 * j) + 3))), .int (xs (Int32.toNatClampNeg (nI (6 * j) + 4)))] dL_law_1326 cl_L_147 (k_X10_listed G hM h1) rfl (sh10_k hM) ⟨_, _, rfl⟩ rfl rfl ⟨⟨Nat.le_of_ble_eq_true rfl, Nat.le_of_ble_eq_true rfl⟩, by show 138 + 8 * j + 0 ≤ 600000; omega, by show 17299 + 4700 * j + 0 ≤ 7302250; omega⟩ (Nat.le_of_ble_eq_true rfl) rfl rfl ?_
  refine ex_aload_n 2 (pc' := 1330) dL_law_1329 rfl rfl rfl ?_
  refine ex_aload_n 0 (pc' := 1331) dL_law_1330 rfl rfl rfl ?_
  refine ex_iload_n 3 (pc' := 1332) dL_law_1331 rfl rfl rfl ?_
  refine ex_iconst (v := 1) (pc' := 1333) dL_law_1332 ic_1 rfl ?_
  refine ex_iadd (pc' := 1334) dL_law_1333 rfl ?_
  refine ex_sald hs (pc' := 1335) dL_law_1334 hi1 rfl ?_
  refine ex_aload_n 0 (pc' := 1336) dL_law_1335 rfl rfl rfl ?_
  refine ex_iload_n 3 (pc' := 1337) dL_law_1336 rfl rfl rfl ?_
  refine ex_iconst (v := 2) (pc' := 1338) dL_law_1337 ic_2 rfl ?_
  refine ex_iadd (pc' := 1339) dL_law_1338 rfl ?_
  refine ex_sald hs (pc' := 1340) dL_law_1339 hi2 rfl ?_
  refine ex_aload_n 0 (pc' := 1341) dL_law_1340 rfl rfl rfl ?_
  refine ex_iload_n 3 (pc' := 1342) dL_law_1341 rfl rfl rfl ?_
  refine ex_iconst (v := 3) (pc' := 1343) dL_law_1342 ic_3 rfl ?_
  refine ex_iadd (pc' := 1344) dL_law_1343 rfl ?_
  refine ex_sald hs (pc' := 1345) dL_law_1344 hi3 rfl ?_
  refine ex_aload_n 0 (pc' := 1346) dL_law_1345 rfl rfl rfl ?_
  refine ex_iload_n 3 (pc' := 1347) dL_law_1346 rfl rfl rfl ?_
  refine ex_iconst (v := 4) (pc' := 1348) dL_law_1347 ic_4 rfl ?_
  refine ex_iadd (pc' := 1349) dL_law_1348 rfl ?_
  refine ex_sald hs (pc' := 1350) dL_law_1349 hi4 rfl ?_
  refine ex_callV_i (rm' := rmX11_listed) (st := [.int r]) (pc' := 1353) [.int (xs (Int32.toNatClampNeg (nI (6 * j) + 1))), .int (xs (Int32.toNatClampNeg (nI (6 * j) + 2))), .int (xs (Int32.toNatClampNeg (nI (6 * j) + 3))), .int (xs (Int32.toNatClampNeg (nI (6 * j) + 4)))] dL_law_1350 cl_L_151 (k_X11_listed G hO h2) rfl (sh11_k hO) ⟨_, _, rfl⟩ rfl rfl ⟨⟨Nat.le_of_ble_eq_true rfl, Nat.le_of_ble_eq_true rfl⟩, by show 138 + 8 * j + 0 ≤ 600000; omega, by show 17299 + 4700 * j + 0 ≤ 7302250; omega⟩ (Nat.le_of_ble_eq_true rfl) rfl rfl ?_
  refine ex_icmpeq (tgt := 1889) (pc' := 1356) dL_law_1353 (by decide) rfl (fun _ => ?_) (fun h => absurd rfl h)
  exact law_tail (c := 138 + 8 * j) (t := 17299 + 4700 * j) (by omega) (by omega) (hN _ _ _ hI2)
set_option maxRecDepth 100000 in
set_option maxHeartbeats 4000000 in
theorem law_c33 {G : GX} {Q : State → Prop} {b Ln j N : Nat} {xs : Nat → Int32} {Inv : MX → MI → ML → Prop} (hs : ScrOk G b Ln xs) (hj : j ≤ 512) (hSh : ∀ X I L, Inv X I L → shX10 X ∧ shX11 X) (hT : S_odds N Inv) (hi1 : vp_in (nI (6 * j) + 1) Ln) (hi2 : vp_in (nI (6 * j) + 2) Ln) {X : MX} {I : MI} {L : ML} (hI : Inv X I L) (hN : ∀ X I L, Inv X I L → Ex G mL_law rmL Q (138 + 8 * (j + 1), 17299 + 4700 * (j + 1)) X I L 18 [(0, .ref b), (1, .ref (gB G + 0)), (2, .ref (gB G + 99)), (3, .int (nI (6 * (j + 1))))] []) : Ex G mL_law rmL Q (138 + 8 * j, 17299 + 4700 * j) X I L 1358 [(0, .ref b), (1, .ref (gB G + 0)), (2, .ref (gB G + 99)), (3, .int (nI (6 * j)))] [] := by
  obtain ⟨hM, hO⟩ := hSh _ _ _ hI
  obtain ⟨r, I1, I2, h1, h2, hI2⟩ := hT _ _ _ ((xs (Int32.toNatClampNeg (nI (6 * j) + 1)))) ((xs (Int32.toNatClampNeg (nI (6 * j) + 2)))) hI
  refine ex_aload_n 1 (pc' := 1359) dL_law_1358 rfl rfl rfl ?_
  refine ex_aload_n 0 (pc' := 1360) dL_law_1359 rfl rfl rfl ?_
  refine ex_iload_n 3 (pc' := 1361) dL_law_1360 rfl rfl rfl ?_
  refine ex_iconst (v := 1) (pc' := 1362) dL_law_1361 ic_1 rfl ?_
  refine ex_iadd (pc' := 1363) dL_law_1362 rfl ?_
  refine ex_sald hs (pc' := 1364) dL_law_1363 hi1 rfl ?_
  refine ex_aload_n 0 (pc' := 1365) dL_law_1364 rfl rfl rfl ?_
  refine ex_iload_n 3 (pc' := 1366) dL_law_1365 rfl rfl rfl ?_
  refine ex_iconst (v := 2) (pc' := 1367) dL_law_1366 ic_2 rfl ?_
  refine ex_iadd (pc' := 1368) dL_law_1367 rfl ?_
  refine ex_sald hs (pc' := 1369) dL_law_1368 hi2 rfl ?_
  refine ex_callV_l (rm' := rmX10_odds) (st := []) (pc' := 1372) [.int (xs (Int32.toNatClampNeg (nI (6 * j) + 1))), .int (xs (Int32.toNatClampNeg (nI (6 * j) + 2)))] dL_law_1369 cl_L_152 (k_X10_odds G hM h1) rfl (sh10_k hM) ⟨_, _, rfl⟩ rfl rfl ⟨⟨Nat.le_of_ble_eq_true rfl, Nat.le_of_ble_eq_true rfl⟩, by show 138 + 8 * j + 0 ≤ 600000; omega, by show 17299 + 4700 * j + 0 ≤ 7302250; omega⟩ (Nat.le_of_ble_eq_true rfl) rfl rfl ?_
  refine ex_aload_n 2 (pc' := 1373) dL_law_1372 rfl rfl rfl ?_
  refine ex_aload_n 0 (pc' := 1374) dL_law_1373 rfl rfl rfl ?_
  refine ex_iload_n 3 (pc' := 1375) dL_law_1374 rfl rfl rfl ?_
  refine ex_iconst (v := 1) (pc' := 1376) dL_law_1375 ic_1 rfl ?_
  refine ex_iadd (pc' := 1377) dL_law_1376 rfl ?_
  refine ex_sald hs (pc' := 1378) dL_law_1377 hi1 rfl ?_
  refine ex_aload_n 0 (pc' := 1379) dL_law_1378 rfl rfl rfl ?_
  refine ex_iload_n 3 (pc' := 1380) dL_law_1379 rfl rfl rfl ?_
  refine ex_iconst (v := 2) (pc' := 1381) dL_law_1380 ic_2 rfl ?_
  refine ex_iadd (pc' := 1382) dL_law_1381 rfl ?_
  refine ex_sald hs (pc' := 1383) dL_law_1382 hi2 rfl ?_
  refine ex_callV_l (rm' := rmX11_odds) (st := [.long r]) (pc' := 1386) [.int (xs (Int32.toNatClampNeg (nI (6 * j) + 1))), .int (xs (Int32.toNatClampNeg (nI (6 * j) + 2)))] dL_law_1383 cl_L_155 (k_X11_odds G hO h2) rfl (sh11_k hO) ⟨_, _, rfl⟩ rfl rfl ⟨⟨Nat.le_of_ble_eq_true rfl, Nat.le_of_ble_eq_true rfl⟩, by show 138 + 8 * j + 0 ≤ 600000; omega, by show 17299 + 4700 * j + 0 ≤ 7302250; omega⟩ (Nat.le_of_ble_eq_true rfl) rfl rfl ?_
  refine ex_lcmp (pc' := 1387) dL_law_1386 rfl ?_
  refine ex_lifeq (tgt := 1889) (pc' := 1390) dL_law_1387 (by decide) rfl (fun _ => ?_) (fun h => absurd rfl h)
  exact law_tail (c := 138 + 8 * j) (t := 17299 + 4700 * j) (by omega) (by omega) (hN _ _ _ hI2)
set_option maxRecDepth 100000 in
set_option maxHeartbeats 4000000 in
theorem law_c34 {G : GX} {Q : State → Prop} {b Ln j N : Nat} {xs : Nat → Int32} {Inv : MX → MI → ML → Prop} (hs : ScrOk G b Ln xs) (hj : j ≤ 512) (hSh : ∀ X I L, Inv X I L → shX10 X ∧ shX11 X) (hT : S_mean N Inv) (hi1 : vp_in (nI (6 * j) + 1) Ln) (hi2 : vp_in (nI (6 * j) + 2) Ln) {X : MX} {I : MI} {L : ML} (hI : Inv X I L) (hN : ∀ X I L, Inv X I L → Ex G mL_law rmL Q (138 + 8 * (j + 1), 17299 + 4700 * (j + 1)) X I L 18 [(0, .ref b), (1, .ref (gB G + 0)), (2, .ref (gB G + 99)), (3, .int (nI (6 * (j + 1))))] []) : Ex G mL_law rmL Q (138 + 8 * j, 17299 + 4700 * j) X I L 1392 [(0, .ref b), (1, .ref (gB G + 0)), (2, .ref (gB G + 99)), (3, .int (nI (6 * j)))] [] := by
  obtain ⟨hM, hO⟩ := hSh _ _ _ hI
  obtain ⟨r, I2, h1, h2, hI2⟩ := hT _ _ _ ((xs (Int32.toNatClampNeg (nI (6 * j) + 1)))) ((xs (Int32.toNatClampNeg (nI (6 * j) + 2)))) hI
  refine ex_aload_n 1 (pc' := 1393) dL_law_1392 rfl rfl rfl ?_
  refine ex_aload_n 0 (pc' := 1394) dL_law_1393 rfl rfl rfl ?_
  refine ex_iload_n 3 (pc' := 1395) dL_law_1394 rfl rfl rfl ?_
  refine ex_iconst (v := 1) (pc' := 1396) dL_law_1395 ic_1 rfl ?_
  refine ex_iadd (pc' := 1397) dL_law_1396 rfl ?_
  refine ex_sald hs (pc' := 1398) dL_law_1397 hi1 rfl ?_
  refine ex_aload_n 0 (pc' := 1399) dL_law_1398 rfl rfl rfl ?_
  refine ex_iload_n 3 (pc' := 1400) dL_law_1399 rfl rfl rfl ?_
  refine ex_iconst (v := 2) (pc' := 1401) dL_law_1400 ic_2 rfl ?_
  refine ex_iadd (pc' := 1402) dL_law_1401 rfl ?_
  refine ex_sald hs (pc' := 1403) dL_law_1402 hi2 rfl ?_
  refine ex_callV_l (rm' := rmX10_mean) (st := []) (pc' := 1406) [.int (xs (Int32.toNatClampNeg (nI (6 * j) + 1))), .int (xs (Int32.toNatClampNeg (nI (6 * j) + 2)))] dL_law_1403 cl_L_156 (k_X10_mean G hM h1) rfl (sh10_k hM) ⟨_, _, rfl⟩ rfl rfl ⟨⟨Nat.le_of_ble_eq_true rfl, Nat.le_of_ble_eq_true rfl⟩, by show 138 + 8 * j + 0 ≤ 600000; omega, by show 17299 + 4700 * j + 0 ≤ 7302250; omega⟩ (Nat.le_of_ble_eq_true rfl) rfl rfl ?_
  refine ex_aload_n 2 (pc' := 1407) dL_law_1406 rfl rfl rfl ?_
  refine ex_aload_n 0 (pc' := 1408) dL_law_1407 rfl rfl rfl ?_
  refine ex_iload_n 3 (pc' := 1409) dL_law_1408 rfl rfl rfl ?_
  refine ex_iconst (v := 1) (pc' := 1410) dL_law_1409 ic_1 rfl ?_
  refine ex_iadd (pc' := 1411) dL_law_1410 rfl ?_
  refine ex_sald hs (pc' := 1412) dL_law_1411 hi1 rfl ?_
  refine ex_aload_n 0 (pc' := 1413) dL_law_1412 rfl rfl rfl ?_
  refine ex_iload_n 3 (pc' := 1414) dL_law_1413 rfl rfl rfl ?_
  refine ex_iconst (v := 2) (pc' := 1415) dL_law_1414 ic_2 rfl ?_
  refine ex_iadd (pc' := 1416) dL_law_1415 rfl ?_
  refine ex_sald hs (pc' := 1417) dL_law_1416 hi2 rfl ?_
  refine ex_callV_l (rm' := rmX11_mean) (st := [.long r]) (pc' := 1420) [.int (xs (Int32.toNatClampNeg (nI (6 * j) + 1))), .int (xs (Int32.toNatClampNeg (nI (6 * j) + 2)))] dL_law_1417 cl_L_159 (k_X11_mean G hO h2) rfl (sh11_k hO) ⟨_, _, rfl⟩ rfl rfl ⟨⟨Nat.le_of_ble_eq_true rfl, Nat.le_of_ble_eq_true rfl⟩, by show 138 + 8 * j + 0 ≤ 600000; omega, by show 17299 + 4700 * j + 0 ≤ 7302250; omega⟩ (Nat.le_of_ble_eq_true rfl) rfl rfl ?_
  refine ex_lcmp (pc' := 1421) dL_law_1420 rfl ?_
  refine ex_lifeq (tgt := 1889) (pc' := 1424) dL_law_1421 (by decide) rfl (fun _ => ?_) (fun h => absurd rfl h)
  exact law_tail (c := 138 + 8 * j) (t := 17299 + 4700 * j) (by omega) (by omega) (hN _ _ _ hI2)
set_option maxRecDepth 100000 in
set_option maxHeartbeats 4000000 in
theorem law_c35 {G : GX} {Q : State → Prop} {b Ln j N : Nat} {xs : Nat → Int32} {Inv : MX → MI → ML → Prop} (hs : ScrOk G b Ln xs) (hj : j ≤ 512) (hSh : ∀ X I L, Inv X I L → shX10 X ∧ shX11 X) (hT : S_lots N Inv) (hi1 : vp_in (nI (6 * j) + 1) Ln) (hi2 : vp_in (nI (6 * j) + 2) Ln) (hi3 : vp_in (nI (6 * j) + 3) Ln) (hi4 : vp_in (nI (6 * j) + 4) Ln) {X : MX} {I : MI} {L : ML} (hI : Inv X I L) (hN : ∀ X I L, Inv X I L → Ex G mL_law rmL Q (138 + 8 * (j + 1), 17299 + 4700 * (j + 1)) X I L 18 [(0, .ref b), (1, .ref (gB G + 0)), (2, .ref (gB G + 99)), (3, .int (nI (6 * (j + 1))))] []) : Ex G mL_law rmL Q (138 + 8 * j, 17299 + 4700 * j) X I L 1426 [(0, .ref b), (1, .ref (gB G + 0)), (2, .ref (gB G + 99)), (3, .int (nI (6 * j)))] [] := by
  obtain ⟨hM, hO⟩ := hSh _ _ _ hI
  obtain ⟨r, I2, h1, h2, hI2⟩ := hT _ _ _ ((xs (Int32.toNatClampNeg (nI (6 * j) + 1)))) ((xs (Int32.toNatClampNeg (nI (6 * j) + 2)))) ((xs (Int32.toNatClampNeg (nI (6 * j) + 3)))) ((xs (Int32.toNatClampNeg (nI (6 * j) + 4)))) hI
  refine ex_aload_n 1 (pc' := 1427) dL_law_1426 rfl rfl rfl ?_
  refine ex_aload_n 0 (pc' := 1428) dL_law_1427 rfl rfl rfl ?_
  refine ex_iload_n 3 (pc' := 1429) dL_law_1428 rfl rfl rfl ?_
  refine ex_iconst (v := 1) (pc' := 1430) dL_law_1429 ic_1 rfl ?_
  refine ex_iadd (pc' := 1431) dL_law_1430 rfl ?_
  refine ex_sald hs (pc' := 1432) dL_law_1431 hi1 rfl ?_
  refine ex_aload_n 0 (pc' := 1433) dL_law_1432 rfl rfl rfl ?_
  refine ex_iload_n 3 (pc' := 1434) dL_law_1433 rfl rfl rfl ?_
  refine ex_iconst (v := 2) (pc' := 1435) dL_law_1434 ic_2 rfl ?_
  refine ex_iadd (pc' := 1436) dL_law_1435 rfl ?_
  refine ex_sald hs (pc' := 1437) dL_law_1436 hi2 rfl ?_
  refine ex_aload_n 0 (pc' := 1438) dL_law_1437 rfl rfl rfl ?_
  refine ex_iload_n 3 (pc' := 1439) dL_law_1438 rfl rfl rfl ?_
  refine ex_iconst (v := 3) (pc' := 1440) dL_law_1439 ic_3 rfl ?_
  refine ex_iadd (pc' := 1441) dL_law_1440 rfl ?_
  refine ex_sald hs (pc' := 1442) dL_law_1441 hi3 rfl ?_
  refine ex_aload_n 0 (pc' := 1443) dL_law_1442 rfl rfl rfl ?_
  refine ex_iload_n 3 (pc' := 1444) dL_law_1443 rfl rfl rfl ?_
  refine ex_iconst (v := 4) (pc' := 1445) dL_law_1444 ic_4 rfl ?_
  refine ex_iadd (pc' := 1446) dL_law_1445 rfl ?_
  refine ex_sald hs (pc' := 1447) dL_law_1446 hi4 rfl ?_
  refine ex_callV_i (rm' := rmX10_lots) (st := []) (pc' := 1450) [.int (xs (Int32.toNatClampNeg (nI (6 * j) + 1))), .int (xs (Int32.toNatClampNeg (nI (6 * j) + 2))), .int (xs (Int32.toNatClampNeg (nI (6 * j) + 3))), .int (xs (Int32.toNatClampNeg (nI (6 * j) + 4)))] dL_law_1447 cl_L_160 (k_X10_lots G hM h1) rfl (sh10_k hM) ⟨_, _, rfl⟩ rfl rfl ⟨⟨Nat.le_of_ble_eq_true rfl, Nat.le_of_ble_eq_true rfl⟩, by show 138 + 8 * j + 0 ≤ 600000; omega, by show 17299 + 4700 * j + 0 ≤ 7302250; omega⟩ (Nat.le_of_ble_eq_true rfl) rfl rfl ?_
  refine ex_aload_n 2 (pc' := 1451) dL_law_1450 rfl rfl rfl ?_
  refine ex_aload_n 0 (pc' := 1452) dL_law_1451 rfl rfl rfl ?_
  refine ex_iload_n 3 (pc' := 1453) dL_law_1452 rfl rfl rfl ?_
  refine ex_iconst (v := 1) (pc' := 1454) dL_law_1453 ic_1 rfl ?_
  refine ex_iadd (pc' := 1455) dL_law_1454 rfl ?_
  refine ex_sald hs (pc' := 1456) dL_law_1455 hi1 rfl ?_
  refine ex_aload_n 0 (pc' := 1457) dL_law_1456 rfl rfl rfl ?_
  refine ex_iload_n 3 (pc' := 1458) dL_law_1457 rfl rfl rfl ?_
  refine ex_iconst (v := 2) (pc' := 1459) dL_law_1458 ic_2 rfl ?_
  refine ex_iadd (pc' := 1460) dL_law_1459 rfl ?_
  refine ex_sald hs (pc' := 1461) dL_law_1460 hi2 rfl ?_
  refine ex_aload_n 0 (pc' := 1462) dL_law_1461 rfl rfl rfl ?_
  refine ex_iload_n 3 (pc' := 1463) dL_law_1462 rfl rfl rfl ?_
  refine ex_iconst (v := 3) (pc' := 1464) dL_law_1463 ic_3 rfl ?_
  refine ex_iadd (pc' := 1465) dL_law_1464 rfl ?_
  refine ex_sald hs (pc' := 1466) dL_law_1465 hi3 rfl ?_
  refine ex_aload_n 0 (pc' := 1467) dL_law_1466 rfl rfl rfl ?_
  refine ex_iload_n 3 (pc' := 1468) dL_law_1467 rfl rfl rfl ?_
  refine ex_iconst (v := 4) (pc' := 1469) dL_law_1468 ic_4 rfl ?_
  refine ex_iadd (pc' := 1470) dL_law_1469 rfl ?_
  refine ex_sald hs (pc' := 1471) dL_law_1470 hi4 rfl ?_
  refine ex_callV_i (rm' := rmX11_lots) (st := [.int r]) (pc' := 1474) [.int (xs (Int32.toNatClampNeg (nI (6 * j) + 1))), .int (xs (Int32.toNatClampNeg (nI (6 * j) + 2))), .int (xs (Int32.toNatClampNeg (nI (6 * j) + 3))), .int (xs (Int32.toNatClampNeg (nI (6 * j) + 4)))] dL_law_1471 cl_L_163 (k_X11_lots G hO h2) rfl (sh11_k hO) ⟨_, _, rfl⟩ rfl rfl ⟨⟨Nat.le_of_ble_eq_true rfl, Nat.le_of_ble_eq_true rfl⟩, by show 138 + 8 * j + 0 ≤ 600000; omega, by show 17299 + 4700 * j + 0 ≤ 7302250; omega⟩ (Nat.le_of_ble_eq_true rfl) rfl rfl ?_
  refine ex_icmpeq (tgt := 1889) (pc' := 1477) dL_law_1474 (by decide) rfl (fun _ => ?_) (fun h => absurd rfl h)
  exact law_tail (c := 138 + 8 * j) (t := 17299 + 4700 * j) (by omega) (by omega) (hN _ _ _ hI2)
set_option maxRecDepth 100000 in
set_option maxHeartbeats 4000000 in
theorem law_c36 {G : GX} {Q : State → Prop} {b Ln j N : Nat} {xs : Nat → Int32} {Inv : MX → MI → ML → Prop} (hs : ScrOk G b Ln xs) (hj : j ≤ 512) (hSh : ∀ X I L, Inv X I L → shX10 X ∧ shX11 X) (hT : S_feed N Inv) (hi1 : vp_in (nI (6 * j) + 1) Ln) {X : MX} {I : MI} {L : ML} (hI : Inv X I L) (hN : ∀ X I L, Inv X I L → Ex G mL_law rmL Q (138 + 8 * (j + 1), 17299 + 4700 * (j + 1)) X I L 18 [(0, .ref b), (1, .ref (gB G + 0)), (2, .ref (gB G + 99)), (3, .int (nI (6 * (j + 1))))] []) : Ex G mL_law rmL Q (138 + 8 * j, 17299 + 4700 * j) X I L 1479 [(0, .ref b), (1, .ref (gB G + 0)), (2, .ref (gB G + 99)), (3, .int (nI (6 * j)))] [] := by
  obtain ⟨hM, hO⟩ := hSh _ _ _ hI
  obtain ⟨r, I1, I2, h1, h2, hI2⟩ := hT _ _ _ ((xs (Int32.toNatClampNeg (nI (6 * j) + 1)))) hI
  refine ex_aload_n 1 (pc' := 1480) dL_law_1479 rfl rfl rfl ?_
  refine ex_aload_n 0 (pc' := 1481) dL_law_1480 rfl rfl rfl ?_
  refine ex_iload_n 3 (pc' := 1482) dL_law_1481 rfl rfl rfl ?_
  refine ex_iconst (v := 1) (pc' := 1483) dL_law_1482 ic_1 rfl ?_
  refine ex_iadd (pc' := 1484) dL_law_1483 rfl ?_
  refine ex_sald hs (pc' := 1485) dL_law_1484 hi1 rfl ?_
  refine ex_callV_i (rm' := rmX10_feed) (st := []) (pc' := 1488) [.int (xs (Int32.toNatClampNeg (nI (6 * j) + 1)))] dL_law_1485 cl_L_164 (k_X10_feed G hM h1) rfl (sh10_k hM) ⟨_, _, rfl⟩ rfl rfl ⟨⟨Nat.le_of_ble_eq_true rfl, Nat.le_of_ble_eq_true rfl⟩, by show 138 + 8 * j + 0 ≤ 600000; omega, by show 17299 + 4700 * j + 0 ≤ 7302250; omega⟩ (Nat.le_of_ble_eq_true rfl) rfl rfl ?_
  refine ex_aload_n 2 (pc' := 1489) dL_law_1488 rfl rfl rfl ?_
  refine ex_aload_n 0 (pc' := 1490) dL_law_1489 rfl rfl rfl ?_
  refine ex_iload_n 3 (pc' := 1491) dL_law_1490 rfl rfl rfl ?_
  refine ex_iconst (v := 1) (pc' := 1492) dL_law_1491 ic_1 rfl ?_
  refine ex_iadd (pc' := 1493) dL_law_1492 rfl ?_
  refine ex_sald hs (pc' := 1494) dL_law_1493 hi1 rfl ?_
  refine ex_callV_i (rm' := rmX11_feed) (st := [.int r]) (pc' := 1497) [.int (xs (Int32.toNatClampNeg (nI (6 * j) + 1)))] dL_law_1494 cl_L_167 (k_X11_feed G hO h2) rfl (sh11_k hO) ⟨_, _, rfl⟩ rfl rfl ⟨⟨Nat.le_of_ble_eq_true rfl, Nat.le_of_ble_eq_true rfl⟩, by show 138 + 8 * j + 0 ≤ 600000; omega, by show 17299 + 4700 * j + 0 ≤ 7302250; omega⟩ (Nat.le_of_ble_eq_true rfl) rfl rfl ?_
  refine ex_icmpeq (tgt := 1889) (pc' := 1500) dL_law_1497 (by decide) rfl (fun _ => ?_) (fun h => absurd rfl h)
  exact law_tail (c := 138 + 8 * j) (t := 17299 + 4700 * j) (by omega) (by omega) (hN _ _ _ hI2)
set_option maxRecDepth 100000 in
set_option maxHeartbeats 4000000 in
theorem law_c37 {G : GX} {Q : State → Prop} {b Ln j N : Nat} {xs : Nat → Int32} {Inv : MX → MI → ML → Prop} (hs : ScrOk G b Ln xs) (hj : j ≤ 512) (hSh : ∀ X I L, Inv X I L → shX10 X ∧ shX11 X) (hT : S_read N Inv) (hi1 : vp_in (nI (6 * j) + 1) Ln) {X : MX} {I : MI} {L : ML} (hI : Inv X I L) (hN : ∀ X I L, Inv X I L → Ex G mL_law rmL Q (138 + 8 * (j + 1), 17299 + 4700 * (j + 1)) X I L 18 [(0, .ref b), (1, .ref (gB G + 0)), (2, .ref (gB G + 99)), (3, .int (nI (6 * (j + 1))))] []) : Ex G mL_law rmL Q (138 + 8 * j, 17299 + 4700 * j) X I L 1502 [(0, .ref b), (1, .ref (gB G + 0)), (2, .ref (gB G + 99)), (3, .int (nI (6 * j)))] [] := by
  obtain ⟨hM, hO⟩ := hSh _ _ _ hI
  obtain ⟨r, I1, I2, h1, h2, hI2⟩ := hT _ _ _ ((xs (Int32.toNatClampNeg (nI (6 * j) + 1)))) hI
  refine ex_aload_n 1 (pc' := 1503) dL_law_1502 rfl rfl rfl ?_
  refine ex_aload_n 0 (pc' := 1504) dL_law_1503 rfl rfl rfl ?_
  refine ex_iload_n 3 (pc' := 1505) dL_law_1504 rfl rfl rfl ?_
  refine ex_iconst (v := 1) (pc' := 1506) dL_law_1505 ic_1 rfl ?_
  refine ex_iadd (pc' := 1507) dL_law_1506 rfl ?_
  refine ex_sald hs (pc' := 1508) dL_law_1507 hi1 rfl ?_
  refine ex_callV_i (rm' := rmX10_read) (st := []) (pc' := 1511) [.int (xs (Int32.toNatClampNeg (nI (6 * j) + 1)))] dL_law_1508 cl_L_168 (k_X10_read G hM h1) rfl (sh10_k hM) ⟨_, _, rfl⟩ rfl rfl ⟨⟨Nat.le_of_ble_eq_true rfl, Nat.le_of_ble_eq_true rfl⟩, by show 138 + 8 * j + 0 ≤ 600000; omega, by show 17299 + 4700 * j + 0 ≤ 7302250; omega⟩ (Nat.le_of_ble_eq_true rfl) rfl rfl ?_
  refine ex_aload_n 2 (pc' := 1512) dL_law_1511 rfl rfl rfl ?_
  refine ex_aload_n 0 (pc' := 1513) dL_law_1512 rfl rfl rfl ?_
  refine ex_iload_n 3 (pc' := 1514) dL_law_1513 rfl rfl rfl ?_
  refine ex_iconst (v := 1) (pc' := 1515) dL_law_1514 ic_1 rfl ?_
  refine ex_iadd (pc' := 1516) dL_law_1515 rfl ?_
  refine ex_sald hs (pc' := 1517) dL_law_1516 hi1 rfl ?_
  refine ex_callV_i (rm' := rmX11_read) (st := [.int r]) (pc' := 1520) [.int (xs (Int32.toNatClampNeg (nI (6 * j) + 1)))] dL_law_1517 cl_L_171 (k_X11_read G hO h2) rfl (sh11_k hO) ⟨_, _, rfl⟩ rfl rfl ⟨⟨Nat.le_of_ble_eq_true rfl, Nat.le_of_ble_eq_true rfl⟩, by show 138 + 8 * j + 0 ≤ 600000; omega, by show 17299 + 4700 * j + 0 ≤ 7302250; omega⟩ (Nat.le_of_ble_eq_true rfl) rfl rfl ?_
  refine ex_icmpeq (tgt := 1889) (pc' := 1523) dL_law_1520 (by decide) rfl (fun _ => ?_) (fun h => absurd rfl h)
  exact law_tail (c := 138 + 8 * j) (t := 17299 + 4700 * j) (by omega) (by omega) (hN _ _ _ hI2)
set_option maxRecDepth 100000 in
set_option maxHeartbeats 4000000 in
theorem law_c38 {G : GX} {Q : State → Prop} {b Ln j N : Nat} {xs : Nat → Int32} {Inv : MX → MI → ML → Prop} (hs : ScrOk G b Ln xs) (hj : j ≤ 512) (hSh : ∀ X I L, Inv X I L → shX10 X ∧ shX11 X) (hT : S_write N Inv) (hi1 : vp_in (nI (6 * j) + 1) Ln) {X : MX} {I : MI} {L : ML} (hI : Inv X I L) (hN : ∀ X I L, Inv X I L → Ex G mL_law rmL Q (138 + 8 * (j + 1), 17299 + 4700 * (j + 1)) X I L 18 [(0, .ref b), (1, .ref (gB G + 0)), (2, .ref (gB G + 99)), (3, .int (nI (6 * (j + 1))))] []) : Ex G mL_law rmL Q (138 + 8 * j, 17299 + 4700 * j) X I L 1525 [(0, .ref b), (1, .ref (gB G + 0)), (2, .ref (gB G + 99)), (3, .int (nI (6 * j)))] [] := by
  obtain ⟨hM, hO⟩ := hSh _ _ _ hI
  obtain ⟨r, I1, I2, h1, h2, hI2⟩ := hT _ _ _ ((xs (Int32.toNatClampNeg (nI (6 * j) + 1)))) hI
  refine ex_aload_n 1 (pc' := 1526) dL_law_1525 rfl rfl rfl ?_
  refine ex_aload_n 0 (pc' := 1527) dL_law_1526 rfl rfl rfl ?_
  refine ex_iload_n 3 (pc' := 1528) dL_law_1527 rfl rfl rfl ?_
  refine ex_iconst (v := 1) (pc' := 1529) dL_law_1528 ic_1 rfl ?_
  refine ex_iadd (pc' := 1530) dL_law_1529 rfl ?_
  refine ex_sald hs (pc' := 1531) dL_law_1530 hi1 rfl ?_
  refine ex_callV_i (rm' := rmX10_write) (st := []) (pc' := 1534) [.int (xs (Int32.toNatClampNeg (nI (6 * j) + 1)))] dL_law_1531 cl_L_172 (k_X10_write G hM h1) rfl (sh10_k hM) ⟨_, _, rfl⟩ rfl rfl ⟨⟨Nat.le_of_ble_eq_true rfl, Nat.le_of_ble_eq_true rfl⟩, by show 138 + 8 * j + 0 ≤ 600000; omega, by show 17299 + 4700 * j + 0 ≤ 7302250; omega⟩ (Nat.le_of_ble_eq_true rfl) rfl rfl ?_
  refine ex_aload_n 2 (pc' := 1535) dL_law_1534 rfl rfl rfl ?_
  refine ex_aload_n 0 (pc' := 1536) dL_law_1535 rfl rfl rfl ?_
  refine ex_iload_n 3 (pc' := 1537) dL_law_1536 rfl rfl rfl ?_
  refine ex_iconst (v := 1) (pc' := 1538) dL_law_1537 ic_1 rfl ?_
  refine ex_iadd (pc' := 1539) dL_law_1538 rfl ?_
  refine ex_sald hs (pc' := 1540) dL_law_1539 hi1 rfl ?_
  refine ex_callV_i (rm' := rmX11_write) (st := [.int r]) (pc' := 1543) [.int (xs (Int32.toNatClampNeg (nI (6 * j) + 1)))] dL_law_1540 cl_L_175 (k_X11_write G hO h2) rfl (sh11_k hO) ⟨_, _, rfl⟩ rfl rfl ⟨⟨Nat.le_of_ble_eq_true rfl, Nat.le_of_ble_eq_true rfl⟩, by show 138 + 8 * j + 0 ≤ 600000; omega, by show 17299 + 4700 * j + 0 ≤ 7302250; omega⟩ (Nat.le_of_ble_eq_true rfl) rfl rfl ?_
  refine ex_icmpeq (tgt := 1889) (pc' := 1546) dL_law_1543 (by decide) rfl (fun _ => ?_) (fun h => absurd rfl h)
  exact law_tail (c := 138 + 8 * j) (t := 17299 + 4700 * j) (by omega) (by omega) (hN _ _ _ hI2)
set_option maxRecDepth 100000 in
set_option maxHeartbeats 4000000 in
theorem law_c39 {G : GX} {Q : State → Prop} {b Ln j N : Nat} {xs : Nat → Int32} {Inv : MX → MI → ML → Prop} (hs : ScrOk G b Ln xs) (hj : j ≤ 512) (hSh : ∀ X I L, Inv X I L → shX10 X ∧ shX11 X) (hT : S_paper N Inv) (hi1 : vp_in (nI (6 * j) + 1) Ln) {X : MX} {I : MI} {L : ML} (hI : Inv X I L) (hN : ∀ X I L, Inv X I L → Ex G mL_law rmL Q (138 + 8 * (j + 1), 17299 + 4700 * (j + 1)) X I L 18 [(0, .ref b), (1, .ref (gB G + 0)), (2, .ref (gB G + 99)), (3, .int (nI (6 * (j + 1))))] []) : Ex G mL_law rmL Q (138 + 8 * j, 17299 + 4700 * j) X I L 1548 [(0, .ref b), (1, .ref (gB G + 0)), (2, .ref (gB G + 99)), (3, .int (nI (6 * j)))] [] := by
  obtain ⟨hM, hO⟩ := hSh _ _ _ hI
  obtain ⟨r, h1, h2, hI2⟩ := hT _ _ _ ((xs (Int32.toNatClampNeg (nI (6 * j) + 1)))) hI
  refine ex_aload_n 1 (pc' := 1549) dL_law_1548 rfl rfl rfl ?_
  refine ex_aload_n 0 (pc' := 1550) dL_law_1549 rfl rfl rfl ?_
  refine ex_iload_n 3 (pc' := 1551) dL_law_1550 rfl rfl rfl ?_
  refine ex_iconst (v := 1) (pc' := 1552) dL_law_1551 ic_1 rfl ?_
  refine ex_iadd (pc' := 1553) dL_law_1552 rfl ?_
  refine ex_sald hs (pc' := 1554) dL_law_1553 hi1 rfl ?_
  refine ex_callV_i (rm' := rmX10_paper) (st := []) (pc' := 1557) [.int (xs (Int32.toNatClampNeg (nI (6 * j) + 1)))] dL_law_1554 cl_L_176 (k_X10_paper G hM h1) rfl (sh10_k hM) ⟨_, _, rfl⟩ rfl rfl ⟨⟨Nat.le_of_ble_eq_true rfl, Nat.le_of_ble_eq_true rfl⟩, by show 138 + 8 * j + 0 ≤ 600000; omega, by show 17299 + 4700 * j + 0 ≤ 7302250; omega⟩ (Nat.le_of_ble_eq_true rfl) rfl rfl ?_
  refine ex_aload_n 2 (pc' := 1558) dL_law_1557 rfl rfl rfl ?_
  refine ex_aload_n 0 (pc' := 1559) dL_law_1558 rfl rfl rfl ?_
  refine ex_iload_n 3 (pc' := 1560) dL_law_1559 rfl rfl rfl ?_
  refine ex_iconst (v := 1) (pc' := 1561) dL_law_1560 ic_1 rfl ?_
  refine ex_iadd (pc' := 1562) dL_law_1561 rfl ?_
  refine ex_sald hs (pc' := 1563) dL_law_1562 hi1 rfl ?_
  refine ex_callV_i (rm' := rmX11_paper) (st := [.int r]) (pc' := 1566) [.int (xs (Int32.toNatClampNeg (nI (6 * j) + 1)))] dL_law_1563 cl_L_179 (k_X11_paper G hO h2) rfl (sh11_k hO) ⟨_, _, rfl⟩ rfl rfl ⟨⟨Nat.le_of_ble_eq_true rfl, Nat.le_of_ble_eq_true rfl⟩, by show 138 + 8 * j + 0 ≤ 600000; omega, by show 17299 + 4700 * j + 0 ≤ 7302250; omega⟩ (Nat.le_of_ble_eq_true rfl) rfl rfl ?_
  refine ex_icmpeq (tgt := 1889) (pc' := 1569) dL_law_1566 (by decide) rfl (fun _ => ?_) (fun h => absurd rfl h)
  exact law_tail (c := 138 + 8 * j) (t := 17299 + 4700 * j) (by omega) (by omega) (hN _ _ _ hI2)
set_option maxRecDepth 100000 in
set_option maxHeartbeats 4000000 in
theorem law_c40 {G : GX} {Q : State → Prop} {b Ln j N : Nat} {xs : Nat → Int32} {Inv : MX → MI → ML → Prop} (hs : ScrOk G b Ln xs) (hj : j ≤ 512) (hSh : ∀ X I L, Inv X I L → shX10 X ∧ shX11 X) (hT : S_undo N Inv)  {X : MX} {I : MI} {L : ML} (hI : Inv X I L) (hN : ∀ X I L, Inv X I L → Ex G mL_law rmL Q (138 + 8 * (j + 1), 17299 + 4700 * (j + 1)) X I L 18 [(0, .ref b), (1, .ref (gB G + 0)), (2, .ref (gB G + 99)), (3, .int (nI (6 * (j + 1))))] []) : Ex G mL_law rmL Q (138 + 8 * j, 17299 + 4700 * j) X I L 1571 [(0, .ref b), (1, .ref (gB G + 0)), (2, .ref (gB G + 99)), (3, .int (nI (6 * j)))] [] := by
  obtain ⟨hM, hO⟩ := hSh _ _ _ hI
  obtain ⟨r, I1, I2, h1, h2, hI2⟩ := hT _ _ _  hI
  refine ex_aload_n 1 (pc' := 1572) dL_law_1571 rfl rfl rfl ?_
  refine ex_callV_i (rm' := rmX10_undo) (st := []) (pc' := 1575) [] dL_law_1572 cl_L_180 (k_X10_undo G hM h1) rfl (sh10_k hM) ⟨_, _, rfl⟩ rfl rfl ⟨⟨Nat.le_of_ble_eq_true rfl, Nat.le_of_ble_eq_true rfl⟩, by show 138 + 8 * j + 0 ≤ 600000; omega, by show 17299 + 4700 * j + 0 ≤ 7302250; omega⟩ (Nat.le_of_ble_eq_true rfl) rfl rfl ?_
  refine ex_aload_n 2 (pc' := 1576) dL_law_1575 rfl rfl rfl ?_
  refine ex_callV_i (rm' := rmX11_undo) (st := [.int r]) (pc' := 1579) [] dL_law_1576 cl_L_183 (k_X11_undo G hO h2) rfl (sh11_k hO) ⟨_, _, rfl⟩ rfl rfl ⟨⟨Nat.le_of_ble_eq_true rfl, Nat.le_of_ble_eq_true rfl⟩, by show 138 + 8 * j + 0 ≤ 600000; omega, by show 17299 + 4700 * j + 0 ≤ 7302250; omega⟩ (Nat.le_of_ble_eq_true rfl) rfl rfl ?_
  refine ex_icmpeq (tgt := 1889) (pc' := 1582) dL_law_1579 (by decide) rfl (fun _ => ?_) (fun h => absurd rfl h)
  exact law_tail (c := 138 + 8 * j) (t := 17299 + 4700 * j) (by omega) (by omega) (hN _ _ _ hI2)
set_option maxRecDepth 100000 in
set_option maxHeartbeats 4000000 in
theorem law_c41 {G : GX} {Q : State → Prop} {b Ln j N : Nat} {xs : Nat → Int32} {Inv : MX → MI → ML → Prop} (hs : ScrOk G b Ln xs) (hj : j ≤ 512) (hSh : ∀ X I L, Inv X I L → shX10 X ∧ shX11 X) (hT : S_judge N Inv) (hi1 : vp_in (nI (6 * j) + 1) Ln) (hi2 : vp_in (nI (6 * j) + 2) Ln) (hi3 : vp_in (nI (6 * j) + 3) Ln) {X : MX} {I : MI} {L : ML} (hI : Inv X I L) (hN : ∀ X I L, Inv X I L → Ex G mL_law rmL Q (138 + 8 * (j + 1), 17299 + 4700 * (j + 1)) X I L 18 [(0, .ref b), (1, .ref (gB G + 0)), (2, .ref (gB G + 99)), (3, .int (nI (6 * (j + 1))))] []) : Ex G mL_law rmL Q (138 + 8 * j, 17299 + 4700 * j) X I L 1584 [(0, .ref b), (1, .ref (gB G + 0)), (2, .ref (gB G + 99)), (3, .int (nI (6 * j)))] [] := by
  obtain ⟨hM, hO⟩ := hSh _ _ _ hI
  obtain ⟨r, I1, I2, h1, h2, hI2⟩ := hT _ _ _ ((xs (Int32.toNatClampNeg (nI (6 * j) + 1)))) ((xs (Int32.toNatClampNeg (nI (6 * j) + 2)))) ((xs (Int32.toNatClampNeg (nI (6 * j) + 3)))) hI
  refine ex_aload_n 1 (pc' := 1585) dL_law_1584 rfl rfl rfl ?_
  refine ex_aload_n 0 (pc' := 1586) dL_law_1585 rfl rfl rfl ?_
  refine ex_iload_n 3 (pc' := 1587) dL_law_1586 rfl rfl rfl ?_
  refine ex_iconst (v := 1) (pc' := 1588) dL_law_1587 ic_1 rfl ?_
  refine ex_iadd (pc' := 1589) dL_law_1588 rfl ?_
  refine ex_sald hs (pc' := 1590) dL_law_1589 hi1 rfl ?_
  refine ex_aload_n 0 (pc' := 1591) dL_law_1590 rfl rfl rfl ?_
  refine ex_iload_n 3 (pc' := 1592) dL_law_1591 rfl rfl rfl ?_
  refine ex_iconst (v := 2) (pc' := 1593) dL_law_1592 ic_2 rfl ?_
  refine ex_iadd (pc' := 1594) dL_law_1593 rfl ?_
  refine ex_sald hs (pc' := 1595) dL_law_1594 hi2 rfl ?_
  refine ex_aload_n 0 (pc' := 1596) dL_law_1595 rfl rfl rfl ?_
  refine ex_iload_n 3 (pc' := 1597) dL_law_1596 rfl rfl rfl ?_
  refine ex_iconst (v := 3) (pc' := 1598) dL_law_1597 ic_3 rfl ?_
  refine ex_iadd (pc' := 1599) dL_law_1598 rfl ?_
  refine ex_sald hs (pc' := 1600) dL_law_1599 hi3 rfl ?_
  refine ex_callV_i (rm' := rmX10_judge) (st := []) (pc' := 1603) [.int (xs (Int32.toNatClampNeg (nI (6 * j) + 1))), .int (xs (Int32.toNatClampNeg (nI (6 * j) + 2))), .int (xs (Int32.toNatClampNeg (nI (6 * j) + 3)))] dL_law_1600 cl_L_184 (k_X10_judge G hM h1) rfl (sh10_k hM) ⟨_, _, rfl⟩ rfl rfl ⟨⟨Nat.le_of_ble_eq_true rfl, Nat.le_of_ble_eq_true rfl⟩, by show 138 + 8 * j + 0 ≤ 600000; omega, by show 17299 + 4700 * j + 0 ≤ 7302250; omega⟩ (Nat.le_of_ble_eq_true rfl) rfl rfl ?_
  refine ex_aload_n 2 (pc' := 1604) dL_law_1603 rfl rfl rfl ?_
  refine ex_aload_n 0 (pc' := 1605) dL_law_1604 rfl rfl rfl ?_
  refine ex_iload_n 3 (pc' := 1606) dL_law_1605 rfl rfl rfl ?_
  refine ex_iconst (v := 1) (pc' := 1607) dL_law_1606 ic_1 rfl ?_
  refine ex_iadd (pc' := 1608) dL_law_1607 rfl ?_
  refine ex_sald hs (pc' := 1609) dL_law_1608 hi1 rfl ?_
  refine ex_aload_n 0 (pc' := 1610) dL_law_1609 rfl rfl rfl ?_
  refine ex_iload_n 3 (pc' := 1611) dL_law_1610 rfl rfl rfl ?_
  refine ex_iconst (v := 2) (pc' := 1612) dL_law_1611 ic_2 rfl ?_
  refine ex_iadd (pc' := 1613) dL_law_1612 rfl ?_
  refine ex_sald hs (pc' := 1614) dL_law_1613 hi2 rfl ?_
  refine ex_aload_n 0 (pc' := 1615) dL_law_1614 rfl rfl rfl ?_
  refine ex_iload_n 3 (pc' := 1616) dL_law_1615 rfl rfl rfl ?_
  refine ex_iconst (v := 3) (pc' := 1617) dL_law_1616 ic_3 rfl ?_
  refine ex_iadd (pc' := 1618) dL_law_1617 rfl ?_
  refine ex_sald hs (pc' := 1619) dL_law_1618 hi3 rfl ?_
  refine ex_callV_i (rm' := rmX11_judge) (st := [.int r]) (pc' := 1622) [.int (xs (Int32.toNatClampNeg (nI (6 * j) + 1))), .int (xs (Int32.toNatClampNeg (nI (6 * j) + 2))), .int (xs (Int32.toNatClampNeg (nI (6 * j) + 3)))] dL_law_1619 cl_L_187 (k_X11_judge G hO h2) rfl (sh11_k hO) ⟨_, _, rfl⟩ rfl rfl ⟨⟨Nat.le_of_ble_eq_true rfl, Nat.le_of_ble_eq_true rfl⟩, by show 138 + 8 * j + 0 ≤ 600000; omega, by show 17299 + 4700 * j + 0 ≤ 7302250; omega⟩ (Nat.le_of_ble_eq_true rfl) rfl rfl ?_
  refine ex_icmpeq (tgt := 1889) (pc' := 1625) dL_law_1622 (by decide) rfl (fun _ => ?_) (fun h => absurd rfl h)
  exact law_tail (c := 138 + 8 * j) (t := 17299 + 4700 * j) (by omega) (by omega) (hN _ _ _ hI2)
set_option maxRecDepth 100000 in
set_option maxHeartbeats 4000000 in
theorem law_c42 {G : GX} {Q : State → Prop} {b Ln j N : Nat} {xs : Nat → Int32} {Inv : MX → MI → ML → Prop} (hs : ScrOk G b Ln xs) (hj : j ≤ 512) (hSh : ∀ X I L, Inv X I L → shX10 X ∧ shX11 X) (hT : S_image N Inv)  {X : MX} {I : MI} {L : ML} (hI : Inv X I L) (hN : ∀ X I L, Inv X I L → Ex G mL_law rmL Q (138 + 8 * (j + 1), 17299 + 4700 * (j + 1)) X I L 18 [(0, .ref b), (1, .ref (gB G + 0)), (2, .ref (gB G + 99)), (3, .int (nI (6 * (j + 1))))] []) : Ex G mL_law rmL Q (138 + 8 * j, 17299 + 4700 * j) X I L 1627 [(0, .ref b), (1, .ref (gB G + 0)), (2, .ref (gB G + 99)), (3, .int (nI (6 * j)))] [] := by
  obtain ⟨hM, hO⟩ := hSh _ _ _ hI
  obtain ⟨r, I1, L1, I2, L2, h1, h2, hI2⟩ := hT _ _ _  hI
  refine ex_aload_n 1 (pc' := 1628) dL_law_1627 rfl rfl rfl ?_
  refine ex_callV_i (rm' := rmX10_image) (st := []) (pc' := 1631) [] dL_law_1628 cl_L_188 (k_X10_image G hM h1) rfl (sh10_k hM) ⟨_, _, rfl⟩ rfl rfl ⟨⟨Nat.le_of_ble_eq_true rfl, Nat.le_of_ble_eq_true rfl⟩, by show 138 + 8 * j + 0 ≤ 600000; omega, by show 17299 + 4700 * j + 0 ≤ 7302250; omega⟩ (Nat.le_of_ble_eq_true rfl) rfl rfl ?_
  refine ex_aload_n 2 (pc' := 1632) dL_law_1631 rfl rfl rfl ?_
  refine ex_callV_i (rm' := rmX11_image) (st := [.int r]) (pc' := 1635) [] dL_law_1632 cl_L_191 (k_X11_image G hO h2) rfl (sh11_k hO) ⟨_, _, rfl⟩ rfl rfl ⟨⟨Nat.le_of_ble_eq_true rfl, Nat.le_of_ble_eq_true rfl⟩, by show 138 + 8 * j + 0 ≤ 600000; omega, by show 17299 + 4700 * j + 0 ≤ 7302250; omega⟩ (Nat.le_of_ble_eq_true rfl) rfl rfl ?_
  refine ex_icmpeq (tgt := 1889) (pc' := 1638) dL_law_1635 (by decide) rfl (fun _ => ?_) (fun h => absurd rfl h)
  exact law_tail (c := 138 + 8 * j) (t := 17299 + 4700 * j) (by omega) (by omega) (hN _ _ _ hI2)
set_option maxRecDepth 100000 in
set_option maxHeartbeats 4000000 in
theorem law_c43 {G : GX} {Q : State → Prop} {b Ln j N : Nat} {xs : Nat → Int32} {Inv : MX → MI → ML → Prop} (hs : ScrOk G b Ln xs) (hj : j ≤ 512) (hSh : ∀ X I L, Inv X I L → shX10 X ∧ shX11 X) (hT : S_restore N Inv)  {X : MX} {I : MI} {L : ML} (hI : Inv X I L) (hN : ∀ X I L, Inv X I L → Ex G mL_law rmL Q (138 + 8 * (j + 1), 17299 + 4700 * (j + 1)) X I L 18 [(0, .ref b), (1, .ref (gB G + 0)), (2, .ref (gB G + 99)), (3, .int (nI (6 * (j + 1))))] []) : Ex G mL_law rmL Q (138 + 8 * j, 17299 + 4700 * j) X I L 1640 [(0, .ref b), (1, .ref (gB G + 0)), (2, .ref (gB G + 99)), (3, .int (nI (6 * j)))] [] := by
  obtain ⟨hM, hO⟩ := hSh _ _ _ hI
  obtain ⟨r, I1, L1, I2, L2, h1, h2, hI2⟩ := hT _ _ _  hI
  refine ex_aload_n 1 (pc' := 1641) dL_law_1640 rfl rfl rfl ?_
  refine ex_callV_i (rm' := rmX10_restore) (st := []) (pc' := 1644) [] dL_law_1641 cl_L_192 (k_X10_restore G hM h1) rfl (sh10_k hM) ⟨_, _, rfl⟩ rfl rfl ⟨⟨Nat.le_of_ble_eq_true rfl, Nat.le_of_ble_eq_true rfl⟩, by show 138 + 8 * j + 0 ≤ 600000; omega, by show 17299 + 4700 * j + 0 ≤ 7302250; omega⟩ (Nat.le_of_ble_eq_true rfl) rfl rfl ?_
  refine ex_aload_n 2 (pc' := 1645) dL_law_1644 rfl rfl rfl ?_
  refine ex_callV_i (rm' := rmX11_restore) (st := [.int r]) (pc' := 1648) [] dL_law_1645 cl_L_195 (k_X11_restore G hO h2) rfl (sh11_k hO) ⟨_, _, rfl⟩ rfl rfl ⟨⟨Nat.le_of_ble_eq_true rfl, Nat.le_of_ble_eq_true rfl⟩, by show 138 + 8 * j + 0 ≤ 600000; omega, by show 17299 + 4700 * j + 0 ≤ 7302250; omega⟩ (Nat.le_of_ble_eq_true rfl) rfl rfl ?_
  refine ex_icmpeq (tgt := 1889) (pc' := 1651) dL_law_1648 (by decide) rfl (fun _ => ?_) (fun h => absurd rfl h)
  exact law_tail (c := 138 + 8 * j) (t := 17299 + 4700 * j) (by omega) (by omega) (hN _ _ _ hI2)
set_option maxRecDepth 100000 in
set_option maxHeartbeats 4000000 in
theorem law_c44 {G : GX} {Q : State → Prop} {b Ln j N : Nat} {xs : Nat → Int32} {Inv : MX → MI → ML → Prop} (hs : ScrOk G b Ln xs) (hj : j ≤ 512) (hSh : ∀ X I L, Inv X I L → shX10 X ∧ shX11 X) (hT : S_told N Inv) (hi1 : vp_in (nI (6 * j) + 1) Ln) {X : MX} {I : MI} {L : ML} (hI : Inv X I L) (hN : ∀ X I L, Inv X I L → Ex G mL_law rmL Q (138 + 8 * (j + 1), 17299 + 4700 * (j + 1)) X I L 18 [(0, .ref b), (1, .ref (gB G + 0)), (2, .ref (gB G + 99)), (3, .int (nI (6 * (j + 1))))] []) : Ex G mL_law rmL Q (138 + 8 * j, 17299 + 4700 * j) X I L 1653 [(0, .ref b), (1, .ref (gB G + 0)), (2, .ref (gB G + 99)), (3, .int (nI (6 * j)))] [] := by
  obtain ⟨hM, hO⟩ := hSh _ _ _ hI
  obtain ⟨r, h1, h2, hI2⟩ := hT _ _ _ ((xs (Int32.toNatClampNeg (nI (6 * j) + 1)))) hI
  refine ex_aload_n 1 (pc' := 1654) dL_law_1653 rfl rfl rfl ?_
  refine ex_aload_n 0 (pc' := 1655) dL_law_1654 rfl rfl rfl ?_
  refine ex_iload_n 3 (pc' := 1656) dL_law_1655 rfl rfl rfl ?_
  refine ex_iconst (v := 1) (pc' := 1657) dL_law_1656 ic_1 rfl ?_
  refine ex_iadd (pc' := 1658) dL_law_1657 rfl ?_
  refine ex_sald hs (pc' := 1659) dL_law_1658 hi1 rfl ?_
  refine ex_callV_i (rm' := rmX10_told) (st := []) (pc' := 1662) [.int (xs (Int32.toNatClampNeg (nI (6 * j) + 1)))] dL_law_1659 cl_L_196 (k_X10_told G hM h1) rfl (sh10_k hM) ⟨_, _, rfl⟩ rfl rfl ⟨⟨Nat.le_of_ble_eq_true rfl, Nat.le_of_ble_eq_true rfl⟩, by show 138 + 8 * j + 0 ≤ 600000; omega, by show 17299 + 4700 * j + 0 ≤ 7302250; omega⟩ (Nat.le_of_ble_eq_true rfl) rfl rfl ?_
  refine ex_aload_n 2 (pc' := 1663) dL_law_1662 rfl rfl rfl ?_
  refine ex_aload_n 0 (pc' := 1664) dL_law_1663 rfl rfl rfl ?_
  refine ex_iload_n 3 (pc' := 1665) dL_law_1664 rfl rfl rfl ?_
  refine ex_iconst (v := 1) (pc' := 1666) dL_law_1665 ic_1 rfl ?_
  refine ex_iadd (pc' := 1667) dL_law_1666 rfl ?_
  refine ex_sald hs (pc' := 1668) dL_law_1667 hi1 rfl ?_
  refine ex_callV_i (rm' := rmX11_told) (st := [.int r]) (pc' := 1671) [.int (xs (Int32.toNatClampNeg (nI (6 * j) + 1)))] dL_law_1668 cl_L_199 (k_X11_told G hO h2) rfl (sh11_k hO) ⟨_, _, rfl⟩ rfl rfl ⟨⟨Nat.le_of_ble_eq_true rfl, Nat.le_of_ble_eq_true rfl⟩, by show 138 + 8 * j + 0 ≤ 600000; omega, by show 17299 + 4700 * j + 0 ≤ 7302250; omega⟩ (Nat.le_of_ble_eq_true rfl) rfl rfl ?_
  refine ex_icmpeq (tgt := 1889) (pc' := 1674) dL_law_1671 (by decide) rfl (fun _ => ?_) (fun h => absurd rfl h)
  exact law_tail (c := 138 + 8 * j) (t := 17299 + 4700 * j) (by omega) (by omega) (hN _ _ _ hI2)
set_option maxRecDepth 100000 in
set_option maxHeartbeats 4000000 in
theorem law_c45 {G : GX} {Q : State → Prop} {b Ln j N : Nat} {xs : Nat → Int32} {Inv : MX → MI → ML → Prop} (hs : ScrOk G b Ln xs) (hj : j ≤ 512) (hSh : ∀ X I L, Inv X I L → shX10 X ∧ shX11 X) (hT : S_tape N Inv) (hi1 : vp_in (nI (6 * j) + 1) Ln) (hi2 : vp_in (nI (6 * j) + 2) Ln) (hi3 : vp_in (nI (6 * j) + 3) Ln) {X : MX} {I : MI} {L : ML} (hI : Inv X I L) (hN : ∀ X I L, Inv X I L → Ex G mL_law rmL Q (138 + 8 * (j + 1), 17299 + 4700 * (j + 1)) X I L 18 [(0, .ref b), (1, .ref (gB G + 0)), (2, .ref (gB G + 99)), (3, .int (nI (6 * (j + 1))))] []) : Ex G mL_law rmL Q (138 + 8 * j, 17299 + 4700 * j) X I L 1676 [(0, .ref b), (1, .ref (gB G + 0)), (2, .ref (gB G + 99)), (3, .int (nI (6 * j)))] [] := by
  obtain ⟨hM, hO⟩ := hSh _ _ _ hI
  obtain ⟨r, I1, L1, I2, L2, h1, h2, hI2⟩ := hT _ _ _ ((xs (Int32.toNatClampNeg (nI (6 * j) + 1)))) ((xs (Int32.toNatClampNeg (nI (6 * j) + 2)))) ((xs (Int32.toNatClampNeg (nI (6 * j) + 3)))) hI
  refine ex_aload_n 1 (pc' := 1677) dL_law_1676 rfl rfl rfl ?_
  refine ex_aload_n 0 (pc' := 1678) dL_law_1677 rfl rfl rfl ?_
  refine ex_iload_n 3 (pc' := 1679) dL_law_1678 rfl rfl rfl ?_
  refine ex_iconst (v := 1) (pc' := 1680) dL_law_1679 ic_1 rfl ?_
  refine ex_iadd (pc' := 1681) dL_law_1680 rfl ?_
  refine ex_sald hs (pc' := 1682) dL_law_1681 hi1 rfl ?_
  refine ex_aload_n 0 (pc' := 1683) dL_law_1682 rfl rfl rfl ?_
  refine ex_iload_n 3 (pc' := 1684) dL_law_1683 rfl rfl rfl ?_
  refine ex_iconst (v := 2) (pc' := 1685) dL_law_1684 ic_2 rfl ?_
  refine ex_iadd (pc' := 1686) dL_law_1685 rfl ?_
  refine ex_sald hs (pc' := 1687) dL_law_1686 hi2 rfl ?_
  refine ex_aload_n 0 (pc' := 1688) dL_law_1687 rfl rfl rfl ?_
  refine ex_iload_n 3 (pc' := 1689) dL_law_1688 rfl rfl rfl ?_
  refine ex_iconst (v := 3) (pc' := 1690) dL_law_1689 ic_3 rfl ?_
  refine ex_iadd (pc' := 1691) dL_law_1690 rfl ?_
  refine ex_sald hs (pc' := 1692) dL_law_1691 hi3 rfl ?_
  refine ex_callV_i (rm' := rmX10_tape) (st := []) (pc' := 1695) [.int (xs (Int32.toNatClampNeg (nI (6 * j) + 1))), .int (xs (Int32.toNatClampNeg (nI (6 * j) + 2))), .int (xs (Int32.toNatClampNeg (nI (6 * j) + 3)))] dL_law_1692 cl_L_200 (k_X10_tape G hM h1) rfl (sh10_k hM) ⟨_, _, rfl⟩ rfl rfl ⟨⟨Nat.le_of_ble_eq_true rfl, Nat.le_of_ble_eq_true rfl⟩, by show 138 + 8 * j + 0 ≤ 600000; omega, by show 17299 + 4700 * j + 0 ≤ 7302250; omega⟩ (Nat.le_of_ble_eq_true rfl) rfl rfl ?_
  refine ex_aload_n 2 (pc' := 1696) dL_law_1695 rfl rfl rfl ?_
  refine ex_aload_n 0 (pc' := 1697) dL_law_1696 rfl rfl rfl ?_
  refine ex_iload_n 3 (pc' := 1698) dL_law_1697 rfl rfl rfl ?_
  refine ex_iconst (v := 1) (pc' := 1699) dL_law_1698 ic_1 rfl ?_
  refine ex_iadd (pc' := 1700) dL_law_1699 rfl ?_
  refine ex_sald hs (pc' := 1701) dL_law_1700 hi1 rfl ?_
  refine ex_aload_n 0 (pc' := 1702) dL_law_1701 rfl rfl rfl ?_
  refine ex_iload_n 3 (pc' := 1703) dL_law_1702 rfl rfl rfl ?_
  refine ex_iconst (v := 2) (pc' := 1704) dL_law_1703 ic_2 rfl ?_
  refine ex_iadd (pc' := 1705) dL_law_1704 rfl ?_
  refine ex_sald hs (pc' := 1706) dL_law_1705 hi2 rfl ?_
  refine ex_aload_n 0 (pc' := 1707) dL_law_1706 rfl rfl rfl ?_
  refine ex_iload_n 3 (pc' := 1708) dL_law_1707 rfl rfl rfl ?_
  refine ex_iconst (v := 3) (pc' := 1709) dL_law_1708 ic_3 rfl ?_
  refine ex_iadd (pc' := 1710) dL_law_1709 rfl ?_
  refine ex_sald hs (pc' := 1711) dL_law_1710 hi3 rfl ?_
  refine ex_callV_i (rm' := rmX11_tape) (st := [.int r]) (pc' := 1714) [.int (xs (Int32.toNatClampNeg (nI (6 * j) + 1))), .int (xs (Int32.toNatClampNeg (nI (6 * j) + 2))), .int (xs (Int32.toNatClampNeg (nI (6 * j) + 3)))] dL_law_1711 cl_L_203 (k_X11_tape G hO h2) rfl (sh11_k hO) ⟨_, _, rfl⟩ rfl rfl ⟨⟨Nat.le_of_ble_eq_true rfl, Nat.le_of_ble_eq_true rfl⟩, by show 138 + 8 * j + 0 ≤ 600000; omega, by show 17299 + 4700 * j + 0 ≤ 7302250; omega⟩ (Nat.le_of_ble_eq_true rfl) rfl rfl ?_
  refine ex_icmpeq (tgt := 1889) (pc' := 1717) dL_law_1714 (by decide) rfl (fun _ => ?_) (fun h => absurd rfl h)
  exact law_tail (c := 138 + 8 * j) (t := 17299 + 4700 * j) (by omega) (by omega) (hN _ _ _ hI2)
set_option maxRecDepth 100000 in
set_option maxHeartbeats 4000000 in
theorem law_c46 {G : GX} {Q : State → Prop} {b Ln j N : Nat} {xs : Nat → Int32} {Inv : MX → MI → ML → Prop} (hs : ScrOk G b Ln xs) (hj : j ≤ 512) (hSh : ∀ X I L, Inv X I L → shX10 X ∧ shX11 X) (hT : S_item N Inv) (hi1 : vp_in (nI (6 * j) + 1) Ln) (hi2 : vp_in (nI (6 * j) + 2) Ln) (hi3 : vp_in (nI (6 * j) + 3) Ln) (hi4 : vp_in (nI (6 * j) + 4) Ln) {X : MX} {I : MI} {L : ML} (hI : Inv X I L) (hN : ∀ X I L, Inv X I L → Ex G mL_law rmL Q (138 + 8 * (j + 1), 17299 + 4700 * (j + 1)) X I L 18 [(0, .ref b), (1, .ref (gB G + 0)), (2, .ref (gB G + 99)), (3, .int (nI (6 * (j + 1))))] []) : Ex G mL_law rmL Q (138 + 8 * j, 17299 + 4700 * j) X I L 1719 [(0, .ref b), (1, .ref (gB G + 0)), (2, .ref (gB G + 99)), (3, .int (nI (6 * j)))] [] := by
  obtain ⟨hM, hO⟩ := hSh _ _ _ hI
  obtain ⟨r, L1, L2, h1, h2, hI2⟩ := hT _ _ _ ((xs (Int32.toNatClampNeg (nI (6 * j) + 1)))) ((xs (Int32.toNatClampNeg (nI (6 * j) + 2)))) (((jlshl (Int32.toInt64 (xs (Int32.toNatClampNeg (nI (6 * j) + 3)))) 32) ||| ((Int32.toInt64 (xs (Int32.toNatClampNeg (nI (6 * j) + 4)))) &&& 4294967295))) hI
  refine ex_aload_n 1 (pc' := 1720) dL_law_1719 rfl rfl rfl ?_
  refine ex_aload_n 0 (pc' := 1721) dL_law_1720 rfl rfl rfl ?_
  refine ex_iload_n 3 (pc' := 1722) dL_law_1721 rfl rfl rfl ?_
  refine ex_iconst (v := 1) (pc' := 1723) dL_law_1722 ic_1 rfl ?_
  refine ex_iadd (pc' := 1724) dL_law_1723 rfl ?_
  refine ex_sald hs (pc' := 1725) dL_law_1724 hi1 rfl ?_
  refine ex_aload_n 0 (pc' := 1726) dL_law_1725 rfl rfl rfl ?_
  refine ex_iload_n 3 (pc' := 1727) dL_law_1726 rfl rfl rfl ?_
  refine ex_iconst (v := 2) (pc' := 1728) dL_law_1727 ic_2 rfl ?_
  refine ex_iadd (pc' := 1729) dL_law_1728 rfl ?_
  refine ex_sald hs (pc' := 1730) dL_law_1729 hi2 rfl ?_
  refine ex_aload_n 0 (pc' := 1731) dL_law_1730 rfl rfl rfl ?_
  refine ex_iload_n 3 (pc' := 1732) dL_law_1731 rfl rfl rfl ?_
  refine ex_iconst (v := 3) (pc' := 1733) dL_law_1732 ic_3 rfl ?_
  refine ex_iadd (pc' := 1734) dL_law_1733 rfl ?_
  refine ex_sald hs (pc' := 1735) dL_law_1734 hi3 rfl ?_
  refine ex_i2l (pc' := 1736) dL_law_1735 rfl ?_
  refine ex_bipush (v := 32) (pc' := 1738) dL_law_1736 bp_32 rfl ?_
  refine ex_lshl (pc' := 1739) dL_law_1738 rfl ?_
  refine ex_aload_n 0 (pc' := 1740) dL_law_1739 rfl rfl rfl ?_
  refine ex_iload_n 3 (pc' := 1741) dL_law_1740 rfl rfl rfl ?_
  refine ex_iconst (v := 4) (pc' := 1742) dL_law_1741 ic_4 rfl ?_
  refine ex_iadd (pc' := 1743) dL_law_1742 rfl ?_
  refine ex_sald hs (pc' := 1744) dL_law_1743 hi4 rfl ?_
  refine ex_i2l (pc' := 1745) dL_law_1744 rfl ?_
  refine ex_ldc2 (v := 4294967295) (pc' := 1748) dL_law_1745 co_L_204 rfl ?_
  refine ex_land (pc' := 1749) dL_law_1748 rfl ?_
  refine ex_lor (pc' := 1750) dL_law_1749 rfl ?_
  refine ex_callV_i (rm' := rmX10_item) (st := []) (pc' := 1753) [.int (xs (Int32.toNatClampNeg (nI (6 * j) + 1))), .int (xs (Int32.toNatClampNeg (nI (6 * j) + 2))), .long ((jlshl (Int32.toInt64 (xs (Int32.toNatClampNeg (nI (6 * j) + 3)))) 32) ||| ((Int32.toInt64 (xs (Int32.toNatClampNeg (nI (6 * j) + 4)))) &&& 4294967295))] dL_law_1750 cl_L_206 (k_X10_item G hM h1) rfl (sh10_k hM) ⟨_, _, rfl⟩ rfl rfl ⟨⟨Nat.le_of_ble_eq_true rfl, Nat.le_of_ble_eq_true rfl⟩, by show 138 + 8 * j + 0 ≤ 600000; omega, by show 17299 + 4700 * j + 0 ≤ 7302250; omega⟩ (Nat.le_of_ble_eq_true rfl) rfl rfl ?_
  refine ex_aload_n 2 (pc' := 1754) dL_law_1753 rfl rfl rfl ?_
  refine ex_aload_n 0 (pc' := 1755) dL_law_1754 rfl rfl rfl ?_
  refine ex_iload_n 3 (pc' := 1756) dL_law_1755 rfl rfl rfl ?_
  refine ex_iconst (v := 1) (pc' := 1757) dL_law_1756 ic_1 rfl ?_
  refine ex_iadd (pc' := 1758) dL_law_1757 rfl ?_
  refine ex_sald hs (pc' := 1759) dL_law_1758 hi1 rfl ?_
  refine ex_aload_n 0 (pc' := 1760) dL_law_1759 rfl rfl rfl ?_
  refine ex_iload_n 3 (pc' := 1761) dL_law_1760 rfl rfl rfl ?_
  refine ex_iconst (v := 2) (pc' := 1762) dL_law_1761 ic_2 rfl ?_
  refine ex_iadd (pc' := 1763) dL_law_1762 rfl ?_
  refine ex_sald hs (pc' := 1764) dL_law_1763 hi2 rfl ?_
  refine ex_aload_n 0 (pc' := 1765) dL_law_1764 rfl rfl rfl ?_
  refine ex_iload_n 3 (pc' := 1766) dL_law_1765 rfl rfl rfl ?_
  refine ex_iconst (v := 3) (pc' := 1767) dL_law_1766 ic_3 rfl ?_
  refine ex_iadd (pc' := 1768) dL_law_1767 rfl ?_
  refine ex_sald hs (pc' := 1769) dL_law_1768 hi3 rfl ?_
  refine ex_i2l (pc' := 1770) dL_law_1769 rfl ?_
  refine ex_bipush (v := 32) (pc' := 1772) dL_law_1770 bp_32 rfl ?_
  refine ex_lshl (pc' := 1773) dL_law_1772 rfl ?_
  refine ex_aload_n 0 (pc' := 1774) dL_law_1773 rfl rfl rfl ?_
  refine ex_iload_n 3 (pc' := 1775) dL_law_1774 rfl rfl rfl ?_
  refine ex_iconst (v := 4) (pc' := 1776) dL_law_1775 ic_4 rfl ?_
  refine ex_iadd (pc' := 1777) dL_law_1776 rfl ?_
  refine ex_sald hs (pc' := 1778) dL_law_1777 hi4 rfl ?_
  refine ex_i2l (pc' := 1779) dL_law_1778 rfl ?_
  refine ex_ldc2 (v := 4294967295) (pc' := 1782) dL_law_1779 co_L_204 rfl ?_
  refine ex_land (pc' := 1783) dL_law_1782 rfl ?_
  refine ex_lor (pc' := 1784) dL_law_1783 rfl ?_
  refine ex_callV_i (rm' := rmX11_item) (st := [.int r]) (pc' := 1787) [.int (xs (Int32.toNatClampNeg (nI (6 * j) + 1))), .int (xs (Int32.toNatClampNeg (nI (6 * j) + 2))), .long ((jlshl (Int32.toInt64 (xs (Int32.toNatClampNeg (nI (6 * j) + 3)))) 32) ||| ((Int32.toInt64 (xs (Int32.toNatClampNeg (nI (6 * j) + 4)))) &&& 4294967295))] dL_law_1784 cl_L_210 (k_X11_item G hO h2) rfl (sh11_k hO) ⟨_, _, rfl⟩ rfl rfl ⟨⟨Nat.le_of_ble_eq_true rfl, Nat.le_of_ble_eq_true rfl⟩, by show 138 + 8 * j + 0 ≤ 600000; omega, by show 17299 + 4700 * j + 0 ≤ 7302250; omega⟩ (Nat.le_of_ble_eq_true rfl) rfl rfl ?_
  refine ex_icmpeq (tgt := 1889) (pc' := 1790) dL_law_1787 (by decide) rfl (fun _ => ?_) (fun h => absurd rfl h)
  exact law_tail (c := 138 + 8 * j) (t := 17299 + 4700 * j) (by omega) (by omega) (hN _ _ _ hI2)
set_option maxRecDepth 100000 in
set_option maxHeartbeats 4000000 in
theorem law_c47 {G : GX} {Q : State → Prop} {b Ln j N : Nat} {xs : Nat → Int32} {Inv : MX → MI → ML → Prop} (hs : ScrOk G b Ln xs) (hj : j ≤ 512) (hSh : ∀ X I L, Inv X I L → shX10 X ∧ shX11 X) (hT : S_peek N Inv) (hi1 : vp_in (nI (6 * j) + 1) Ln) (hi2 : vp_in (nI (6 * j) + 2) Ln) {X : MX} {I : MI} {L : ML} (hI : Inv X I L) (hN : ∀ X I L, Inv X I L → Ex G mL_law rmL Q (138 + 8 * (j + 1), 17299 + 4700 * (j + 1)) X I L 18 [(0, .ref b), (1, .ref (gB G + 0)), (2, .ref (gB G + 99)), (3, .int (nI (6 * (j + 1))))] []) : Ex G mL_law rmL Q (138 + 8 * j, 17299 + 4700 * j) X I L 1792 [(0, .ref b), (1, .ref (gB G + 0)), (2, .ref (gB G + 99)), (3, .int (nI (6 * j)))] [] := by
  obtain ⟨hM, hO⟩ := hSh _ _ _ hI
  obtain ⟨r, h1, h2, hI2⟩ := hT _ _ _ ((xs (Int32.toNatClampNeg (nI (6 * j) + 1)))) ((xs (Int32.toNatClampNeg (nI (6 * j) + 2)))) hI
  refine ex_aload_n 1 (pc' := 1793) dL_law_1792 rfl rfl rfl ?_
  refine ex_aload_n 0 (pc' := 1794) dL_law_1793 rfl rfl rfl ?_
  refine ex_iload_n 3 (pc' := 1795) dL_law_1794 rfl rfl rfl ?_
  refine ex_iconst (v := 1) (pc' := 1796) dL_law_1795 ic_1 rfl ?_
  refine ex_iadd (pc' := 1797) dL_law_1796 rfl ?_
  refine ex_sald hs (pc' := 1798) dL_law_1797 hi1 rfl ?_
  refine ex_aload_n 0 (pc' := 1799) dL_law_1798 rfl rfl rfl ?_
  refine ex_iload_n 3 (pc' := 1800) dL_law_1799 rfl rfl rfl ?_
  refine ex_iconst (v := 2) (pc' := 1801) dL_law_1800 ic_2 rfl ?_
  refine ex_iadd (pc' := 1802) dL_law_1801 rfl ?_
  refine ex_sald hs (pc' := 1803) dL_law_1802 hi2 rfl ?_
  refine ex_callV_l (rm' := rmX10_peek) (st := []) (pc' := 1806) [.int (xs (Int32.toNatClampNeg (nI (6 * j) + 1))), .int (xs (Int32.toNatClampNeg (nI (6 * j) + 2)))] dL_law_1803 cl_L_211 (k_X10_peek G hM h1) rfl (sh10_k hM) ⟨_, _, rfl⟩ rfl rfl ⟨⟨Nat.le_of_ble_eq_true rfl, Nat.le_of_ble_eq_true rfl⟩, by show 138 + 8 * j + 0 ≤ 600000; omega, by show 17299 + 4700 * j + 0 ≤ 7302250; omega⟩ (Nat.le_of_ble_eq_true rfl) rfl rfl ?_
  refine ex_aload_n 2 (pc' := 1807) dL_law_1806 rfl rfl rfl ?_
  refine ex_aload_n 0 (pc' := 1808) dL_law_1807 rfl rfl rfl ?_
  refine ex_iload_n 3 (pc' := 1809) dL_law_1808 rfl rfl rfl ?_
  refine ex_iconst (v := 1) (pc' := 1810) dL_law_1809 ic_1 rfl ?_
  refine ex_iadd (pc' := 1811) dL_law_1810 rfl ?_
  refine ex_sald hs (pc' := 1812) dL_law_1811 hi1 rfl ?_
  refine ex_aload_n 0 (pc' := 1813) dL_law_1812 rfl rfl rfl ?_
  refine ex_iload_n 3 (pc' := 1814) dL_law_1813 rfl rfl rfl ?_
  refine ex_iconst (v := 2) (pc' := 1815) dL_law_1814 ic_2 rfl ?_
  refine ex_iadd (pc' := 1816) dL_law_1815 rfl ?_
  refine ex_sald hs (pc' := 1817) dL_law_1816 hi2 rfl ?_
  refine ex_callV_l (rm' := rmX11_peek) (st := [.long r]) (pc' := 1820) [.int (xs (Int32.toNatClampNeg (nI (6 * j) + 1))), .int (xs (Int32.toNatClampNeg (nI (6 * j) + 2)))] dL_law_1817 cl_L_214 (k_X11_peek G hO h2) rfl (sh11_k hO) ⟨_, _, rfl⟩ rfl rfl ⟨⟨Nat.le_of_ble_eq_true rfl, Nat.le_of_ble_eq_true rfl⟩, by show 138 + 8 * j + 0 ≤ 600000; omega, by show 17299 + 4700 * j + 0 ≤ 7302250; omega⟩ (Nat.le_of_ble_eq_true rfl) rfl rfl ?_
  refine ex_lcmp (pc' := 1821) dL_law_1820 rfl ?_
  refine ex_lifeq (tgt := 1889) (pc' := 1824) dL_law_1821 (by decide) rfl (fun _ => ?_) (fun h => absurd rfl h)
  exact law_tail (c := 138 + 8 * j) (t := 17299 + 4700 * j) (by omega) (by omega) (hN _ _ _ hI2)
set_option maxRecDepth 100000 in
set_option maxHeartbeats 4000000 in
theorem law_c48 {G : GX} {Q : State → Prop} {b Ln j N : Nat} {xs : Nat → Int32} {Inv : MX → MI → ML → Prop} (hs : ScrOk G b Ln xs) (hj : j ≤ 512) (hSh : ∀ X I L, Inv X I L → shX10 X ∧ shX11 X) (hT : S_shift N Inv) (hi1 : vp_in (nI (6 * j) + 1) Ln) (hi2 : vp_in (nI (6 * j) + 2) Ln) (hi3 : vp_in (nI (6 * j) + 3) Ln) (hi4 : vp_in (nI (6 * j) + 4) Ln) (hi5 : vp_in (nI (6 * j) + 5) Ln) {X : MX} {I : MI} {L : ML} (hI : Inv X I L) (hN : ∀ X I L, Inv X I L → Ex G mL_law rmL Q (138 + 8 * (j + 1), 17299 + 4700 * (j + 1)) X I L 18 [(0, .ref b), (1, .ref (gB G + 0)), (2, .ref (gB G + 99)), (3, .int (nI (6 * (j + 1))))] []) : Ex G mL_law rmL Q (138 + 8 * j, 17299 + 4700 * j) X I L 1826 [(0, .ref b), (1, .ref (gB G + 0)), (2, .ref (gB G + 99)), (3, .int (nI (6 * j)))] [] := by
  obtain ⟨hM, hO⟩ := hSh _ _ _ hI
  obtain ⟨r, L1, L2, h1, h2, hI2⟩ := hT _ _ _ ((xs (Int32.toNatClampNeg (nI (6 * j) + 1)))) ((xs (Int32.toNatClampNeg (nI (6 * j) + 2)))) ((xs (Int32.toNatClampNeg (nI (6 * j) + 3)))) ((xs (Int32.toNatClampNeg (nI (6 * j) + 4)))) ((xs (Int32.toNatClampNeg (nI (6 * j) + 5)))) hI
  refine ex_aload_n 1 (pc' := 1827) dL_law_1826 rfl rfl rfl ?_
  refine ex_aload_n 0 (pc' := 1828) dL_law_1827 rfl rfl rfl ?_
  refine ex_iload_n 3 (pc' := 1829) dL_law_1828 rfl rfl rfl ?_
  refine ex_iconst (v := 1) (pc' := 1830) dL_law_1829 ic_1 rfl ?_
  refine ex_iadd (pc' := 1831) dL_law_1830 rfl ?_
  refine ex_sald hs (pc' := 1832) dL_law_1831 hi1 rfl ?_
  refine ex_aload_n 0 (pc' := 1833) dL_law_1832 rfl rfl rfl ?_
  refine ex_iload_n 3 (pc' := 1834) dL_law_1833 rfl rfl rfl ?_
  refine ex_iconst (v := 2) (pc' := 1835) dL_law_1834 ic_2 rfl ?_
  refine ex_iadd (pc' := 1836) dL_law_1835 rfl ?_
  refine ex_sald hs (pc' := 1837) dL_law_1836 hi2 rfl ?_
  refine ex_aload_n 0 (pc' := 1838) dL_law_1837 rfl rfl rfl ?_
  refine ex_iload_n 3 (pc' := 1839) dL_law_1838 rfl rfl rfl ?_
  refine ex_iconst (v := 3) (pc' := 1840) dL_law_1839 ic_3 rfl ?_
  refine ex_iadd (pc' := 1841) dL_law_1840 rfl ?_
  refine ex_sald hs (pc' := 1842) dL_law_1841 hi3 rfl ?_
  refine ex_aload_n 0 (pc' := 1843) dL_law_1842 rfl rfl rfl ?_
  refine ex_iload_n 3 (pc' := 1844) dL_law_1843 rfl rfl rfl ?_
  refine ex_iconst (v := 4) (pc' := 1845) dL_law_1844 ic_4 rfl ?_
  refine ex_iadd (pc' := 1846) dL_law_1845 rfl ?_
  refine ex_sald hs (pc' := 1847) dL_law_1846 hi4 rfl ?_
  refine ex_aload_n 0 (pc' := 1848) dL_law_1847 rfl rfl rfl ?_
  refine ex_iload_n 3 (pc' := 1849) dL_law_1848 rfl rfl rfl ?_
  refine ex_iconst (v := 5) (pc' := 1850) dL_law_1849 ic_5 rfl ?_
  refine ex_iadd (pc' := 1851) dL_law_1850 rfl ?_
  refine ex_sald hs (pc' := 1852) dL_law_1851 hi5 rfl ?_
  refine ex_callV_i (rm' := rmX10_shift) (st := []) (pc' := 1855) [.int (xs (Int32.toNatClampNeg (nI (6 * j) + 1))), .int (xs (Int32.toNatClampNeg (nI (6 * j) + 2))), .int (xs (Int32.toNatClampNeg (nI (6 * j) + 3))), .int (xs (Int32.toNatClampNeg (nI (6 * j) + 4))), .int (xs (Int32.toNatClampNeg (nI (6 * j) + 5)))] dL_law_1852 cl_L_215 (k_X10_shift G hM h1) rfl (sh10_k hM) ⟨_, _, rfl⟩ rfl rfl ⟨⟨Nat.le_of_ble_eq_true rfl, Nat.le_of_ble_eq_true rfl⟩, by show 138 + 8 * j + 0 ≤ 600000; omega, by show 17299 + 4700 * j + 0 ≤ 7302250; omega⟩ (Nat.le_of_ble_eq_true rfl) rfl rfl ?_
  refine ex_aload_n 2 (pc' := 1856) dL_law_1855 rfl rfl rfl ?_
  refine ex_aload_n 0 (pc' := 1857) dL_law_1856 rfl rfl rfl ?_
  refine ex_iload_n 3 (pc' := 1858) dL_law_1857 rfl rfl rfl ?_
  refine ex_iconst (v := 1) (pc' := 1859) dL_law_1858 ic_1 rfl ?_
  refine ex_iadd (pc' := 1860) dL_law_1859 rfl ?_
  refine ex_sald hs (pc' := 1861) dL_law_1860 hi1 rfl ?_
  refine ex_aload_n 0 (pc' := 1862) dL_law_1861 rfl rfl rfl ?_
  refine ex_iload_n 3 (pc' := 1863) dL_law_1862 rfl rfl rfl ?_
  refine ex_iconst (v := 2) (pc' := 1864) dL_law_1863 ic_2 rfl ?_
  refine ex_iadd (pc' := 1865) dL_law_1864 rfl ?_
  refine ex_sald hs (pc' := 1866) dL_law_1865 hi2 rfl ?_
  refine ex_aload_n 0 (pc' := 1867) dL_law_1866 rfl rfl rfl ?_
  refine ex_iload_n 3 (pc' := 1868) dL_law_1867 rfl rfl rfl ?_
  refine ex_iconst (v := 3) (pc' := 1869) dL_law_1868 ic_3 rfl ?_
  refine ex_iadd (pc' := 1870) dL_law_1869 rfl ?_
  refine ex_sald hs (pc' := 1871) dL_law_1870 hi3 rfl ?_
  refine ex_aload_n 0 (pc' := 1872) dL_law_1871 rfl rfl rfl ?_
  refine ex_iload_n 3 (pc' := 1873) dL_law_1872 rfl rfl rfl ?_
  refine ex_iconst (v := 4) (pc' := 1874) dL_law_1873 ic_4 rfl ?_
  refine ex_iadd (pc' := 1875) dL_law_1874 rfl ?_
  refine ex_sald hs (pc' := 1876) dL_law_1875 hi4 rfl ?_
  refine ex_aload_n 0 (pc' := 1877) dL_law_1876 rfl rfl rfl ?_
  refine ex_iload_n 3 (pc' := 1878) dL_law_1877 rfl rfl rfl ?_
  refine ex_iconst (v := 5) (pc' := 1879) dL_law_1878 ic_5 rfl ?_
  refine ex_iadd (pc' := 1880) dL_law_1879 rfl ?_
  refine ex_sald hs (pc' := 1881) dL_law_1880 hi5 rfl ?_
  refine ex_callV_i (rm' := rmX11_shift) (st := [.int r]) (pc' := 1884) [.int (xs (Int32.toNatClampNeg (nI (6 * j) + 1))), .int (xs (Int32.toNatClampNeg (nI (6 * j) + 2))), .int (xs (Int32.toNatClampNeg (nI (6 * j) + 3))), .int (xs (Int32.toNatClampNeg (nI (6 * j) + 4))), .int (xs (Int32.toNatClampNeg (nI (6 * j) + 5)))] dL_law_1881 cl_L_219 (k_X11_shift G hO h2) rfl (sh11_k hO) ⟨_, _, rfl⟩ rfl rfl ⟨⟨Nat.le_of_ble_eq_true rfl, Nat.le_of_ble_eq_true rfl⟩, by show 138 + 8 * j + 0 ≤ 600000; omega, by show 17299 + 4700 * j + 0 ≤ 7302250; omega⟩ (Nat.le_of_ble_eq_true rfl) rfl rfl ?_
  refine ex_icmpeq (tgt := 1889) (pc' := 1887) dL_law_1884 (by decide) rfl (fun _ => ?_) (fun h => absurd rfl h)
  exact law_tail (c := 138 + 8 * j) (t := 17299 + 4700 * j) (by omega) (by omega) (hN _ _ _ hI2)
set_option maxRecDepth 100000 in
set_option maxHeartbeats 8000000 in
theorem law_loop {G : GX} {Q : State → Prop} {b Ln N : Nat} {xs : Nat → Int32} {Inv : MX → MI → ML → Prop} (hs : ScrOk G b Ln xs) (hLn : Ln ≤ 3072) (hSh : ∀ X I L, Inv X I L → shX10 X ∧ shX11 X) (hStep : Steps49 N Inv) (hEnd : ∀ (kn : Nat × Nat) (X : MX) (I : MI) (L : ML) (lv : List (Nat × Value)), kn.1 ≤ 600000 → kn.2 ≤ 7302250 → Ex G mL_law rmL Q kn X I L 1896 lv [.int 1]) : ∀ (t j : Nat) (X : MX) (I : MI) (L : ML), 6 * j ≤ Ln + 6 → Ln + 7 ≤ t + 6 * j → Inv X I L → Ex G mL_law rmL Q (138 + 8 * j, 17299 + 4700 * j) X I L 18 [(0, .ref b), (1, .ref (gB G + 0)), (2, .ref (gB G + 99)), (3, .int (nI (6 * j)))] [] := by
  intro t
  induction t with
  | zero => intro j X I L h1 h2 hI; omega
  | succ t ih =>
    intro j X I L h1 h2 hI
    refine ex_iload_n 3 (pc' := 19) dL_law_18 rfl rfl rfl ?_
    refine ex_aload_n 0 (pc' := 20) dL_law_19 rfl rfl rfl ?_
    refine ex_slen hs (pc' := 21) dL_law_20 rfl ?_
    refine ex_bipush (v := 6) (pc' := 23) dL_law_21 bp_6 rfl ?_
    refine ex_isub (pc' := 24) dL_law_23 rfl ?_
    refine ex_icmpgt (tgt := 1895) (pc' := 27) dL_law_24 (by decide) rfl (fun hc => ?_) (fun hc => ?_)
    · refine ex_iconst (v := 1) (pc' := 1896) dL_law_1895 ic_1 rfl ?_
      exact hEnd _ _ _ _ _ (by show 138 + 8 * j ≤ 600000; omega) (by show 17299 + 4700 * j ≤ 7302250; omega)
    · have hlt : ¬ Ln < 6 * j + 6 := fun h => hc ((law_gt (by omega) (by omega)).mpr h)
      have hi0 : vp_in (nI (6 * j)) Ln := vp_in_nI (by omega) (by omega)
      have hi1 : vp_in (nI (6 * j) + 1) Ln := by rw [← nI_c1]; exact law_in (by omega) (by omega)
      have hi2 : vp_in (nI (6 * j) + 2) Ln := by rw [← nI_c2]; exact law_in (by omega) (by omega)
      have hi3 : vp_in (nI (6 * j) + 3) Ln := by rw [← nI_c3]; exact law_in (by omega) (by omega)
      have hi4 : vp_in (nI (6 * j) + 4) Ln := by rw [← nI_c4]; exact law_in (by omega) (by omega)
      have hi5 : vp_in (nI (6 * j) + 5) Ln := by rw [← nI_c5]; exact law_in (by omega) (by omega)
      refine ex_aload_n 0 (pc' := 28) dL_law_27 rfl rfl rfl ?_
      refine ex_iload_n 3 (pc' := 29) dL_law_28 rfl rfl rfl ?_
      refine ex_sald hs (pc' := 30) dL_law_29 hi0 rfl ?_
      refine ex_bipush (v := 63) (pc' := 32) dL_law_30 bp_63 rfl ?_
      refine ex_iand (pc' := 33) dL_law_32 rfl ?_
      generalize xs (Int32.toNatClampNeg (nI (6 * j))) &&& 63 = w0
      have hN : ∀ X I L, Inv X I L → Ex G mL_law rmL Q (138 + 8 * (j + 1), 17299 + 4700 * (j + 1)) X I L 18 [(0, .ref b), (1, .ref (gB G + 0)), (2, .ref (gB G + 99)), (3, .int (nI (6 * (j + 1))))] [] := fun X I L h => ih (j + 1) X I L (by omega) (by omega) h
      by_cases hw0 : w0 = 0
      · refine ex_tableIn (off := 211) (tgt := 244) dL_law_33 (by rw [hw0]; decide) (by rw [hw0]; decide) (by rw [hw0]; decide) (by decide) ?_
        exact law_c0 hs (by omega) hSh hStep.1 hi1 hi2 hI hN
      by_cases hw1 : w0 = 1
      · refine ex_tableIn (off := 244) (tgt := 277) dL_law_33 (by rw [hw1]; decide) (by rw [hw1]; decide) (by rw [hw1]; decide) (by decide) ?_
        exact law_c1 hs (by omega) hSh hStep.2.1 hi1 hI hN
      by_cases hw2 : w0 = 2
      · refine ex_tableIn (off := 267) (tgt := 300) dL_law_33 (by rw [hw2]; decide) (by rw [hw2]; decide) (by rw [hw2]; decide) (by decide) ?_
        exact law_c2 hs (by omega) hSh hStep.2.2.1 hi1 hi2 hi3 hI hN
      by_cases hw3 : w0 = 3
      · refine ex_tableIn (off := 310) (tgt := 343) dL_law_33 (by rw [hw3]; decide) (by rw [hw3]; decide) (by rw [hw3]; decide) (by decide) ?_
        exact law_c3 hs (by omega) hSh hStep.2.2.2.1 hi1 hi2 hI hN
      by_cases hw4 : w0 = 4
      · refine ex_tableIn (off := 343) (tgt := 376) dL_law_33 (by rw [hw4]; decide) (by rw [hw4]; decide) (by rw [hw4]; decide) (by decide) ?_
        exact law_c4 hs (by omega) hSh hStep.2.2.2.2.1 hi1 hI hN
      by_cases hw5 : w0 = 5
      · refine ex_tableIn (off := 366) (tgt := 399) dL_law_33 (by rw [hw5]; decide) (by rw [hw5]; decide) (by rw [hw5]; decide) (by decide) ?_
        exact law_c5 hs (by omega) hSh hStep.2.2.2.2.2.1 hi1 hi2 hI hN
      by_cases hw6 : w0 = 6
      · refine ex_tableIn (off := 399) (tgt := 432) dL_law_33 (by rw [hw6]; decide) (by rw [hw6]; decide) (by rw [hw6]; decide) (by decide) ?_
        exact law_c6 hs (by omega) hSh hStep.2.2.2.2.2.2.1 hi1 hi2 hi3 hI hN
      by_cases hw7 : w0 = 7
      · refine ex_tableIn (off := 443) (tgt := 476) dL_law_33 (by rw [hw7]; decide) (by rw [hw7]; decide) (by rw [hw7]; decide) (by decide) ?_
        exact law_c7 hs (by omega) hSh hStep.2.2.2.2.2.2.2.1 hi1 hi2 hI hN
      by_cases hw8 : w0 = 8
      · refine ex_tableIn (off := 477) (tgt := 510) dL_law_33 (by rw [hw8]; decide) (by rw [hw8]; decide) (by rw [hw8]; decide) (by decide) ?_
        exact law_c8 hs (by omega) hSh hStep.2.2.2.2.2.2.2.2.1  hI hN
      by_cases hw9 : w0 = 9
      · refine ex_tableIn (off := 490) (tgt := 523) dL_law_33 (by rw [hw9]; decide) (by rw [hw9]; decide) (by rw [hw9]; decide) (by decide) ?_
        exact law_c9 hs (by omega) hSh hStep.2.2.2.2.2.2.2.2.2.1 hi1 hi2 hI hN
      by_cases hw10 : w0 = 10
      · refine ex_tableIn (off := 523) (tgt := 556) dL_law_33 (by rw [hw10]; decide) (by rw [hw10]; decide) (by rw [hw10]; decide) (by decide) ?_
        exact law_c10 hs (by omega) hSh hStep.2.2.2.2.2.2.2.2.2.2.1 hi1 hI hN
      by_cases hw11 : w0 = 11
      · refine ex_tableIn (off := 546) (tgt := 579) dL_law_33 (by rw [hw11]; decide) (by rw [hw11]; decide) (by rw [hw11]; decide) (by decide) ?_
        exact law_c11 hs (by omega) hSh hStep.2.2.2.2.2.2.2.2.2.2.2.1 hi1 hi2 hI hN
      by_cases hw12 : w0 = 12
      · refine ex_tableIn (off := 580) (tgt := 613) dL_law_33 (by rw [hw12]; decide) (by rw [hw12]; decide) (by rw [hw12]; decide) (by decide) ?_
        exact law_c12 hs (by omega) hSh hStep.2.2.2.2.2.2.2.2.2.2.2.2.1 hi1 hi2 hI hN
      by_cases hw13 : w0 = 13
      · refine ex_tableIn (off := 613) (tgt := 646) dL_law_33 (by rw [hw13]; decide) (by rw [hw13]; decide) (by rw [hw13]; decide) (by decide) ?_
        exact law_c13 hs (by omega) hSh hStep.2.2.2.2.2.2.2.2.2.2.2.2.2.1 hi1 hi2 hi3 hI hN
      by_cases hw14 : w0 = 14
      · refine ex_tableIn (off := 656) (tgt := 689) dL_law_33 (by rw [hw14]; decide) (by rw [hw14]; decide) (by rw [hw14]; decide) (by decide) ?_
        exact law_c14 hs (by omega) hSh hStep.2.2.2.2.2.2.2.2.2.2.2.2.2.2.1 hi1 hi2 hI hN
      by_cases hw15 : w0 = 15
      · refine ex_tableIn (off := 689) (tgt := 722) dL_law_33 (by rw [hw15]; decide) (by rw [hw15]; decide) (by rw [hw15]; decide) (by decide) ?_
        exact law_c15 hs (by omega) hSh hStep.2.2.2.2.2.2.2.2.2.2.2.2.2.2.2.1 hi1 hi2 hi3 hI hN
      by_cases hw16 : w0 = 16
      · refine ex_tableIn (off := 732) (tgt := 765) dL_law_33 (by rw [hw16]; decide) (by rw [hw16]; decide) (by rw [hw16]; decide) (by decide) ?_
        exact law_c16 hs (by omega) hSh hStep.2.2.2.2.2.2.2.2.2.2.2.2.2.2.2.2.1 hi1 hI hN
      by_cases hw17 : w0 = 17
      · refine ex_tableIn (off := 755) (tgt := 788) dL_law_33 (by rw [hw17]; decide) (by rw [hw17]; decide) (by rw [hw17]; decide) (by decide) ?_
        exact law_c17 hs (by omega) hSh hStep.2.2.2.2.2.2.2.2.2.2.2.2.2.2.2.2.2.1 hi1 hI hN
      by_cases hw18 : w0 = 18
      · refine ex_tableIn (off := 778) (tgt := 811) dL_law_33 (by rw [hw18]; decide) (by rw [hw18]; decide) (by rw [hw18]; decide) (by decide) ?_
        exact law_c18 hs (by omega) hSh hStep.2.2.2.2.2.2.2.2.2.2.2.2.2.2.2.2.2.2.1 hi1 hI hN
      by_cases hw19 : w0 = 19
      · refine ex_tableIn (off := 801) (tgt := 834) dL_law_33 (by rw [hw19]; decide) (by rw [hw19]; decide) (by rw [hw19]; decide) (by decide) ?_
        exact law_c19 hs (by omega) hSh hStep.2.2.2.2.2.2.2.2.2.2.2.2.2.2.2.2.2.2.2.1 hi1 hi2 hI hN
      by_cases hw20 : w0 = 20
      · refine ex_tableIn (off := 834) (tgt := 867) dL_law_33 (by rw [hw20]; decide) (by rw [hw20]; decide) (by rw [hw20]; decide) (by decide) ?_
        exact law_c20 hs (by omega) hSh hStep.2.2.2.2.2.2.2.2.2.2.2.2.2.2.2.2.2.2.2.2.1 hi1 hi2 hI hN
      by_cases hw21 : w0 = 21
      · refine ex_tableIn (off := 867) (tgt := 900) dL_law_33 (by rw [hw21]; decide) (by rw [hw21]; decide) (by rw [hw21]; decide) (by decide) ?_
        exact law_c21 hs (by omega) hSh hStep.2.2.2.2.2.2.2.2.2.2.2.2.2.2.2.2.2.2.2.2.2.1 hi1 hi2 hI hN
      by_cases hw22 : w0 = 22
      · refine ex_tableIn (off := 900) (tgt := 933) dL_law_33 (by rw [hw22]; decide) (by rw [hw22]; decide) (by rw [hw22]; decide) (by decide) ?_
        exact law_c22 hs (by omega) hSh hStep.2.2.2.2.2.2.2.2.2.2.2.2.2.2.2.2.2.2.2.2.2.2.1 hi1 hi2 hI hN
      by_cases hw23 : w0 = 23
      · refine ex_tableIn (off := 933) (tgt := 966) dL_law_33 (by rw [hw23]; decide) (by rw [hw23]; decide) (by rw [hw23]; decide) (by decide) ?_
        exact law_c23 hs (by omega) hSh hStep.2.2.2.2.2.2.2.2.2.2.2.2.2.2.2.2.2.2.2.2.2.2.2.1 hi1 hi2 hI hN
      by_cases hw24 : w0 = 24
      · refine ex_tableIn (off := 967) (tgt := 1000) dL_law_33 (by rw [hw24]; decide) (by rw [hw24]; decide) (by rw [hw24]; decide) (by decide) ?_
        exact law_c24 hs (by omega) hSh hStep.2.2.2.2.2.2.2.2.2.2.2.2.2.2.2.2.2.2.2.2.2.2.2.2.1 hi1 hi2 hI hN
      by_cases hw25 : w0 = 25
      · refine ex_tableIn (off := 1001) (tgt := 1034) dL_law_33 (by rw [hw25]; decide) (by rw [hw25]; decide) (by rw [hw25]; decide) (by decide) ?_
        exact law_c25 hs (by omega) hSh hStep.2.2.2.2.2.2.2.2.2.2.2.2.2.2.2.2.2.2.2.2.2.2.2.2.2.1 hi1 hi2 hi3 hI hN
      by_cases hw26 : w0 = 26
      · refine ex_tableIn (off := 1044) (tgt := 1077) dL_law_33 (by rw [hw26]; decide) (by rw [hw26]; decide) (by rw [hw26]; decide) (by decide) ?_
        exact law_c26 hs (by omega) hSh hStep.2.2.2.2.2.2.2.2.2.2.2.2.2.2.2.2.2.2.2.2.2.2.2.2.2.2.1 hi1 hi2 hI hN
      by_cases hw27 : w0 = 27
      · refine ex_tableIn (off := 1077) (tgt := 1110) dL_law_33 (by rw [hw27]; decide) (by rw [hw27]; decide) (by rw [hw27]; decide) (by decide) ?_
        exact law_c27 hs (by omega) hSh hStep.2.2.2.2.2.2.2.2.2.2.2.2.2.2.2.2.2.2.2.2.2.2.2.2.2.2.2.1 hi1 hi2 hi3 hI hN
      by_cases hw28 : w0 = 28
      · refine ex_tableIn (off := 1120) (tgt := 1153) dL_law_33 (by rw [hw28]; decide) (by rw [hw28]; decide) (by rw [hw28]; decide) (by decide) ?_
        exact law_c28 hs (by omega) hSh hStep.2.2.2.2.2.2.2.2.2.2.2.2.2.2.2.2.2.2.2.2.2.2.2.2.2.2.2.2.1 hi1 hi2 hI hN
      by_cases hw29 : w0 = 29
      · refine ex_tableIn (off := 1153) (tgt := 1186) dL_law_33 (by rw [hw29]; decide) (by rw [hw29]; decide) (by rw [hw29]; decide) (by decide) ?_
        exact law_c29 hs (by omega) hSh hStep.2.2.2.2.2.2.2.2.2.2.2.2.2.2.2.2.2.2.2.2.2.2.2.2.2.2.2.2.2.1 hi1 hi2 hI hN
      by_cases hw30 : w0 = 30
      · refine ex_tableIn (off := 1186) (tgt := 1219) dL_law_33 (by rw [hw30]; decide) (by rw [hw30]; decide) (by rw [hw30]; decide) (by decide) ?_
        exact law_c30 hs (by omega) hSh hStep.2.2.2.2.2.2.2.2.2.2.2.2.2.2.2.2.2.2.2.2.2.2.2.2.2.2.2.2.2.2.1 hi1 hi2 hi3 hI hN
      by_cases hw31 : w0 = 31
      · refine ex_tableIn (off := 1229) (tgt := 1262) dL_law_33 (by rw [hw31]; decide) (by rw [hw31]; decide) (by rw [hw31]; decide) (by decide) ?_
        exact law_c31 hs (by omega) hSh hStep.2.2.2.2.2.2.2.2.2.2.2.2.2.2.2.2.2.2.2.2.2.2.2.2.2.2.2.2.2.2.2.1 hi1 hi2 hi3 hI hN
      by_cases hw32 : w0 = 32
      · refine ex_tableIn (off := 1272) (tgt := 1305) dL_law_33 (by rw [hw32]; decide) (by rw [hw32]; decide) (by rw [hw32]; decide) (by decide) ?_
        exact law_c32 hs (by omega) hSh hStep.2.2.2.2.2.2.2.2.2.2.2.2.2.2.2.2.2.2.2.2.2.2.2.2.2.2.2.2.2.2.2.2.1 hi1 hi2 hi3 hi4 hI hN
      by_cases hw33 : w0 = 33
      · refine ex_tableIn (off := 1325) (tgt := 1358) dL_law_33 (by rw [hw33]; decide) (by rw [hw33]; decide) (by rw [hw33]; decide) (by decide) ?_
        exact law_c33 hs (by omega) hSh hStep.2.2.2.2.2.2.2.2.2.2.2.2.2.2.2.2.2.2.2.2.2.2.2.2.2.2.2.2.2.2.2.2.2.1 hi1 hi2 hI hN
      by_cases hw34 : w0 = 34
      · refine ex_tableIn (off := 1359) (tgt := 1392) dL_law_33 (by rw [hw34]; decide) (by rw [hw34]; decide) (by rw [hw34]; decide) (by decide) ?_
        exact law_c34 hs (by omega) hSh hStep.2.2.2.2.2.2.2.2.2.2.2.2.2.2.2.2.2.2.2.2.2.2.2.2.2.2.2.2.2.2.2.2.2.2.1 hi1 hi2 hI hN
      by_cases hw35 : w0 = 35
      · refine ex_tableIn (off := 1393) (tgt := 1426) dL_law_33 (by rw [hw35]; decide) (by rw [hw35]; decide) (by rw [hw35]; decide) (by decide) ?_
        exact law_c35 hs (by omega) hSh hStep.2.2.2.2.2.2.2.2.2.2.2.2.2.2.2.2.2.2.2.2.2.2.2.2.2.2.2.2.2.2.2.2.2.2.2.1 hi1 hi2 hi3 hi4 hI hN
      by_cases hw36 : w0 = 36
      · refine ex_tableIn (off := 1446) (tgt := 1479) dL_law_33 (by rw [hw36]; decide) (by rw [hw36]; decide) (by rw [hw36]; decide) (by decide) ?_
        exact law_c36 hs (by omega) hSh hStep.2.2.2.2.2.2.2.2.2.2.2.2.2.2.2.2.2.2.2.2.2.2.2.2.2.2.2.2.2.2.2.2.2.2.2.2.1 hi1 hI hN
      by_cases hw37 : w0 = 37
      · refine ex_tableIn (off := 1469) (tgt := 1502) dL_law_33 (by rw [hw37]; decide) (by rw [hw37]; decide) (by rw [hw37]; decide) (by decide) ?_
        exact law_c37 hs (by omega) hSh hStep.2.2.2.2.2.2.2.2.2.2.2.2.2.2.2.2.2.2.2.2.2.2.2.2.2.2.2.2.2.2.2.2.2.2.2.2.2.1 hi1 hI hN
      by_cases hw38 : w0 = 38
      · refine ex_tableIn (off := 1492) (tgt := 1525) dL_law_33 (by rw [hw38]; decide) (by rw [hw38]; decide) (by rw [hw38]; decide) (by decide) ?_
        exact law_c38 hs (by omega) hSh hStep.2.2.2.2.2.2.2.2.2.2.2.2.2.2.2.2.2.2.2.2.2.2.2.2.2.2.2.2.2.2.2.2.2.2.2.2.2.2.1 hi1 hI hN
      by_cases hw39 : w0 = 39
      · refine ex_tableIn (off := 1515) (tgt := 1548) dL_law_33 (by rw [hw39]; decide) (by rw [hw39]; decide) (by rw [hw39]; decide) (by decide) ?_
        exact law_c39 hs (by omega) hSh hStep.2.2.2.2.2.2.2.2.2.2.2.2.2.2.2.2.2.2.2.2.2.2.2.2.2.2.2.2.2.2.2.2.2.2.2.2.2.2.2.1 hi1 hI hN
      by_cases hw40 : w0 = 40
      · refine ex_tableIn (off := 1538) (tgt := 1571) dL_law_33 (by rw [hw40]; decide) (by rw [hw40]; decide) (by rw [hw40]; decide) (by decide) ?_
        exact law_c40 hs (by omega) hSh hStep.2.2.2.2.2.2.2.2.2.2.2.2.2.2.2.2.2.2.2.2.2.2.2.2.2.2.2.2.2.2.2.2.2.2.2.2.2.2.2.2.1  hI hN
      by_cases hw41 : w0 = 41
      · refine ex_tableIn (off := 1551) (tgt := 1584) dL_law_33 (by rw [hw41]; decide) (by rw [hw41]; decide) (by rw [hw41]; decide) (by decide) ?_
        exact law_c41 hs (by omega) hSh hStep.2.2.2.2.2.2.2.2.2.2.2.2.2.2.2.2.2.2.2.2.2.2.2.2.2.2.2.2.2.2.2.2.2.2.2.2.2.2.2.2.2.1 hi1 hi2 hi3 hI hN
      by_cases hw42 : w0 = 42
      · refine ex_tableIn (off := 1594) (tgt := 1627) dL_law_33 (by rw [hw42]; decide) (by rw [hw42]; decide) (by rw [hw42]; decide) (by decide) ?_
        exact law_c42 hs (by omega) hSh hStep.2.2.2.2.2.2.2.2.2.2.2.2.2.2.2.2.2.2.2.2.2.2.2.2.2.2.2.2.2.2.2.2.2.2.2.2.2.2.2.2.2.2.1  hI hN
      by_cases hw43 : w0 = 43
      · refine ex_tableIn (off := 1607) (tgt := 1640) dL_law_33 (by rw [hw43]; decide) (by rw [hw43]; decide) (by rw [hw43]; decide) (by decide) ?_
        exact law_c43 hs (by omega) hSh hStep.2.2.2.2.2.2.2.2.2.2.2.2.2.2.2.2.2.2.2.2.2.2.2.2.2.2.2.2.2.2.2.2.2.2.2.2.2.2.2.2.2.2.2.1  hI hN
      by_cases hw44 : w0 = 44
      · refine ex_tableIn (off := 1620) (tgt := 1653) dL_law_33 (by rw [hw44]; decide) (by rw [hw44]; decide) (by rw [hw44]; decide) (by decide) ?_
        exact law_c44 hs (by omega) hSh hStep.2.2.2.2.2.2.2.2.2.2.2.2.2.2.2.2.2.2.2.2.2.2.2.2.2.2.2.2.2.2.2.2.2.2.2.2.2.2.2.2.2.2.2.2.1 hi1 hI hN
      by_cases hw45 : w0 = 45
      · refine ex_tableIn (off := 1643) (tgt := 1676) dL_law_33 (by rw [hw45]; decide) (by rw [hw45]; decide) (by rw [hw45]; decide) (by decide) ?_
        exact law_c45 hs (by omega) hSh hStep.2.2.2.2.2.2.2.2.2.2.2.2.2.2.2.2.2.2.2.2.2.2.2.2.2.2.2.2.2.2.2.2.2.2.2.2.2.2.2.2.2.2.2.2.2.1 hi1 hi2 hi3 hI hN
      by_cases hw46 : w0 = 46
      · refine ex_tableIn (off := 1686) (tgt := 1719) dL_law_33 (by rw [hw46]; decide) (by rw [hw46]; decide) (by rw [hw46]; decide) (by decide) ?_
        exact law_c46 hs (by omega) hSh hStep.2.2.2.2.2.2.2.2.2.2.2.2.2.2.2.2.2.2.2.2.2.2.2.2.2.2.2.2.2.2.2.2.2.2.2.2.2.2.2.2.2.2.2.2.2.2.1 hi1 hi2 hi3 hi4 hI hN
      by_cases hw47 : w0 = 47
      · refine ex_tableIn (off := 1759) (tgt := 1792) dL_law_33 (by rw [hw47]; decide) (by rw [hw47]; decide) (by rw [hw47]; decide) (by decide) ?_
        exact law_c47 hs (by omega) hSh hStep.2.2.2.2.2.2.2.2.2.2.2.2.2.2.2.2.2.2.2.2.2.2.2.2.2.2.2.2.2.2.2.2.2.2.2.2.2.2.2.2.2.2.2.2.2.2.2.1 hi1 hi2 hI hN
      by_cases hw48 : w0 = 48
      · refine ex_tableIn (off := 1793) (tgt := 1826) dL_law_33 (by rw [hw48]; decide) (by rw [hw48]; decide) (by rw [hw48]; decide) (by decide) ?_
        exact law_c48 hs (by omega) hSh hStep.2.2.2.2.2.2.2.2.2.2.2.2.2.2.2.2.2.2.2.2.2.2.2.2.2.2.2.2.2.2.2.2.2.2.2.2.2.2.2.2.2.2.2.2.2.2.2.2 hi1 hi2 hi3 hi4 hi5 hI hN
      have ht0 := lv_neT (a := 0) hw0 (by decide)
      have ht1 := lv_neT (a := 1) hw1 (by decide)
      have ht2 := lv_neT (a := 2) hw2 (by decide)
      have ht3 := lv_neT (a := 3) hw3 (by decide)
      have ht4 := lv_neT (a := 4) hw4 (by decide)
      have ht5 := lv_neT (a := 5) hw5 (by decide)
      have ht6 := lv_neT (a := 6) hw6 (by decide)
      have ht7 := lv_neT (a := 7) hw7 (by decide)
      have ht8 := lv_neT (a := 8) hw8 (by decide)
      have ht9 := lv_neT (a := 9) hw9 (by decide)
      have ht10 := lv_neT (a := 10) hw10 (by decide)
      have ht11 := lv_neT (a := 11) hw11 (by decide)
      have ht12 := lv_neT (a := 12) hw12 (by decide)
      have ht13 := lv_neT (a := 13) hw13 (by decide)
      have ht14 := lv_neT (a := 14) hw14 (by decide)
      have ht15 := lv_neT (a := 15) hw15 (by decide)
      have ht16 := lv_neT (a := 16) hw16 (by decide)
      have ht17 := lv_neT (a := 17) hw17 (by decide)
      have ht18 := lv_neT (a := 18) hw18 (by decide)
      have ht19 := lv_neT (a := 19) hw19 (by decide)
      have ht20 := lv_neT (a := 20) hw20 (by decide)
      have ht21 := lv_neT (a := 21) hw21 (by decide)
      have ht22 := lv_neT (a := 22) hw22 (by decide)
      have ht23 := lv_neT (a := 23) hw23 (by decide)
      have ht24 := lv_neT (a := 24) hw24 (by decide)
      have ht25 := lv_neT (a := 25) hw25 (by decide)
      have ht26 := lv_neT (a := 26) hw26 (by decide)
      have ht27 := lv_neT (a := 27) hw27 (by decide)
      have ht28 := lv_neT (a := 28) hw28 (by decide)
      have ht29 := lv_neT (a := 29) hw29 (by decide)
      have ht30 := lv_neT (a := 30) hw30 (by decide)
      have ht31 := lv_neT (a := 31) hw31 (by decide)
      have ht32 := lv_neT (a := 32) hw32 (by decide)
      have ht33 := lv_neT (a := 33) hw33 (by decide)
      have ht34 := lv_neT (a := 34) hw34 (by decide)
      have ht35 := lv_neT (a := 35) hw35 (by decide)
      have ht36 := lv_neT (a := 36) hw36 (by decide)
      have ht37 := lv_neT (a := 37) hw37 (by decide)
      have ht38 := lv_neT (a := 38) hw38 (by decide)
      have ht39 := lv_neT (a := 39) hw39 (by decide)
      have ht40 := lv_neT (a := 40) hw40 (by decide)
      have ht41 := lv_neT (a := 41) hw41 (by decide)
      have ht42 := lv_neT (a := 42) hw42 (by decide)
      have ht43 := lv_neT (a := 43) hw43 (by decide)
      have ht44 := lv_neT (a := 44) hw44 (by decide)
      have ht45 := lv_neT (a := 45) hw45 (by decide)
      have ht46 := lv_neT (a := 46) hw46 (by decide)
      have ht47 := lv_neT (a := 47) hw47 (by decide)
      have ht48 := lv_neT (a := 48) hw48 (by decide)
      refine ex_tableOut (tgt := 1889) dL_law_33 (by omega) (by decide) ?_
      exact law_tail (by omega) (by omega) (hN _ _ _ hI)
