theorem klL_13 : Cond.constantLong RL 13 (4294967295) ∈ h_tbl := h_tb 1463 (by decide +kernel)
theorem myX8_feed : h_MY yX8_feed cX8_feed 5 (some .int) 2 := ⟨h_tb 379 (by decide +kernel), h_tb 71 (by decide +kernel), by decide +kernel⟩
theorem miX8_feed : h_MI yX8_feed := ⟨h_tb 377 (by decide +kernel), h_tb 378 (by decide +kernel)⟩
theorem lkL_15 : Cond.methodLink RL 15 yX8_feed ∈ h_tbl := h_tb 376 (by decide +kernel)
theorem myX9_feed : h_MY yX9_feed cX9_feed 5 (some .int) 2 := ⟨h_tb 1090 (by decide +kernel), h_tb 81 (by decide +kernel), by decide +kernel⟩
theorem miX9_feed : h_MI yX9_feed := ⟨h_tb 1088 (by decide +kernel), h_tb 1089 (by decide +kernel)⟩
theorem lkL_19 : Cond.methodLink RL 19 yX9_feed ∈ h_tbl := h_tb 1087 (by decide +kernel)
theorem myX8_tune : h_MY yX8_tune cX8_tune 2 (some .int) 0 := ⟨h_tb 392 (by decide +kernel), h_tb 71 (by decide +kernel), by decide +kernel⟩
theorem miX8_tune : h_MI yX8_tune := ⟨h_tb 390 (by decide +kernel), h_tb 391 (by decide +kernel)⟩
theorem lkL_20 : Cond.methodLink RL 20 yX8_tune ∈ h_tbl := h_tb 389 (by decide +kernel)
theorem myX9_tune : h_MY yX9_tune cX9_tune 4 (some .int) 0 := ⟨h_tb 1101 (by decide +kernel), h_tb 81 (by decide +kernel), by decide +kernel⟩
theorem miX9_tune : h_MI yX9_tune := ⟨h_tb 1099 (by decide +kernel), h_tb 1100 (by decide +kernel)⟩
theorem lkL_24 : Cond.methodLink RL 24 yX9_tune ∈ h_tbl := h_tb 1098 (by decide +kernel)
theorem myX8_singers : h_MY yX8_singers cX8_singers 3 (some .int) 0 := ⟨h_tb 520 (by decide +kernel), h_tb 71 (by decide +kernel), by decide +kernel⟩
theorem miX8_singers : h_MI yX8_singers := ⟨h_tb 518 (by decide +kernel), h_tb 519 (by decide +kernel)⟩
theorem lkL_25 : Cond.methodLink RL 25 yX8_singers ∈ h_tbl := h_tb 517 (by decide +kernel)
theorem myX9_singers : h_MY yX9_singers cX9_singers 3 (some .int) 0 := ⟨h_tb 1151 (by decide +kernel), h_tb 81 (by decide +kernel), by decide +kernel⟩
theorem miX9_singers : h_MI yX9_singers := ⟨h_tb 1149 (by decide +kernel), h_tb 1150 (by decide +kernel)⟩
theorem lkL_28 : Cond.methodLink RL 28 yX9_singers ∈ h_tbl := h_tb 1148 (by decide +kernel)
theorem myX8_tasks : h_MY yX8_tasks cX8_tasks 2 (some .int) 0 := ⟨h_tb 542 (by decide +kernel), h_tb 71 (by decide +kernel), by decide +kernel⟩
theorem miX8_tasks : h_MI yX8_tasks := ⟨h_tb 540 (by decide +kernel), h_tb 541 (by decide +kernel)⟩
theorem lkL_29 : Cond.methodLink RL 29 yX8_tasks ∈ h_tbl := h_tb 539 (by decide +kernel)
theorem myX9_tasks : h_MY yX9_tasks cX9_tasks 3 (some .int) 0 := ⟨h_tb 1163 (by decide +kernel), h_tb 81 (by decide +kernel), by decide +kernel⟩
theorem miX9_tasks : h_MI yX9_tasks := ⟨h_tb 1161 (by decide +kernel), h_tb 1162 (by decide +kernel)⟩
theorem lkL_32 : Cond.methodLink RL 32 yX9_tasks ∈ h_tbl := h_tb 1160 (by decide +kernel)
theorem myX8_fault : h_MY yX8_fault cX8_fault 1 (some .int) 0 := ⟨h_tb 570 (by decide +kernel), h_tb 71 (by decide +kernel), by decide +kernel⟩
theorem miX8_fault : h_MI yX8_fault := ⟨h_tb 568 (by decide +kernel), h_tb 569 (by decide +kernel)⟩
theorem lkL_33 : Cond.methodLink RL 33 yX8_fault ∈ h_tbl := h_tb 567 (by decide +kernel)
theorem myX9_fault : h_MY yX9_fault cX9_fault 1 (some .int) 0 := ⟨h_tb 1179 (by decide +kernel), h_tb 81 (by decide +kernel), by decide +kernel⟩
theorem miX9_fault : h_MI yX9_fault := ⟨h_tb 1177 (by decide +kernel), h_tb 1178 (by decide +kernel)⟩
theorem lkL_36 : Cond.methodLink RL 36 yX9_fault ∈ h_tbl := h_tb 1176 (by decide +kernel)
theorem myX8_told : h_MY yX8_told cX8_told 2 (some .int) 1 := ⟨h_tb 574 (by decide +kernel), h_tb 71 (by decide +kernel), by decide +kernel⟩
theorem miX8_told : h_MI yX8_told := ⟨h_tb 572 (by decide +kernel), h_tb 573 (by decide +kernel)⟩
theorem lkL_37 : Cond.methodLink RL 37 yX8_told ∈ h_tbl := h_tb 571 (by decide +kernel)
theorem myX9_told : h_MY yX9_told cX9_told 2 (some .int) 1 := ⟨h_tb 1183 (by decide +kernel), h_tb 81 (by decide +kernel), by decide +kernel⟩
theorem miX9_told : h_MI yX9_told := ⟨h_tb 1181 (by decide +kernel), h_tb 1182 (by decide +kernel)⟩
theorem lkL_41 : Cond.methodLink RL 41 yX9_told ∈ h_tbl := h_tb 1180 (by decide +kernel)
theorem myX8_note : h_MY yX8_note cX8_note 3 (some .int) 2 := ⟨h_tb 578 (by decide +kernel), h_tb 71 (by decide +kernel), by decide +kernel⟩
theorem miX8_note : h_MI yX8_note := ⟨h_tb 576 (by decide +kernel), h_tb 577 (by decide +kernel)⟩
theorem lkL_42 : Cond.methodLink RL 42 yX8_note ∈ h_tbl := h_tb 575 (by decide +kernel)
theorem myX9_note : h_MY yX9_note cX9_note 3 (some .int) 2 := ⟨h_tb 1191 (by decide +kernel), h_tb 81 (by decide +kernel), by decide +kernel⟩
theorem miX9_note : h_MI yX9_note := ⟨h_tb 1189 (by decide +kernel), h_tb 1190 (by decide +kernel)⟩
theorem lkL_46 : Cond.methodLink RL 46 yX9_note ∈ h_tbl := h_tb 1188 (by decide +kernel)
theorem myX8_singer : h_MY yX8_singer cX8_singer 4 (some .int) 2 := ⟨h_tb 583 (by decide +kernel), h_tb 71 (by decide +kernel), by decide +kernel⟩
theorem miX8_singer : h_MI yX8_singer := ⟨h_tb 581 (by decide +kernel), h_tb 582 (by decide +kernel)⟩
theorem lkL_47 : Cond.methodLink RL 47 yX8_singer ∈ h_tbl := h_tb 580 (by decide +kernel)
theorem myX9_singer : h_MY yX9_singer cX9_singer 3 (some .int) 2 := ⟨h_tb 1200 (by decide +kernel), h_tb 81 (by decide +kernel), by decide +kernel⟩
theorem miX9_singer : h_MI yX9_singer := ⟨h_tb 1198 (by decide +kernel), h_tb 1199 (by decide +kernel)⟩
theorem lkL_50 : Cond.methodLink RL 50 yX9_singer ∈ h_tbl := h_tb 1197 (by decide +kernel)
theorem myX8_task : h_MY yX8_task cX8_task 3 (some .int) 2 := ⟨h_tb 591 (by decide +kernel), h_tb 71 (by decide +kernel), by decide +kernel⟩
theorem miX8_task : h_MI yX8_task := ⟨h_tb 589 (by decide +kernel), h_tb 590 (by decide +kernel)⟩
theorem lkL_51 : Cond.methodLink RL 51 yX8_task ∈ h_tbl := h_tb 588 (by decide +kernel)
theorem myX9_task : h_MY yX9_task cX9_task 3 (some .int) 2 := ⟨h_tb 1209 (by decide +kernel), h_tb 81 (by decide +kernel), by decide +kernel⟩
theorem miX9_task : h_MI yX9_task := ⟨h_tb 1207 (by decide +kernel), h_tb 1208 (by decide +kernel)⟩
theorem lkL_54 : Cond.methodLink RL 54 yX9_task ∈ h_tbl := h_tb 1206 (by decide +kernel)
theorem myX8_sing : h_MY yX8_sing cX8_sing 3 (some .int) 2 := ⟨h_tb 599 (by decide +kernel), h_tb 71 (by decide +kernel), by decide +kernel⟩
theorem miX8_sing : h_MI yX8_sing := ⟨h_tb 597 (by decide +kernel), h_tb 598 (by decide +kernel)⟩
theorem lkL_55 : Cond.methodLink RL 55 yX8_sing ∈ h_tbl := h_tb 596 (by decide +kernel)
theorem myX9_sing : h_MY yX9_sing cX9_sing 3 (some .int) 2 := ⟨h_tb 1218 (by decide +kernel), h_tb 81 (by decide +kernel), by decide +kernel⟩
theorem miX9_sing : h_MI yX9_sing := ⟨h_tb 1216 (by decide +kernel), h_tb 1217 (by decide +kernel)⟩
theorem lkL_58 : Cond.methodLink RL 58 yX9_sing ∈ h_tbl := h_tb 1215 (by decide +kernel)
theorem myX8_height : h_MY yX8_height cX8_height 2 (some .int) 1 := ⟨h_tb 698 (by decide +kernel), h_tb 71 (by decide +kernel), by decide +kernel⟩
theorem miX8_height : h_MI yX8_height := ⟨h_tb 696 (by decide +kernel), h_tb 697 (by decide +kernel)⟩
theorem lkL_59 : Cond.methodLink RL 59 yX8_height ∈ h_tbl := h_tb 695 (by decide +kernel)
theorem myX9_height : h_MY yX9_height cX9_height 2 (some .int) 1 := ⟨h_tb 1267 (by decide +kernel), h_tb 81 (by decide +kernel), by decide +kernel⟩
theorem miX9_height : h_MI yX9_height := ⟨h_tb 1265 (by decide +kernel), h_tb 1266 (by decide +kernel)⟩
theorem lkL_62 : Cond.methodLink RL 62 yX9_height ∈ h_tbl := h_tb 1264 (by decide +kernel)
theorem myX8_slid : h_MY yX8_slid cX8_slid 1 (some .int) 0 := ⟨h_tb 708 (by decide +kernel), h_tb 71 (by decide +kernel), by decide +kernel⟩
theorem miX8_slid : h_MI yX8_slid := ⟨h_tb 706 (by decide +kernel), h_tb 707 (by decide +kernel)⟩
theorem lkL_63 : Cond.methodLink RL 63 yX8_slid ∈ h_tbl := h_tb 705 (by decide +kernel)
theorem myX9_slid : h_MY yX9_slid cX9_slid 1 (some .int) 0 := ⟨h_tb 1272 (by decide +kernel), h_tb 81 (by decide +kernel), by decide +kernel⟩
theorem miX9_slid : h_MI yX9_slid := ⟨h_tb 1270 (by decide +kernel), h_tb 1271 (by decide +kernel)⟩
theorem lkL_66 : Cond.methodLink RL 66 yX9_slid ∈ h_tbl := h_tb 1269 (by decide +kernel)
theorem myX8_score : h_MY yX8_score cX8_score 2 (some .int) 1 := ⟨h_tb 713 (by decide +kernel), h_tb 71 (by decide +kernel), by decide +kernel⟩
theorem miX8_score : h_MI yX8_score := ⟨h_tb 711 (by decide +kernel), h_tb 712 (by decide +kernel)⟩
theorem lkL_67 : Cond.methodLink RL 67 yX8_score ∈ h_tbl := h_tb 710 (by decide +kernel)
theorem myX9_score : h_MY yX9_score cX9_score 2 (some .int) 1 := ⟨h_tb 1280 (by decide +kernel), h_tb 81 (by decide +kernel), by decide +kernel⟩
theorem miX9_score : h_MI yX9_score := ⟨h_tb 1278 (by decide +kernel), h_tb 1279 (by decide +kernel)⟩
theorem lkL_70 : Cond.methodLink RL 70 yX9_score ∈ h_tbl := h_tb 1277 (by decide +kernel)
theorem myX8_calls : h_MY yX8_calls cX8_calls 1 (some .int) 0 := ⟨h_tb 717 (by decide +kernel), h_tb 71 (by decide +kernel), by decide +kernel⟩
theorem miX8_calls : h_MI yX8_calls := ⟨h_tb 715 (by decide +kernel), h_tb 716 (by decide +kernel)⟩
theorem lkL_71 : Cond.methodLink RL 71 yX8_calls ∈ h_tbl := h_tb 714 (by decide +kernel)
theorem myX9_calls : h_MY yX9_calls cX9_calls 2 (some .int) 0 := ⟨h_tb 1284 (by decide +kernel), h_tb 81 (by decide +kernel), by decide +kernel⟩
theorem miX9_calls : h_MI yX9_calls := ⟨h_tb 1282 (by decide +kernel), h_tb 1283 (by decide +kernel)⟩
theorem lkL_74 : Cond.methodLink RL 74 yX9_calls ∈ h_tbl := h_tb 1281 (by decide +kernel)
theorem myX8_fooled : h_MY yX8_fooled cX8_fooled 6 (some .int) 1 := ⟨h_tb 730 (by decide +kernel), h_tb 71 (by decide +kernel), by decide +kernel⟩
theorem miX8_fooled : h_MI yX8_fooled := ⟨h_tb 728 (by decide +kernel), h_tb 729 (by decide +kernel)⟩
theorem lkL_75 : Cond.methodLink RL 75 yX8_fooled ∈ h_tbl := h_tb 727 (by decide +kernel)
theorem myX9_fooled : h_MY yX9_fooled cX9_fooled 7 (some .int) 1 := ⟨h_tb 1288 (by decide +kernel), h_tb 81 (by decide +kernel), by decide +kernel⟩
theorem miX9_fooled : h_MI yX9_fooled := ⟨h_tb 1286 (by decide +kernel), h_tb 1287 (by decide +kernel)⟩
theorem lkL_78 : Cond.methodLink RL 78 yX9_fooled ∈ h_tbl := h_tb 1285 (by decide +kernel)
theorem myX8_weigh : h_MY yX8_weigh cX8_weigh 4 (some .int) 2 := ⟨h_tb 739 (by decide +kernel), h_tb 71 (by decide +kernel), by decide +kernel⟩
theorem miX8_weigh : h_MI yX8_weigh := ⟨h_tb 737 (by decide +kernel), h_tb 738 (by decide +kernel)⟩
theorem lkL_79 : Cond.methodLink RL 79 yX8_weigh ∈ h_tbl := h_tb 736 (by decide +kernel)
theorem myX9_weigh : h_MY yX9_weigh cX9_weigh 4 (some .int) 2 := ⟨h_tb 1292 (by decide +kernel), h_tb 81 (by decide +kernel), by decide +kernel⟩
theorem miX9_weigh : h_MI yX9_weigh := ⟨h_tb 1290 (by decide +kernel), h_tb 1291 (by decide +kernel)⟩
theorem lkL_82 : Cond.methodLink RL 82 yX9_weigh ∈ h_tbl := h_tb 1289 (by decide +kernel)
theorem myX8_result : h_MY yX8_result cX8_result 3 (some .int) 2 := ⟨h_tb 746 (by decide +kernel), h_tb 71 (by decide +kernel), by decide +kernel⟩
theorem miX8_result : h_MI yX8_result := ⟨h_tb 744 (by decide +kernel), h_tb 745 (by decide +kernel)⟩
theorem lkL_83 : Cond.methodLink RL 83 yX8_result ∈ h_tbl := h_tb 743 (by decide +kernel)
theorem myX9_result : h_MY yX9_result cX9_result 3 (some .int) 2 := ⟨h_tb 1298 (by decide +kernel), h_tb 81 (by decide +kernel), by decide +kernel⟩
theorem miX9_result : h_MI yX9_result := ⟨h_tb 1296 (by decide +kernel), h_tb 1297 (by decide +kernel)⟩
theorem lkL_87 : Cond.methodLink RL 87 yX9_result ∈ h_tbl := h_tb 1295 (by decide +kernel)
theorem myX8_forget : h_MY yX8_forget cX8_forget 2 (some .int) 0 := ⟨h_tb 760 (by decide +kernel), h_tb 71 (by decide +kernel), by decide +kernel⟩
theorem miX8_forget : h_MI yX8_forget := ⟨h_tb 758 (by decide +kernel), h_tb 759 (by decide +kernel)⟩
theorem lkL_88 : Cond.methodLink RL 88 yX8_forget ∈ h_tbl := h_tb 757 (by decide +kernel)
theorem myX9_forget : h_MY yX9_forget cX9_forget 3 (some .int) 0 := ⟨h_tb 1306 (by decide +kernel), h_tb 81 (by decide +kernel), by decide +kernel⟩
theorem miX9_forget : h_MI yX9_forget := ⟨h_tb 1304 (by decide +kernel), h_tb 1305 (by decide +kernel)⟩
theorem lkL_91 : Cond.methodLink RL 91 yX9_forget ∈ h_tbl := h_tb 1303 (by decide +kernel)
theorem myX8_odds : h_MY yX8_odds cX8_odds 5 (some .long) 1 := ⟨h_tb 764 (by decide +kernel), h_tb 71 (by decide +kernel), by decide +kernel⟩
theorem miX8_odds : h_MI yX8_odds := ⟨h_tb 762 (by decide +kernel), h_tb 763 (by decide +kernel)⟩
theorem lkL_92 : Cond.methodLink RL 92 yX8_odds ∈ h_tbl := h_tb 761 (by decide +kernel)
theorem myX9_odds : h_MY yX9_odds cX9_odds 2 (some .long) 1 := ⟨h_tb 1310 (by decide +kernel), h_tb 81 (by decide +kernel), by decide +kernel⟩
theorem miX9_odds : h_MI yX9_odds := ⟨h_tb 1308 (by decide +kernel), h_tb 1309 (by decide +kernel)⟩
theorem lkL_96 : Cond.methodLink RL 96 yX9_odds ∈ h_tbl := h_tb 1307 (by decide +kernel)
theorem myX8_next : h_MY yX8_next cX8_next 7 (some .int) 0 := ⟨h_tb 786 (by decide +kernel), h_tb 71 (by decide +kernel), by decide +kernel⟩
theorem miX8_next : h_MI yX8_next := ⟨h_tb 784 (by decide +kernel), h_tb 785 (by decide +kernel)⟩
theorem lkL_97 : Cond.methodLink RL 97 yX8_next ∈ h_tbl := h_tb 783 (by decide +kernel)
theorem myX9_next : h_MY yX9_next cX9_next 8 (some .int) 0 := ⟨h_tb 1331 (by decide +kernel), h_tb 81 (by decide +kernel), by decide +kernel⟩
theorem miX9_next : h_MI yX9_next := ⟨h_tb 1329 (by decide +kernel), h_tb 1330 (by decide +kernel)⟩
theorem lkL_100 : Cond.methodLink RL 100 yX9_next ∈ h_tbl := h_tb 1328 (by decide +kernel)
theorem myX8_left : h_MY yX8_left cX8_left 3 (some .int) 1 := ⟨h_tb 797 (by decide +kernel), h_tb 71 (by decide +kernel), by decide +kernel⟩
theorem miX8_left : h_MI yX8_left := ⟨h_tb 795 (by decide +kernel), h_tb 796 (by decide +kernel)⟩
theorem lkL_101 : Cond.methodLink RL 101 yX8_left ∈ h_tbl := h_tb 794 (by decide +kernel)
theorem myX9_left : h_MY yX9_left cX9_left 4 (some .int) 1 := ⟨h_tb 1343 (by decide +kernel), h_tb 81 (by decide +kernel), by decide +kernel⟩
theorem miX9_left : h_MI yX9_left := ⟨h_tb 1341 (by decide +kernel), h_tb 1342 (by decide +kernel)⟩
theorem lkL_104 : Cond.methodLink RL 104 yX9_left ∈ h_tbl := h_tb 1340 (by decide +kernel)
theorem myX8_alike : h_MY yX8_alike cX8_alike 4 (some .int) 1 := ⟨h_tb 829 (by decide +kernel), h_tb 71 (by decide +kernel), by decide +kernel⟩
theorem miX8_alike : h_MI yX8_alike := ⟨h_tb 827 (by decide +kernel), h_tb 828 (by decide +kernel)⟩
theorem lkL_105 : Cond.methodLink RL 105 yX8_alike ∈ h_tbl := h_tb 826 (by decide +kernel)
theorem myX9_alike : h_MY yX9_alike cX9_alike 6 (some .int) 1 := ⟨h_tb 1356 (by decide +kernel), h_tb 81 (by decide +kernel), by decide +kernel⟩
theorem miX9_alike : h_MI yX9_alike := ⟨h_tb 1354 (by decide +kernel), h_tb 1355 (by decide +kernel)⟩
theorem lkL_108 : Cond.methodLink RL 108 yX9_alike ∈ h_tbl := h_tb 1353 (by decide +kernel)
theorem myX8_lesson : h_MY yX8_lesson cX8_lesson 3 (some .int) 2 := ⟨h_tb 837 (by decide +kernel), h_tb 71 (by decide +kernel), by decide +kernel⟩
theorem miX8_lesson : h_MI yX8_lesson := ⟨h_tb 835 (by decide +kernel), h_tb 836 (by decide +kernel)⟩
theorem lkL_109 : Cond.methodLink RL 109 yX8_lesson ∈ h_tbl := h_tb 834 (by decide +kernel)
theorem myX9_lesson : h_MY yX9_lesson cX9_lesson 3 (some .int) 2 := ⟨h_tb 1360 (by decide +kernel), h_tb 81 (by decide +kernel), by decide +kernel⟩
theorem miX9_lesson : h_MI yX9_lesson := ⟨h_tb 1358 (by decide +kernel), h_tb 1359 (by decide +kernel)⟩
theorem lkL_112 : Cond.methodLink RL 112 yX9_lesson ∈ h_tbl := h_tb 1357 (by decide +kernel)
theorem myX8_plan : h_MY yX8_plan cX8_plan 8 (some .int) 3 := ⟨h_tb 849 (by decide +kernel), h_tb 71 (by decide +kernel), by decide +kernel⟩
theorem miX8_plan : h_MI yX8_plan := ⟨h_tb 847 (by decide +kernel), h_tb 848 (by decide +kernel)⟩
theorem lkL_113 : Cond.methodLink RL 113 yX8_plan ∈ h_tbl := h_tb 846 (by decide +kernel)
theorem myX9_plan : h_MY yX9_plan cX9_plan 8 (some .int) 3 := ⟨h_tb 1372 (by decide +kernel), h_tb 81 (by decide +kernel), by decide +kernel⟩
theorem miX9_plan : h_MI yX9_plan := ⟨h_tb 1370 (by decide +kernel), h_tb 1371 (by decide +kernel)⟩
theorem lkL_117 : Cond.methodLink RL 117 yX9_plan ∈ h_tbl := h_tb 1369 (by decide +kernel)
theorem myX8_key : h_MY yX8_key cX8_key 7 (some .int) 1 := ⟨h_tb 863 (by decide +kernel), h_tb 71 (by decide +kernel), by decide +kernel⟩
theorem miX8_key : h_MI yX8_key := ⟨h_tb 861 (by decide +kernel), h_tb 862 (by decide +kernel)⟩
theorem lkL_118 : Cond.methodLink RL 118 yX8_key ∈ h_tbl := h_tb 860 (by decide +kernel)
theorem myX9_key : h_MY yX9_key cX9_key 7 (some .int) 1 := ⟨h_tb 1388 (by decide +kernel), h_tb 81 (by decide +kernel), by decide +kernel⟩
theorem miX9_key : h_MI yX9_key := ⟨h_tb 1386 (by decide +kernel), h_tb 1387 (by decide +kernel)⟩
theorem lkL_121 : Cond.methodLink RL 121 yX9_key ∈ h_tbl := h_tb 1385 (by decide +kernel)
theorem myX8_age : h_MY yX8_age cX8_age 5 (some .int) 1 := ⟨h_tb 876 (by decide +kernel), h_tb 71 (by decide +kernel), by decide +kernel⟩
theorem miX8_age : h_MI yX8_age := ⟨h_tb 874 (by decide +kernel), h_tb 875 (by decide +kernel)⟩
theorem lkL_122 : Cond.methodLink RL 122 yX8_age ∈ h_tbl := h_tb 873 (by decide +kernel)
theorem myX9_age : h_MY yX9_age cX9_age 6 (some .int) 1 := ⟨h_tb 1396 (by decide +kernel), h_tb 81 (by decide +kernel), by decide +kernel⟩
theorem miX9_age : h_MI yX9_age := ⟨h_tb 1394 (by decide +kernel), h_tb 1395 (by decide +kernel)⟩
theorem lkL_125 : Cond.methodLink RL 125 yX9_age ∈ h_tbl := h_tb 1393 (by decide +kernel)
theorem myX8_passes : h_MY yX8_passes cX8_passes 4 (some .int) 2 := ⟨h_tb 880 (by decide +kernel), h_tb 71 (by decide +kernel), by decide +kernel⟩
theorem miX8_passes : h_MI yX8_passes := ⟨h_tb 878 (by decide +kernel), h_tb 879 (by decide +kernel)⟩
theorem lkL_126 : Cond.methodLink RL 126 yX8_passes ∈ h_tbl := h_tb 877 (by decide +kernel)
theorem myX9_passes : h_MY yX9_passes cX9_passes 3 (some .int) 2 := ⟨h_tb 1400 (by decide +kernel), h_tb 81 (by decide +kernel), by decide +kernel⟩
theorem miX9_passes : h_MI yX9_passes := ⟨h_tb 1398 (by decide +kernel), h_tb 1399 (by decide +kernel)⟩
theorem lkL_129 : Cond.methodLink RL 129 yX9_passes ∈ h_tbl := h_tb 1397 (by decide +kernel)
theorem myX8_pairs : h_MY yX8_pairs cX8_pairs 4 (some .int) 1 := ⟨h_tb 887 (by decide +kernel), h_tb 71 (by decide +kernel), by decide +kernel⟩
theorem miX8_pairs : h_MI yX8_pairs := ⟨h_tb 885 (by decide +kernel), h_tb 886 (by decide +kernel)⟩
theorem lkL_130 : Cond.methodLink RL 130 yX8_pairs ∈ h_tbl := h_tb 884 (by decide +kernel)
theorem myX9_pairs : h_MY yX9_pairs cX9_pairs 2 (some .int) 1 := ⟨h_tb 1416 (by decide +kernel), h_tb 81 (by decide +kernel), by decide +kernel⟩
theorem miX9_pairs : h_MI yX9_pairs := ⟨h_tb 1414 (by decide +kernel), h_tb 1415 (by decide +kernel)⟩
theorem lkL_133 : Cond.methodLink RL 133 yX9_pairs ∈ h_tbl := h_tb 1413 (by decide +kernel)
theorem myX8_join : h_MY yX8_join cX8_join 2 (some .int) 1 := ⟨h_tb 891 (by decide +kernel), h_tb 71 (by decide +kernel), by decide +kernel⟩
theorem miX8_join : h_MI yX8_join := ⟨h_tb 889 (by decide +kernel), h_tb 890 (by decide +kernel)⟩
theorem lkL_134 : Cond.methodLink RL 134 yX8_join ∈ h_tbl := h_tb 888 (by decide +kernel)
theorem myX9_join : h_MY yX9_join cX9_join 2 (some .int) 1 := ⟨h_tb 1420 (by decide +kernel), h_tb 81 (by decide +kernel), by decide +kernel⟩
theorem miX9_join : h_MI yX9_join := ⟨h_tb 1418 (by decide +kernel), h_tb 1419 (by decide +kernel)⟩
theorem lkL_137 : Cond.methodLink RL 137 yX9_join ∈ h_tbl := h_tb 1417 (by decide +kernel)
theorem myX8_part : h_MY yX8_part cX8_part 2 (some .int) 0 := ⟨h_tb 902 (by decide +kernel), h_tb 71 (by decide +kernel), by decide +kernel⟩
theorem miX8_part : h_MI yX8_part := ⟨h_tb 900 (by decide +kernel), h_tb 901 (by decide +kernel)⟩
theorem lkL_138 : Cond.methodLink RL 138 yX8_part ∈ h_tbl := h_tb 899 (by decide +kernel)
theorem myX9_part : h_MY yX9_part cX9_part 2 (some .int) 0 := ⟨h_tb 1429 (by decide +kernel), h_tb 81 (by decide +kernel), by decide +kernel⟩
theorem miX9_part : h_MI yX9_part := ⟨h_tb 1427 (by decide +kernel), h_tb 1428 (by decide +kernel)⟩
theorem lkL_141 : Cond.methodLink RL 141 yX9_part ∈ h_tbl := h_tb 1426 (by decide +kernel)
theorem myX8_ends : h_MY yX8_ends cX8_ends 2 (some .int) 1 := ⟨h_tb 906 (by decide +kernel), h_tb 71 (by decide +kernel), by decide +kernel⟩
theorem miX8_ends : h_MI yX8_ends := ⟨h_tb 904 (by decide +kernel), h_tb 905 (by decide +kernel)⟩
theorem lkL_142 : Cond.methodLink RL 142 yX8_ends ∈ h_tbl := h_tb 903 (by decide +kernel)
theorem myX9_ends : h_MY yX9_ends cX9_ends 8 (some .int) 1 := ⟨h_tb 1433 (by decide +kernel), h_tb 81 (by decide +kernel), by decide +kernel⟩
theorem miX9_ends : h_MI yX9_ends := ⟨h_tb 1431 (by decide +kernel), h_tb 1432 (by decide +kernel)⟩
theorem lkL_145 : Cond.methodLink RL 145 yX9_ends ∈ h_tbl := h_tb 1430 (by decide +kernel)
theorem myX8_round : h_MY yX8_round cX8_round 9 (some .int) 4 := ⟨h_tb 925 (by decide +kernel), h_tb 71 (by decide +kernel), by decide +kernel⟩
theorem miX8_round : h_MI yX8_round := ⟨h_tb 923 (by decide +kernel), h_tb 924 (by decide +kernel)⟩
theorem lkL_146 : Cond.methodLink RL 146 yX8_round ∈ h_tbl := h_tb 922 (by decide +kernel)
theorem myX9_round : h_MY yX9_round cX9_round 9 (some .int) 4 := ⟨h_tb 1437 (by decide +kernel), h_tb 81 (by decide +kernel), by decide +kernel⟩
theorem miX9_round : h_MI yX9_round := ⟨h_tb 1435 (by decide +kernel), h_tb 1436 (by decide +kernel)⟩
theorem lkL_150 : Cond.methodLink RL 150 yX9_round ∈ h_tbl := h_tb 1434 (by decide +kernel)
theorem myX8_write : h_MY yX8_write cX8_write 2 (some .int) 1 := ⟨h_tb 929 (by decide +kernel), h_tb 71 (by decide +kernel), by decide +kernel⟩
theorem miX8_write : h_MI yX8_write := ⟨h_tb 927 (by decide +kernel), h_tb 928 (by decide +kernel)⟩
theorem lkL_151 : Cond.methodLink RL 151 yX8_write ∈ h_tbl := h_tb 926 (by decide +kernel)
theorem myX9_write : h_MY yX9_write cX9_write 2 (some .int) 1 := ⟨h_tb 1441 (by decide +kernel), h_tb 81 (by decide +kernel), by decide +kernel⟩
theorem miX9_write : h_MI yX9_write := ⟨h_tb 1439 (by decide +kernel), h_tb 1440 (by decide +kernel)⟩
theorem lkL_154 : Cond.methodLink RL 154 yX9_write ∈ h_tbl := h_tb 1438 (by decide +kernel)
theorem myX8_tear : h_MY yX8_tear cX8_tear 2 (some .int) 0 := ⟨h_tb 933 (by decide +kernel), h_tb 71 (by decide +kernel), by decide +kernel⟩
theorem miX8_tear : h_MI yX8_tear := ⟨h_tb 931 (by decide +kernel), h_tb 932 (by decide +kernel)⟩
theorem lkL_155 : Cond.methodLink RL 155 yX8_tear ∈ h_tbl := h_tb 930 (by decide +kernel)
theorem myX9_tear : h_MY yX9_tear cX9_tear 2 (some .int) 0 := ⟨h_tb 1446 (by decide +kernel), h_tb 81 (by decide +kernel), by decide +kernel⟩
theorem miX9_tear : h_MI yX9_tear := ⟨h_tb 1444 (by decide +kernel), h_tb 1445 (by decide +kernel)⟩
theorem lkL_158 : Cond.methodLink RL 158 yX9_tear ∈ h_tbl := h_tb 1443 (by decide +kernel)
theorem myX8_judge : h_MY yX8_judge cX8_judge 3 (some .int) 0 := ⟨h_tb 937 (by decide +kernel), h_tb 71 (by decide +kernel), by decide +kernel⟩
theorem miX8_judge : h_MI yX8_judge := ⟨h_tb 935 (by decide +kernel), h_tb 936 (by decide +kernel)⟩
theorem lkL_159 : Cond.methodLink RL 159 yX8_judge ∈ h_tbl := h_tb 934 (by decide +kernel)
theorem myX9_judge : h_MY yX9_judge cX9_judge 2 (some .int) 0 := ⟨h_tb 1450 (by decide +kernel), h_tb 81 (by decide +kernel), by decide +kernel⟩
theorem miX9_judge : h_MI yX9_judge := ⟨h_tb 1448 (by decide +kernel), h_tb 1449 (by decide +kernel)⟩
theorem lkL_162 : Cond.methodLink RL 162 yX9_judge ∈ h_tbl := h_tb 1447 (by decide +kernel)
theorem myX8_seed : h_MY yX8_seed cX8_seed 3 (some .int) 1 := ⟨h_tb 942 (by decide +kernel), h_tb 71 (by decide +kernel), by decide +kernel⟩
theorem miX8_seed : h_MI yX8_seed := ⟨h_tb 940 (by decide +kernel), h_tb 941 (by decide +kernel)⟩
theorem lkL_163 : Cond.methodLink RL 163 yX8_seed ∈ h_tbl := h_tb 939 (by decide +kernel)
theorem myX9_seed : h_MY yX9_seed cX9_seed 3 (some .int) 1 := ⟨h_tb 1454 (by decide +kernel), h_tb 81 (by decide +kernel), by decide +kernel⟩
theorem miX9_seed : h_MI yX9_seed := ⟨h_tb 1452 (by decide +kernel), h_tb 1453 (by decide +kernel)⟩
theorem lkL_166 : Cond.methodLink RL 166 yX9_seed ∈ h_tbl := h_tb 1451 (by decide +kernel)
theorem myX8_keep : h_MY yX8_keep cX8_keep 2 (some .int) 1 := ⟨h_tb 946 (by decide +kernel), h_tb 71 (by decide +kernel), by decide +kernel⟩
theorem miX8_keep : h_MI yX8_keep := ⟨h_tb 944 (by decide +kernel), h_tb 945 (by decide +kernel)⟩
theorem lkL_167 : Cond.methodLink RL 167 yX8_keep ∈ h_tbl := h_tb 943 (by decide +kernel)
theorem myX9_keep : h_MY yX9_keep cX9_keep 4 (some .int) 1 := ⟨h_tb 1458 (by decide +kernel), h_tb 81 (by decide +kernel), by decide +kernel⟩
theorem miX9_keep : h_MI yX9_keep := ⟨h_tb 1456 (by decide +kernel), h_tb 1457 (by decide +kernel)⟩
theorem lkL_170 : Cond.methodLink RL 170 yX9_keep ∈ h_tbl := h_tb 1455 (by decide +kernel)
theorem myX8_goBack : h_MY yX8_goBack cX8_goBack 2 (some .int) 1 := ⟨h_tb 961 (by decide +kernel), h_tb 71 (by decide +kernel), by decide +kernel⟩
theorem miX8_goBack : h_MI yX8_goBack := ⟨h_tb 959 (by decide +kernel), h_tb 960 (by decide +kernel)⟩
theorem lkL_171 : Cond.methodLink RL 171 yX8_goBack ∈ h_tbl := h_tb 958 (by decide +kernel)
theorem myX9_goBack : h_MY yX9_goBack cX9_goBack 4 (some .int) 1 := ⟨h_tb 1462 (by decide +kernel), h_tb 81 (by decide +kernel), by decide +kernel⟩
theorem miX9_goBack : h_MI yX9_goBack := ⟨h_tb 1460 (by decide +kernel), h_tb 1461 (by decide +kernel)⟩
theorem lkL_174 : Cond.methodLink RL 174 yX9_goBack ∈ h_tbl := h_tb 1459 (by decide +kernel)
/-- what the law's walk stands on -/
def l_Γ (E : hE) (p : Program) (s : State) (m : MethodId) (meth : Method) (c : Code) (b L : Nat) (xs : Nat → Int32) : Prop := p.tables.exec = Jvm.exec ∧ c.code = code ∧ meth.sig.returnType = ret ∧ c.maxLocals = 4 ∧ (∀ w ∈ h_tbl, w.before #[Value.ref b] s = true) ∧ s.vm.findClass RL = some m.cls ∧ meth.locks = false ∧ h_X E (fun q => s.heap.size ≤ q) s s.heap ∧ va_X b L xs s s.heap ∧ b < s.heap.size
def st_feed (Cpl : hM → hM → Prop) : Prop := ∀ (σ1 σ2 : hM), Cpl σ1 σ2 → ∀ (p0 : Int32) (p1 : Int64), ∃ (r : Int32) (σ1b σ2b : hM), fX8_feed kT1 0 p0 p1 σ1 = some (r, σ1b) ∧ fX9_feed kT2 0 p0 p1 σ2 = some (r, σ2b) ∧ Cpl σ1b σ2b
def st_tune (Cpl : hM → hM → Prop) : Prop := ∀ (σ1 σ2 : hM), Cpl σ1 σ2 → ∃ (r : Int32) (σ1b σ2b : hM), fX8_tune kT1 0 σ1 = some (r, σ1b) ∧ fX9_tune kT2 0 σ2 = some (r, σ2b) ∧ Cpl σ1b σ2b
def st_singers (Cpl : hM → hM → Prop) : Prop := ∀ (σ1 σ2 : hM), Cpl σ1 σ2 → ∃ (r : Int32) (σ1b σ2b : hM), fX8_singers kT1 0 σ1 = some (r, σ1b) ∧ fX9_singers kT2 0 σ2 = some (r, σ2b) ∧ Cpl σ1b σ2b
def st_tasks (Cpl : hM → hM → Prop) : Prop := ∀ (σ1 σ2 : hM), Cpl σ1 σ2 → ∃ (r : Int32) (σ1b σ2b : hM), fX8_tasks kT1 0 σ1 = some (r, σ1b) ∧ fX9_tasks kT2 0 σ2 = some (r, σ2b) ∧ Cpl σ1b σ2b
def st_fault (Cpl : hM → hM → Prop) : Prop := ∀ (σ1 σ2 : hM), Cpl σ1 σ2 → ∃ (r : Int32) (σ1b σ2b : hM), fX8_fault kT1 0 σ1 = some (r, σ1b) ∧ fX9_fault kT2 0 σ2 = some (r, σ2b) ∧ Cpl σ1b σ2b
def st_told (Cpl : hM → hM → Prop) : Prop := ∀ (σ1 σ2 : hM), Cpl σ1 σ2 → ∀ (p0 : Int32), ∃ (r : Int32) (σ1b σ2b : hM), fX8_told kT1 0 p0 σ1 = some (r, σ1b) ∧ fX9_told kT2 0 p0 σ2 = some (r, σ2b) ∧ Cpl σ1b σ2b
def st_note (Cpl : hM → hM → Prop) : Prop := ∀ (σ1 σ2 : hM), Cpl σ1 σ2 → ∀ (p0 : Int32) (p1 : Int32), ∃ (r : Int32) (σ1b σ2b : hM), fX8_note kT1 0 p0 p1 σ1 = some (r, σ1b) ∧ fX9_note kT2 0 p0 p1 σ2 = some (r, σ2b) ∧ Cpl σ1b σ2b
def st_singer (Cpl : hM → hM → Prop) : Prop := ∀ (σ1 σ2 : hM), Cpl σ1 σ2 → ∀ (p0 : Int32) (p1 : Int32), ∃ (r : Int32) (σ1b σ2b : hM), fX8_singer kT1 0 p0 p1 σ1 = some (r, σ1b) ∧ fX9_singer kT2 0 p0 p1 σ2 = some (r, σ2b) ∧ Cpl σ1b σ2b
def st_task (Cpl : hM → hM → Prop) : Prop := ∀ (σ1 σ2 : hM), Cpl σ1 σ2 → ∀ (p0 : Int32) (p1 : Int32), ∃ (r : Int32) (σ1b σ2b : hM), fX8_task kT1 0 p0 p1 σ1 = some (r, σ1b) ∧ fX9_task kT2 0 p0 p1 σ2 = some (r, σ2b) ∧ Cpl σ1b σ2b
def st_sing (Cpl : hM → hM → Prop) : Prop := ∀ (σ1 σ2 : hM), Cpl σ1 σ2 → ∀ (p0 : Int32) (p1 : Int32), ∃ (r : Int32) (σ1b σ2b : hM), fX8_sing kT1 0 p0 p1 σ1 = some (r, σ1b) ∧ fX9_sing kT2 0 p0 p1 σ2 = some (r, σ2b) ∧ Cpl σ1b σ2b
def st_height (Cpl : hM → hM → Prop) : Prop := ∀ (σ1 σ2 : hM), Cpl σ1 σ2 → ∀ (p0 : Int32), ∃ (r : Int32) (σ1b σ2b : hM), fX8_height kT1 0 p0 σ1 = some (r, σ1b) ∧ fX9_height kT2 0 p0 σ2 = some (r, σ2b) ∧ Cpl σ1b σ2b
def st_slid (Cpl : hM → hM → Prop) : Prop := ∀ (σ1 σ2 : hM), Cpl σ1 σ2 → ∃ (r : Int32) (σ1b σ2b : hM), fX8_slid kT1 0 σ1 = some (r, σ1b) ∧ fX9_slid kT2 0 σ2 = some (r, σ2b) ∧ Cpl σ1b σ2b
def st_score (Cpl : hM → hM → Prop) : Prop := ∀ (σ1 σ2 : hM), Cpl σ1 σ2 → ∀ (p0 : Int32), ∃ (r : Int32) (σ1b σ2b : hM), fX8_score kT1 0 p0 σ1 = some (r, σ1b) ∧ fX9_score kT2 0 p0 σ2 = some (r, σ2b) ∧ Cpl σ1b σ2b
def st_calls (Cpl : hM → hM → Prop) : Prop := ∀ (σ1 σ2 : hM), Cpl σ1 σ2 → ∃ (r : Int32) (σ1b σ2b : hM), fX8_calls kT1 0 σ1 = some (r, σ1b) ∧ fX9_calls kT2 0 σ2 = some (r, σ2b) ∧ Cpl σ1b σ2b
def st_fooled (Cpl : hM → hM → Prop) : Prop := ∀ (σ1 σ2 : hM), Cpl σ1 σ2 → ∀ (p0 : Int32), ∃ (r : Int32) (σ1b σ2b : hM), fX8_fooled kT1 0 p0 σ1 = some (r, σ1b) ∧ fX9_fooled kT2 0 p0 σ2 = some (r, σ2b) ∧ Cpl σ1b σ2b
def st_weigh (Cpl : hM → hM → Prop) : Prop := ∀ (σ1 σ2 : hM), Cpl σ1 σ2 → ∀ (p0 : Int32) (p1 : Int32), ∃ (r : Int32) (σ1b σ2b : hM), fX8_weigh kT1 0 p0 p1 σ1 = some (r, σ1b) ∧ fX9_weigh kT2 0 p0 p1 σ2 = some (r, σ2b) ∧ Cpl σ1b σ2b
def st_result (Cpl : hM → hM → Prop) : Prop := ∀ (σ1 σ2 : hM), Cpl σ1 σ2 → ∀ (p0 : Int32) (p1 : Int32) (_ : p1 = 0 ∨ p1 = 1), ∃ (r : Int32) (σ1b σ2b : hM), fX8_result kT1 0 p0 p1 σ1 = some (r, σ1b) ∧ fX9_result kT2 0 p0 p1 σ2 = some (r, σ2b) ∧ Cpl σ1b σ2b
def st_forget (Cpl : hM → hM → Prop) : Prop := ∀ (σ1 σ2 : hM), Cpl σ1 σ2 → ∃ (r : Int32) (σ1b σ2b : hM), fX8_forget kT1 0 σ1 = some (r, σ1b) ∧ fX9_forget kT2 0 σ2 = some (r, σ2b) ∧ Cpl σ1b σ2b
def st_odds (Cpl : hM → hM → Prop) : Prop := ∀ (σ1 σ2 : hM), Cpl σ1 σ2 → ∀ (p0 : Int32), ∃ (r : Int64) (σ1b σ2b : hM), fX8_odds kT1 0 p0 σ1 = some (r, σ1b) ∧ fX9_odds kT2 0 p0 σ2 = some (r, σ2b) ∧ Cpl σ1b σ2b
def st_next (Cpl : hM → hM → Prop) : Prop := ∀ (σ1 σ2 : hM), Cpl σ1 σ2 → ∃ (r : Int32) (σ1b σ2b : hM), fX8_next kT1 0 σ1 = some (r, σ1b) ∧ fX9_next kT2 0 σ2 = some (r, σ2b) ∧ Cpl σ1b σ2b
def st_left (Cpl : hM → hM → Prop) : Prop := ∀ (σ1 σ2 : hM), Cpl σ1 σ2 → ∀ (p0 : Int32), ∃ (r : Int32) (σ1b σ2b : hM), fX8_left kT1 0 p0 σ1 = some (r, σ1b) ∧ fX9_left kT2 0 p0 σ2 = some (r, σ2b) ∧ Cpl σ1b σ2b
def st_alike (Cpl : hM → hM → Prop) : Prop := ∀ (σ1 σ2 : hM), Cpl σ1 σ2 → ∀ (p0 : Int32), ∃ (r : Int32) (σ1b σ2b : hM), fX8_alike kT1 0 p0 σ1 = some (r, σ1b) ∧ fX9_alike kT2 0 p0 σ2 = some (r, σ2b) ∧ Cpl σ1b σ2b
def st_lesson (Cpl : hM → hM → Prop) : Prop := ∀ (σ1 σ2 : hM), Cpl σ1 σ2 → ∀ (p0 : Int32) (p1 : Int32), ∃ (r : Int32) (σ1b σ2b : hM), fX8_lesson kT1 0 p0 p1 σ1 = some (r, σ1b) ∧ fX9_lesson kT2 0 p0 p1 σ2 = some (r, σ2b) ∧ Cpl σ1b σ2b
def st_plan (Cpl : hM → hM → Prop) : Prop := ∀ (σ1 σ2 : hM), Cpl σ1 σ2 → ∀ (p0 : Int32) (p1 : Int32) (p2 : Int32), ∃ (r : Int32) (σ1b σ2b : hM), fX8_plan kT1 0 p0 p1 p2 σ1 = some (r, σ1b) ∧ fX9_plan kT2 0 p0 p1 p2 σ2 = some (r, σ2b) ∧ Cpl σ1b σ2b
def st_key (Cpl : hM → hM → Prop) : Prop := ∀ (σ1 σ2 : hM), Cpl σ1 σ2 → ∀ (p0 : Int32), ∃ (r : Int32) (σ1b σ2b : hM), fX8_key kT1 0 p0 σ1 = some (r, σ1b) ∧ fX9_key kT2 0 p0 σ2 = some (r, σ2b) ∧ Cpl σ1b σ2b
def st_age (Cpl : hM → hM → Prop) : Prop := ∀ (σ1 σ2 : hM), Cpl σ1 σ2 → ∀ (p0 : Int32), ∃ (r : Int32) (σ1b σ2b : hM), fX8_age kT1 0 p0 σ1 = some (r, σ1b) ∧ fX9_age kT2 0 p0 σ2 = some (r, σ2b) ∧ Cpl σ1b σ2b
def st_passes (Cpl : hM → hM → Prop) : Prop := ∀ (σ1 σ2 : hM), Cpl σ1 σ2 → ∀ (p0 : Int32) (p1 : Int32), ∃ (r : Int32) (σ1b σ2b : hM), fX8_passes kT1 0 p0 p1 σ1 = some (r, σ1b) ∧ fX9_passes kT2 0 p0 p1 σ2 = some (r, σ2b) ∧ Cpl σ1b σ2b
def st_pairs (Cpl : hM → hM → Prop) : Prop := ∀ (σ1 σ2 : hM), Cpl σ1 σ2 → ∀ (p0 : Int32), ∃ (r : Int32) (σ1b σ2b : hM), fX8_pairs kT1 0 p0 σ1 = some (r, σ1b) ∧ fX9_pairs kT2 0 p0 σ2 = some (r, σ2b) ∧ Cpl σ1b σ2b
def st_join (Cpl : hM → hM → Prop) : Prop := ∀ (σ1 σ2 : hM), Cpl σ1 σ2 → ∀ (p0 : Int32), ∃ (r : Int32) (σ1b σ2b : hM), fX8_join kT1 0 p0 σ1 = some (r, σ1b) ∧ fX9_join kT2 0 p0 σ2 = some (r, σ2b) ∧ Cpl σ1b σ2b
def st_part (Cpl : hM → hM → Prop) : Prop := ∀ (σ1 σ2 : hM), Cpl σ1 σ2 → ∃ (r : Int32) (σ1b σ2b : hM), fX8_part kT1 0 σ1 = some (r, σ1b) ∧ fX9_part kT2 0 σ2 = some (r, σ2b) ∧ Cpl σ1b σ2b
def st_ends (Cpl : hM → hM → Prop) : Prop := ∀ (σ1 σ2 : hM), Cpl σ1 σ2 → ∀ (p0 : Int32), ∃ (r : Int32) (σ1b σ2b : hM), fX8_ends kT1 0 p0 σ1 = some (r, σ1b) ∧ fX9_ends kT2 0 p0 σ2 = some (r, σ2b) ∧ Cpl σ1b σ2b
def st_round (Cpl : hM → hM → Prop) : Prop := ∀ (σ1 σ2 : hM), Cpl σ1 σ2 → ∀ (p0 : Int32) (p1 : Int32) (p2 : Int32) (p3 : Int32), ∃ (r : Int32) (σ1b σ2b : hM), fX8_round kT1 0 p0 p1 p2 p3 σ1 = some (r, σ1b) ∧ fX9_round kT2 0 p0 p1 p2 p3 σ2 = some (r, σ2b) ∧ Cpl σ1b σ2b
def st_write (Cpl : hM → hM → Prop) : Prop := ∀ (σ1 σ2 : hM), Cpl σ1 σ2 → ∀ (p0 : Int32), ∃ (r : Int32) (σ1b σ2b : hM), fX8_write kT1 0 p0 σ1 = some (r, σ1b) ∧ fX9_write kT2 0 p0 σ2 = some (r, σ2b) ∧ Cpl σ1b σ2b
def st_tear (Cpl : hM → hM → Prop) : Prop := ∀ (σ1 σ2 : hM), Cpl σ1 σ2 → ∃ (r : Int32) (σ1b σ2b : hM), fX8_tear kT1 0 σ1 = some (r, σ1b) ∧ fX9_tear kT2 0 σ2 = some (r, σ2b) ∧ Cpl σ1b σ2b
def st_judge (Cpl : hM → hM → Prop) : Prop := ∀ (σ1 σ2 : hM), Cpl σ1 σ2 → ∃ (r : Int32) (σ1b σ2b : hM), fX8_judge kT1 0 σ1 = some (r, σ1b) ∧ fX9_judge kT2 0 σ2 = some (r, σ2b) ∧ Cpl σ1b σ2b
def st_seed (Cpl : hM → hM → Prop) : Prop := ∀ (σ1 σ2 : hM), Cpl σ1 σ2 → ∀ (p0 : Int32), ∃ (r : Int32) (σ1b σ2b : hM), fX8_seed kT1 0 p0 σ1 = some (r, σ1b) ∧ fX9_seed kT2 0 p0 σ2 = some (r, σ2b) ∧ Cpl σ1b σ2b
def st_keep (Cpl : hM → hM → Prop) : Prop := ∀ (σ1 σ2 : hM), Cpl σ1 σ2 → ∀ (p0 : Int32), ∃ (r : Int32) (σ1b σ2b : hM), fX8_keep kT1 0 p0 σ1 = some (r, σ1b) ∧ fX9_keep kT2 0 p0 σ2 = some (r, σ2b) ∧ Cpl σ1b σ2b
def st_goBack (Cpl : hM → hM → Prop) : Prop := ∀ (σ1 σ2 : hM), Cpl σ1 σ2 → ∀ (p0 : Int32), ∃ (r : Int32) (σ1b σ2b : hM), fX8_goBack kT1 0 p0 σ1 = some (r, σ1b) ∧ fX9_goBack kT2 0 p0 σ2 = some (r, σ2b) ∧ Cpl σ1b σ2b
section LAWC
variable {p : Program} {l : Launch} {e : Env} {s : State} {m : MethodId} {below : List Frame} {meth : Method} {c : Code} {b L : Nat} {xs : Nat → Int32} {E : hE}
set_option maxRecDepth 100000 in
set_option maxHeartbeats 4000000 in
theorem law_feed {Cpl : hM → hM → Prop} (hst : st_feed Cpl) (hΓ : l_Γ E p s m meth c b L xs) {v3 : Int32} (hi1 : vp_in (v3 + (1 : Int32)) L) (hi2 : vp_in (v3 + (2 : Int32)) L) (hi3 : vp_in (v3 + (3 : Int32)) L) (hi4 : vp_in (v3 + (4 : Int32)) L) {σ1 σ2 : hM} {H : Heap} {L0 : List Loc} {ls : Array Slot} (hc : Cpl σ1 σ2) (hw : h_L E s.heap.size s.heap σ1 σ2 H L0) (hl : lv_has ls 4 [(0, .ref b), (1, .ref (s.heap.size + 0)), (2, .ref (s.heap.size + 101 + 0)), (3, .int v3)]) (hnx : ∀ (σ1 σ2 : hM) (H : Heap) (L0 : List Loc) (ls : Array Slot), Cpl σ1 σ2 → h_L E s.heap.size s.heap σ1 σ2 H L0 → lv_has ls 4 [(0, .ref b), (1, .ref (s.heap.size + 0)), (2, .ref (s.heap.size + 101 + 0)), (3, .int v3)] → W p l e room_1 s m #[Value.ref b] below meth c H L0 600000 7302249 (lw_Z below #[Value.ref b] s) (F0 m 1151 ls [])) : W p l e room_1 s m #[Value.ref b] below meth c H L0 600000 7302249 (lw_Z below #[Value.ref b] s) (F0 m 200 ls []) := by
  obtain ⟨hx, hb, hr, hml, hts, hown, hlk, hX, hXs, hbl⟩ := hΓ
  have hbA : ¬ (fun q : Nat => s.heap.size ≤ q) b := Nat.not_le.mpr hbl
  obtain ⟨r, σ1b, σ2b, h1, h2, hc2⟩ := hst σ1 σ2 hc (xs (v3 + (1 : Int32)).toNatClampNeg) (((xs (v3 + (2 : Int32)).toNatClampNeg).toInt64 <<< ((32 : Int32).toInt64 &&& 63)) ||| ((xs (v3 + (3 : Int32)).toNatClampNeg).toInt64 &&& (4294967295 : Int64)))
  refine lv_aload_n hx hb dL_law_200 rfl (lv_at hl 1 rfl) ?_
  refine lv_aload_n hx hb dL_law_201 rfl (lv_at hl 0 rfl) ?_
  refine lv_iload_n hx hb dL_law_202 rfl (lv_at hl 3 rfl) ?_
  refine lv_iconst (v := 1) hx hb dL_law_203 (by decide) ?_
  refine lv_iadd hx hb dL_law_204 ?_
  refine va_sld hx hb hXs hbl hbA hw.2.2.1 hi1 dL_law_205 ?_
  refine lv_aload_n hx hb dL_law_206 rfl (lv_at hl 0 rfl) ?_
  refine lv_iload_n hx hb dL_law_207 rfl (lv_at hl 3 rfl) ?_
  refine lv_iconst (v := 2) hx hb dL_law_208 (by decide) ?_
  refine lv_iadd hx hb dL_law_209 ?_
  refine va_sld hx hb hXs hbl hbA hw.2.2.1 hi2 dL_law_210 ?_
  refine lv_i2l hx hb dL_law_211 rfl ?_
  refine lv_bipush (v := 32) hx hb dL_law_212 (by decide) ?_
  refine lv_lshl hx hb dL_law_214 rfl ?_
  refine lv_aload_n hx hb dL_law_215 rfl (lv_at hl 0 rfl) ?_
  refine lv_iload_n hx hb dL_law_216 rfl (lv_at hl 3 rfl) ?_
  refine lv_iconst (v := 3) hx hb dL_law_217 (by decide) ?_
  refine lv_iadd hx hb dL_law_218 ?_
  refine va_sld hx hb hXs hbl hbA hw.2.2.1 hi3 dL_law_219 ?_
  refine lv_i2l hx hb dL_law_220 rfl ?_
  refine lv_ldc2 hx hb hown (hts _ klL_13) dL_law_221 ?_
  refine lv_land hx hb dL_law_224 ?_
  refine lv_lor hx hb dL_law_225 ?_
  refine l_c1i (As := [.int (xs (v3 + (1 : Int32)).toNatClampNeg), .long (((xs (v3 + (2 : Int32)).toNatClampNeg).toInt64 <<< ((32 : Int32).toInt64 &&& 63)) ||| ((xs (v3 + (3 : Int32)).toNatClampNeg).toInt64 &&& (4294967295 : Int64)))]) (rest := []) h1 hx hb hml hts hown hX hw myX8_feed miX8_feed lkL_15 rfl (fun q hq => c_X8_feed l E s.heap.size kT1 0 (xs (v3 + (1 : Int32)).toNatClampNeg) (((xs (v3 + (2 : Int32)).toNatClampNeg).toInt64 <<< ((32 : Int32).toInt64 &&& 63)) ||| ((xs (v3 + (3 : Int32)).toNatClampNeg).toInt64 &&& (4294967295 : Int64))) σ1 hq) ⟨Nat.le_of_ble_eq_true rfl, Nat.le_of_ble_eq_true rfl⟩ ⟨Nat.le_of_ble_eq_true rfl, Nat.le_of_ble_eq_true rfl⟩ rfl hl.1 rfl (Nat.le_of_ble_eq_true rfl) dL_law_226 (fun H1 L1 hw => ?_)
  refine lv_aload_n hx hb dL_law_229 rfl (lv_at hl 2 rfl) ?_
  refine lv_aload_n hx hb dL_law_230 rfl (lv_at hl 0 rfl) ?_
  refine lv_iload_n hx hb dL_law_231 rfl (lv_at hl 3 rfl) ?_
  refine lv_iconst (v := 1) hx hb dL_law_232 (by decide) ?_
  refine lv_iadd hx hb dL_law_233 ?_
  refine va_sld hx hb hXs hbl hbA hw.2.2.1 hi1 dL_law_234 ?_
  refine lv_aload_n hx hb dL_law_235 rfl (lv_at hl 0 rfl) ?_
  refine lv_iload_n hx hb dL_law_236 rfl (lv_at hl 3 rfl) ?_
  refine lv_iconst (v := 2) hx hb dL_law_237 (by decide) ?_
  refine lv_iadd hx hb dL_law_238 ?_
  refine va_sld hx hb hXs hbl hbA hw.2.2.1 hi2 dL_law_239 ?_
  refine lv_i2l hx hb dL_law_240 rfl ?_
  refine lv_bipush (v := 32) hx hb dL_law_241 (by decide) ?_
  refine lv_lshl hx hb dL_law_243 rfl ?_
  refine lv_aload_n hx hb dL_law_244 rfl (lv_at hl 0 rfl) ?_
  refine lv_iload_n hx hb dL_law_245 rfl (lv_at hl 3 rfl) ?_
  refine lv_iconst (v := 3) hx hb dL_law_246 (by decide) ?_
  refine lv_iadd hx hb dL_law_247 ?_
  refine va_sld hx hb hXs hbl hbA hw.2.2.1 hi3 dL_law_248 ?_
  refine lv_i2l hx hb dL_law_249 rfl ?_
  refine lv_ldc2 hx hb hown (hts _ klL_13) dL_law_250 ?_
  refine lv_land hx hb dL_law_253 ?_
  refine lv_lor hx hb dL_law_254 ?_
  refine l_c2i (As := [.int (xs (v3 + (1 : Int32)).toNatClampNeg), .long (((xs (v3 + (2 : Int32)).toNatClampNeg).toInt64 <<< ((32 : Int32).toInt64 &&& 63)) ||| ((xs (v3 + (3 : Int32)).toNatClampNeg).toInt64 &&& (4294967295 : Int64)))]) (rest := [.int r]) h2 hx hb hml hts hown hX hw myX9_feed miX9_feed lkL_19 rfl (fun q hq => c_X9_feed l E (s.heap.size + 101) kT2 0 (xs (v3 + (1 : Int32)).toNatClampNeg) (((xs (v3 + (2 : Int32)).toNatClampNeg).toInt64 <<< ((32 : Int32).toInt64 &&& 63)) ||| ((xs (v3 + (3 : Int32)).toNatClampNeg).toInt64 &&& (4294967295 : Int64))) σ2 hq) ⟨Nat.le_of_ble_eq_true rfl, Nat.le_of_ble_eq_true rfl⟩ ⟨Nat.le_of_ble_eq_true rfl, Nat.le_of_ble_eq_true rfl⟩ rfl hl.1 rfl (Nat.le_of_ble_eq_true rfl) dL_law_255 (fun H2 L2 hw => ?_)
  refine lv_icmp_eq (tgt := 1151) hx hb dL_law_258 (by decide) (fun hq => ?_) (fun hq => absurd rfl hq)
  exact hnx _ _ _ _ _ hc2 hw (lv_sub hl [0, 1, 2, 3] rfl)
set_option maxRecDepth 100000 in
set_option maxHeartbeats 4000000 in
theorem law_tune {Cpl : hM → hM → Prop} (hst : st_tune Cpl) (hΓ : l_Γ E p s m meth c b L xs) {v3 : Int32} (hi1 : vp_in (v3 + (1 : Int32)) L) (hi2 : vp_in (v3 + (2 : Int32)) L) (hi3 : vp_in (v3 + (3 : Int32)) L) (hi4 : vp_in (v3 + (4 : Int32)) L) {σ1 σ2 : hM} {H : Heap} {L0 : List Loc} {ls : Array Slot} (hc : Cpl σ1 σ2) (hw : h_L E s.heap.size s.heap σ1 σ2 H L0) (hl : lv_has ls 4 [(0, .ref b), (1, .ref (s.heap.size + 0)), (2, .ref (s.heap.size + 101 + 0)), (3, .int v3)]) (hnx : ∀ (σ1 σ2 : hM) (H : Heap) (L0 : List Loc) (ls : Array Slot), Cpl σ1 σ2 → h_L E s.heap.size s.heap σ1 σ2 H L0 → lv_has ls 4 [(0, .ref b), (1, .ref (s.heap.size + 0)), (2, .ref (s.heap.size + 101 + 0)), (3, .int v3)] → W p l e room_1 s m #[Value.ref b] below meth c H L0 600000 7302249 (lw_Z below #[Value.ref b] s) (F0 m 1151 ls [])) : W p l e room_1 s m #[Value.ref b] below meth c H L0 600000 7302249 (lw_Z below #[Value.ref b] s) (F0 m 263 ls []) := by
  obtain ⟨hx, hb, hr, hml, hts, hown, hlk, hX, hXs, hbl⟩ := hΓ
  have hbA : ¬ (fun q : Nat => s.heap.size ≤ q) b := Nat.not_le.mpr hbl
  obtain ⟨r, σ1b, σ2b, h1, h2, hc2⟩ := hst σ1 σ2 hc 
  refine lv_aload_n hx hb dL_law_263 rfl (lv_at hl 1 rfl) ?_
  refine l_c1i (As := []) (rest := []) h1 hx hb hml hts hown hX hw myX8_tune miX8_tune lkL_20 rfl (fun q hq => c_X8_tune l E s.heap.size kT1 0  σ1 hq) ⟨Nat.le_of_ble_eq_true rfl, Nat.le_of_ble_eq_true rfl⟩ ⟨Nat.le_of_ble_eq_true rfl, Nat.le_of_ble_eq_true rfl⟩ rfl hl.1 rfl (Nat.le_of_ble_eq_true rfl) dL_law_264 (fun H1 L1 hw => ?_)
  refine lv_aload_n hx hb dL_law_267 rfl (lv_at hl 2 rfl) ?_
  refine l_c2i (As := []) (rest := [.int r]) h2 hx hb hml hts hown hX hw myX9_tune miX9_tune lkL_24 rfl (fun q hq => c_X9_tune l E (s.heap.size + 101) kT2 0  σ2 hq) ⟨Nat.le_of_ble_eq_true rfl, Nat.le_of_ble_eq_true rfl⟩ ⟨Nat.le_of_ble_eq_true rfl, Nat.le_of_ble_eq_true rfl⟩ rfl hl.1 rfl (Nat.le_of_ble_eq_true rfl) dL_law_268 (fun H2 L2 hw => ?_)
  refine lv_icmp_eq (tgt := 1151) hx hb dL_law_271 (by decide) (fun hq => ?_) (fun hq => absurd rfl hq)
  exact hnx _ _ _ _ _ hc2 hw (lv_sub hl [0, 1, 2, 3] rfl)
set_option maxRecDepth 100000 in
set_option maxHeartbeats 4000000 in
theorem law_singers {Cpl : hM → hM → Prop} (hst : st_singers Cpl) (hΓ : l_Γ E p s m meth c b L xs) {v3 : Int32} (hi1 : vp_in (v3 + (1 : Int32)) L) (hi2 : vp_in (v3 + (2 : Int32)) L) (hi3 : vp_in (v3 + (3 : Int32)) L) (hi4 : vp_in (v3 + (4 : Int32)) L) {σ1 σ2 : hM} {H : Heap} {L0 : List Loc} {ls : Array Slot} (hc : Cpl σ1 σ2) (hw : h_L E s.heap.size s.heap σ1 σ2 H L0) (hl : lv_has ls 4 [(0, .ref b), (1, .ref (s.heap.size + 0)), (2, .ref (s.heap.size + 101 + 0)), (3, .int v3)]) (hnx : ∀ (σ1 σ2 : hM) (H : Heap) (L0 : List Loc) (ls : Array Slot), Cpl σ1 σ2 → h_L E s.heap.size s.heap σ1 σ2 H L0 → lv_has ls 4 [(0, .ref b), (1, .ref (s.heap.size + 0)), (2, .ref (s.heap.size + 101 + 0)), (3, .int v3)] → W p l e room_1 s m #[Value.ref b] below meth c H L0 600000 7302249 (lw_Z below #[Value.ref b] s) (F0 m 1151 ls [])) : W p l e room_1 s m #[Value.ref b] below meth c H L0 600000 7302249 (lw_Z below #[Value.ref b] s) (F0 m 276 ls []) := by
  obtain ⟨hx, hb, hr, hml, hts, hown, hlk, hX, hXs, hbl⟩ := hΓ
  have hbA : ¬ (fun q : Nat => s.heap.size ≤ q) b := Nat.not_le.mpr hbl
  obtain ⟨r, σ1b, σ2b, h1, h2, hc2⟩ := hst σ1 σ2 hc 
  refine lv_aload_n hx hb dL_law_276 rfl (lv_at hl 1 rfl) ?_
  refine l_c1i (As := []) (rest := []) h1 hx hb hml hts hown hX hw myX8_singers miX8_singers lkL_25 rfl (fun q hq => c_X8_singers l E s.heap.size kT1 0  σ1 hq) ⟨Nat.le_of_ble_eq_true rfl, Nat.le_of_ble_eq_true rfl⟩ ⟨Nat.le_of_ble_eq_true rfl, Nat.le_of_ble_eq_true rfl⟩ rfl hl.1 rfl (Nat.le_of_ble_eq_true rfl) dL_law_277 (fun H1 L1 hw => ?_)
  refine lv_aload_n hx hb dL_law_280 rfl (lv_at hl 2 rfl) ?_
  refine l_c2i (As := []) (rest := [.int r]) h2 hx hb hml hts hown hX hw myX9_singers miX9_singers lkL_28 rfl (fun q hq => c_X9_singers l E (s.heap.size + 101) kT2 0  σ2 hq) ⟨Nat.le_of_ble_eq_true rfl, Nat.le_of_ble_eq_true rfl⟩ ⟨Nat.le_of_ble_eq_true rfl, Nat.le_of_ble_eq_true rfl⟩ rfl hl.1 rfl (Nat.le_of_ble_eq_true rfl) dL_law_281 (fun H2 L2 hw => ?_)
  refine lv_icmp_eq (tgt := 1151) hx hb dL_law_284 (by decide) (fun hq => ?_) (fun hq => absurd rfl hq)
  exact hnx _ _ _ _ _ hc2 hw (lv_sub hl [0, 1, 2, 3] rfl)
set_option maxRecDepth 100000 in
set_option maxHeartbeats 4000000 in
theorem law_tasks {Cpl : hM → hM → Prop} (hst : st_tasks Cpl) (hΓ : l_Γ E p s m meth c b L xs) {v3 : Int32} (hi1 : vp_in (v3 + (1 : Int32)) L) (hi2 : vp_in (v3 + (2 : Int32)) L) (hi3 : vp_in (v3 + (3 : Int32)) L) (hi4 : vp_in (v3 + (4 : Int32)) L) {σ1 σ2 : hM} {H : Heap} {L0 : List Loc} {ls : Array Slot} (hc : Cpl σ1 σ2) (hw : h_L E s.heap.size s.heap σ1 σ2 H L0) (hl : lv_has ls 4 [(0, .ref b), (1, .ref (s.heap.size + 0)), (2, .ref (s.heap.size + 101 + 0)), (3, .int v3)]) (hnx : ∀ (σ1 σ2 : hM) (H : Heap) (L0 : List Loc) (ls : Array Slot), Cpl σ1 σ2 → h_L E s.heap.size s.heap σ1 σ2 H L0 → lv_has ls 4 [(0, .ref b), (1, .ref (s.heap.size + 0)), (2, .ref (s.heap.size + 101 + 0)), (3, .int v3)] → W p l e room_1 s m #[Value.ref b] below meth c H L0 600000 7302249 (lw_Z below #[Value.ref b] s) (F0 m 1151 ls [])) : W p l e room_1 s m #[Value.ref b] below meth c H L0 600000 7302249 (lw_Z below #[Value.ref b] s) (F0 m 289 ls []) := by
  obtain ⟨hx, hb, hr, hml, hts, hown, hlk, hX, hXs, hbl⟩ := hΓ
  have hbA : ¬ (fun q : Nat => s.heap.size ≤ q) b := Nat.not_le.mpr hbl
  obtain ⟨r, σ1b, σ2b, h1, h2, hc2⟩ := hst σ1 σ2 hc 
  refine lv_aload_n hx hb dL_law_289 rfl (lv_at hl 1 rfl) ?_
  refine l_c1i (As := []) (rest := []) h1 hx hb hml hts hown hX hw myX8_tasks miX8_tasks lkL_29 rfl (fun q hq => c_X8_tasks l E s.heap.size kT1 0  σ1 hq) ⟨Nat.le_of_ble_eq_true rfl, Nat.le_of_ble_eq_true rfl⟩ ⟨Nat.le_of_ble_eq_true rfl, Nat.le_of_ble_eq_true rfl⟩ rfl hl.1 rfl (Nat.le_of_ble_eq_true rfl) dL_law_290 (fun H1 L1 hw => ?_)
  refine lv_aload_n hx hb dL_law_293 rfl (lv_at hl 2 rfl) ?_
  refine l_c2i (As := []) (rest := [.int r]) h2 hx hb hml hts hown hX hw myX9_tasks miX9_tasks lkL_32 rfl (fun q hq => c_X9_tasks l E (s.heap.size + 101) kT2 0  σ2 hq) ⟨Nat.le_of_ble_eq_true rfl, Nat.le_of_ble_eq_true rfl⟩ ⟨Nat.le_of_ble_eq_true rfl, Nat.le_of_ble_eq_true rfl⟩ rfl hl.1 rfl (Nat.le_of_ble_eq_true rfl) dL_law_294 (fun H2 L2 hw => ?_)
  refine lv_icmp_eq (tgt := 1151) hx hb dL_law_297 (by decide) (fun hq => ?_) (fun hq => absurd rfl hq)
  exact hnx _ _ _ _ _ hc2 hw (lv_sub hl [0, 1, 2, 3] rfl)
set_option maxRecDepth 100000 in
set_option maxHeartbeats 4000000 in
theorem law_fault {Cpl : hM → hM → Prop} (hst : st_fault Cpl) (hΓ : l_Γ E p s m meth c b L xs) {v3 : Int32} (hi1 : vp_in (v3 + (1 : Int32)) L) (hi2 : vp_in (v3 + (2 : Int32)) L) (hi3 : vp_in (v3 + (3 : Int32)) L) (hi4 : vp_in (v3 + (4 : Int32)) L) {σ1 σ2 : hM} {H : Heap} {L0 : List Loc} {ls : Array Slot} (hc : Cpl σ1 σ2) (hw : h_L E s.heap.size s.heap σ1 σ2 H L0) (hl : lv_has ls 4 [(0, .ref b), (1, .ref (s.heap.size + 0)), (2, .ref (s.heap.size + 101 + 0)), (3, .int v3)]) (hnx : ∀ (σ1 σ2 : hM) (H : Heap) (L0 : List Loc) (ls : Array Slot), Cpl σ1 σ2 → h_L E s.heap.size s.heap σ1 σ2 H L0 → lv_has ls 4 [(0, .ref b), (1, .ref (s.heap.size + 0)), (2, .ref (s.heap.size + 101 + 0)), (3, .int v3)] → W p l e room_1 s m #[Value.ref b] below meth c H L0 600000 7302249 (lw_Z below #[Value.ref b] s) (F0 m 1151 ls [])) : W p l e room_1 s m #[Value.ref b] below meth c H L0 600000 7302249 (lw_Z below #[Value.ref b] s) (F0 m 302 ls []) := by
  obtain ⟨hx, hb, hr, hml, hts, hown, hlk, hX, hXs, hbl⟩ := hΓ
  have hbA : ¬ (fun q : Nat => s.heap.size ≤ q) b := Nat.not_le.mpr hbl
  obtain ⟨r, σ1b, σ2b, h1, h2, hc2⟩ := hst σ1 σ2 hc 
  refine lv_aload_n hx hb dL_law_302 rfl (lv_at hl 1 rfl) ?_
  refine l_c1i (As := []) (rest := []) h1 hx hb hml hts hown hX hw myX8_fault miX8_fault lkL_33 rfl (fun q hq => c_X8_fault l E s.heap.size kT1 0  σ1 hq) ⟨Nat.le_of_ble_eq_true rfl, Nat.le_of_ble_eq_true rfl⟩ ⟨Nat.le_of_ble_eq_true rfl, Nat.le_of_ble_eq_true rfl⟩ rfl hl.1 rfl (Nat.le_of_ble_eq_true rfl) dL_law_303 (fun H1 L1 hw => ?_)
  refine lv_aload_n hx hb dL_law_306 rfl (lv_at hl 2 rfl) ?_
  refine l_c2i (As := []) (rest := [.int r]) h2 hx hb hml hts hown hX hw myX9_fault miX9_fault lkL_36 rfl (fun q hq => c_X9_fault l E (s.heap.size + 101) kT2 0  σ2 hq) ⟨Nat.le_of_ble_eq_true rfl, Nat.le_of_ble_eq_true rfl⟩ ⟨Nat.le_of_ble_eq_true rfl, Nat.le_of_ble_eq_true rfl⟩ rfl hl.1 rfl (Nat.le_of_ble_eq_true rfl) dL_law_307 (fun H2 L2 hw => ?_)
  refine lv_icmp_eq (tgt := 1151) hx hb dL_law_310 (by decide) (fun hq => ?_) (fun hq => absurd rfl hq)
  exact hnx _ _ _ _ _ hc2 hw (lv_sub hl [0, 1, 2, 3] rfl)
set_option maxRecDepth 100000 in
set_option maxHeartbeats 4000000 in
theorem law_told {Cpl : hM → hM → Prop} (hst : st_told Cpl) (hΓ : l_Γ E p s m meth c b L xs) {v3 : Int32} (hi1 : vp_in (v3 + (1 : Int32)) L) (hi2 : vp_in (v3 + (2 : Int32)) L) (hi3 : vp_in (v3 + (3 : Int32)) L) (hi4 : vp_in (v3 + (4 : Int32)) L) {σ1 σ2 : hM} {H : Heap} {L0 : List Loc} {ls : Array Slot} (hc : Cpl σ1 σ2) (hw : h_L E s.heap.size s.heap σ1 σ2 H L0) (hl : lv_has ls 4 [(0, .ref b), (1, .ref (s.heap.size + 0)), (2, .ref (s.heap.size + 101 + 0)), (3, .int v3)]) (hnx : ∀ (σ1 σ2 : hM) (H : Heap) (L0 : List Loc) (ls : Array Slot), Cpl σ1 σ2 → h_L E s.heap.size s.heap σ1 σ2 H L0 → lv_has ls 4 [(0, .ref b), (1, .ref (s.heap.size + 0)), (2, .ref (s.heap.size + 101 + 0)), (3, .int v3)] → W p l e room_1 s m #[Value.ref b] below meth c H L0 600000 7302249 (lw_Z below #[Value.ref b] s) (F0 m 1151 ls [])) : W p l e room_1 s m #[Value.ref b] below meth c H L0 600000 7302249 (lw_Z below #[Value.ref b] s) (F0 m 315 ls []) := by
  obtain ⟨hx, hb, hr, hml, hts, hown, hlk, hX, hXs, hbl⟩ := hΓ
  have hbA : ¬ (fun q : Nat => s.heap.size ≤ q) b := Nat.not_le.mpr hbl
  obtain ⟨r, σ1b, σ2b, h1, h2, hc2⟩ := hst σ1 σ2 hc (xs (v3 + (1 : Int32)).toNatClampNeg)
  refine lv_aload_n hx hb dL_law_315 rfl (lv_at hl 1 rfl) ?_
  refine lv_aload_n hx hb dL_law_316 rfl (lv_at hl 0 rfl) ?_
  refine lv_iload_n hx hb dL_law_317 rfl (lv_at hl 3 rfl) ?_
  refine lv_iconst (v := 1) hx hb dL_law_318 (by decide) ?_
  refine lv_iadd hx hb dL_law_319 ?_
  refine va_sld hx hb hXs hbl hbA hw.2.2.1 hi1 dL_law_320 ?_
  refine l_c1i (As := [.int (xs (v3 + (1 : Int32)).toNatClampNeg)]) (rest := []) h1 hx hb hml hts hown hX hw myX8_told miX8_told lkL_37 rfl (fun q hq => c_X8_told l E s.heap.size kT1 0 (xs (v3 + (1 : Int32)).toNatClampNeg) σ1 hq) ⟨Nat.le_of_ble_eq_true rfl, Nat.le_of_ble_eq_true rfl⟩ ⟨Nat.le_of_ble_eq_true rfl, Nat.le_of_ble_eq_true rfl⟩ rfl hl.1 rfl (Nat.le_of_ble_eq_true rfl) dL_law_321 (fun H1 L1 hw => ?_)
  refine lv_aload_n hx hb dL_law_324 rfl (lv_at hl 2 rfl) ?_
  refine lv_aload_n hx hb dL_law_325 rfl (lv_at hl 0 rfl) ?_
  refine lv_iload_n hx hb dL_law_326 rfl (lv_at hl 3 rfl) ?_
  refine lv_iconst (v := 1) hx hb dL_law_327 (by decide) ?_
  refine lv_iadd hx hb dL_law_328 ?_
  refine va_sld hx hb hXs hbl hbA hw.2.2.1 hi1 dL_law_329 ?_
  refine l_c2i (As := [.int (xs (v3 + (1 : Int32)).toNatClampNeg)]) (rest := [.int r]) h2 hx hb hml hts hown hX hw myX9_told miX9_told lkL_41 rfl (fun q hq => c_X9_told l E (s.heap.size + 101) kT2 0 (xs (v3 + (1 : Int32)).toNatClampNeg) σ2 hq) ⟨Nat.le_of_ble_eq_true rfl, Nat.le_of_ble_eq_true rfl⟩ ⟨Nat.le_of_ble_eq_true rfl, Nat.le_of_ble_eq_true rfl⟩ rfl hl.1 rfl (Nat.le_of_ble_eq_true rfl) dL_law_330 (fun H2 L2 hw => ?_)
  refine lv_icmp_eq (tgt := 1151) hx hb dL_law_333 (by decide) (fun hq => ?_) (fun hq => absurd rfl hq)
  exact hnx _ _ _ _ _ hc2 hw (lv_sub hl [0, 1, 2, 3] rfl)
set_option maxRecDepth 100000 in
set_option maxHeartbeats 4000000 in
theorem law_note {Cpl : hM → hM → Prop} (hst : st_note Cpl) (hΓ : l_Γ E p s m meth c b L xs) {v3 : Int32} (hi1 : vp_in (v3 + (1 : Int32)) L) (hi2 : vp_in (v3 + (2 : Int32)) L) (hi3 : vp_in (v3 + (3 : Int32)) L) (hi4 : vp_in (v3 + (4 : Int32)) L) {σ1 σ2 : hM} {H : Heap} {L0 : List Loc} {ls : Array Slot} (hc : Cpl σ1 σ2) (hw : h_L E s.heap.size s.heap σ1 σ2 H L0) (hl : lv_has ls 4 [(0, .ref b), (1, .ref (s.heap.size + 0)), (2, .ref (s.heap.size + 101 + 0)), (3, .int v3)]) (hnx : ∀ (σ1 σ2 : hM) (H : Heap) (L0 : List Loc) (ls : Array Slot), Cpl σ1 σ2 → h_L E s.heap.size s.heap σ1 σ2 H L0 → lv_has ls 4 [(0, .ref b), (1, .ref (s.heap.size + 0)), (2, .ref (s.heap.size + 101 + 0)), (3, .int v3)] → W p l e room_1 s m #[Value.ref b] below meth c H L0 600000 7302249 (lw_Z below #[Value.ref b] s) (F0 m 1151 ls [])) : W p l e room_1 s m #[Value.ref b] below meth c H L0 600000 7302249 (lw_Z below #[Value.ref b] s) (F0 m 338 ls []) := by
  obtain ⟨hx, hb, hr, hml, hts, hown, hlk, hX, hXs, hbl⟩ := hΓ
  have hbA : ¬ (fun q : Nat => s.heap.size ≤ q) b := Nat.not_le.mpr hbl
  obtain ⟨r, σ1b, σ2b, h1, h2, hc2⟩ := hst σ1 σ2 hc (xs (v3 + (1 : Int32)).toNatClampNeg) (xs (v3 + (2 : Int32)).toNatClampNeg)
  refine lv_aload_n hx hb dL_law_338 rfl (lv_at hl 1 rfl) ?_
  refine lv_aload_n hx hb dL_law_339 rfl (lv_at hl 0 rfl) ?_
  refine lv_iload_n hx hb dL_law_340 rfl (lv_at hl 3 rfl) ?_
  refine lv_iconst (v := 1) hx hb dL_law_341 (by decide) ?_
  refine lv_iadd hx hb dL_law_342 ?_
  refine va_sld hx hb hXs hbl hbA hw.2.2.1 hi1 dL_law_343 ?_
  refine lv_aload_n hx hb dL_law_344 rfl (lv_at hl 0 rfl) ?_
  refine lv_iload_n hx hb dL_law_345 rfl (lv_at hl 3 rfl) ?_
  refine lv_iconst (v := 2) hx hb dL_law_346 (by decide) ?_
  refine lv_iadd hx hb dL_law_347 ?_
  refine va_sld hx hb hXs hbl hbA hw.2.2.1 hi2 dL_law_348 ?_
  refine l_c1i (As := [.int (xs (v3 + (1 : Int32)).toNatClampNeg), .int (xs (v3 + (2 : Int32)).toNatClampNeg)]) (rest := []) h1 hx hb hml hts hown hX hw myX8_note miX8_note lkL_42 rfl (fun q hq => c_X8_note l E s.heap.size kT1 0 (xs (v3 + (1 : Int32)).toNatClampNeg) (xs (v3 + (2 : Int32)).toNatClampNeg) σ1 hq) ⟨Nat.le_of_ble_eq_true rfl, Nat.le_of_ble_eq_true rfl⟩ ⟨Nat.le_of_ble_eq_true rfl, Nat.le_of_ble_eq_true rfl⟩ rfl hl.1 rfl (Nat.le_of_ble_eq_true rfl) dL_law_349 (fun H1 L1 hw => ?_)
  refine lv_aload_n hx hb dL_law_352 rfl (lv_at hl 2 rfl) ?_
  refine lv_aload_n hx hb dL_law_353 rfl (lv_at hl 0 rfl) ?_
  refine lv_iload_n hx hb dL_law_354 rfl (lv_at hl 3 rfl) ?_
  refine lv_iconst (v := 1) hx hb dL_law_355 (by decide) ?_
  refine lv_iadd hx hb dL_law_356 ?_
  refine va_sld hx hb hXs hbl hbA hw.2.2.1 hi1 dL_law_357 ?_
  refine lv_aload_n hx hb dL_law_358 rfl (lv_at hl 0 rfl) ?_
  refine lv_iload_n hx hb dL_law_359 rfl (lv_at hl 3 rfl) ?_
  refine lv_iconst (v := 2) hx hb dL_law_360 (by decide) ?_
  refine lv_iadd hx hb dL_law_361 ?_
  refine va_sld hx hb hXs hbl hbA hw.2.2.1 hi2 dL_law_362 ?_
  refine l_c2i (As := [.int (xs (v3 + (1 : Int32)).toNatClampNeg), .int (xs (v3 + (2 : Int32)).toNatClampNeg)]) (rest := [.int r]) h2 hx hb hml hts hown hX hw myX9_note miX9_note lkL_46 rfl (fun q hq => c_X9_note l E (s.heap.size + 101) kT2 0 (xs (v3 + (1 : Int32)).toNatClampNeg) (xs (v3 + (2 : Int32)).toNatClampNeg) σ2 hq) ⟨Nat.le_of_ble_eq_true rfl, Nat.le_of_ble_eq_true rfl⟩ ⟨Nat.le_of_ble_eq_true rfl, Nat.le_of_ble_eq_true rfl⟩ rfl hl.1 rfl (Nat.le_of_ble_eq_true rfl) dL_law_363 (fun H2 L2 hw => ?_)
  refine lv_icmp_eq (tgt := 1151) hx hb dL_law_366 (by decide) (fun hq => ?_) (fun hq => absurd rfl hq)
  exact hnx _ _ _ _ _ hc2 hw (lv_sub hl [0, 1, 2, 3] rfl)
set_option maxRecDepth 100000 in
set_option maxHeartbeats 4000000 in
theorem law_singer {Cpl : hM → hM → Prop} (hst : st_singer Cpl) (hΓ : l_Γ E p s m meth c b L xs) {v3 : Int32} (hi1 : vp_in (v3 + (1 : Int32)) L) (hi2 : vp_in (v3 + (2 : Int32)) L) (hi3 : vp_in (v3 + (3 : Int32)) L) (hi4 : vp_in (v3 + (4 : Int32)) L) {σ1 σ2 : hM} {H : Heap} {L0 : List Loc} {ls : Array Slot} (hc : Cpl σ1 σ2) (hw : h_L E s.heap.size s.heap σ1 σ2 H L0) (hl : lv_has ls 4 [(0, .ref b), (1, .ref (s.heap.size + 0)), (2, .ref (s.heap.size + 101 + 0)), (3, .int v3)]) (hnx : ∀ (σ1 σ2 : hM) (H : Heap) (L0 : List Loc) (ls : Array Slot), Cpl σ1 σ2 → h_L E s.heap.size s.heap σ1 σ2 H L0 → lv_has ls 4 [(0, .ref b), (1, .ref (s.heap.size + 0)), (2, .ref (s.heap.size + 101 + 0)), (3, .int v3)] → W p l e room_1 s m #[Value.ref b] below meth c H L0 600000 7302249 (lw_Z below #[Value.ref b] s) (F0 m 1151 ls [])) : W p l e room_1 s m #[Value.ref b] below meth c H L0 600000 7302249 (lw_Z below #[Value.ref b] s) (F0 m 371 ls []) := by
  obtain ⟨hx, hb, hr, hml, hts, hown, hlk, hX, hXs, hbl⟩ := hΓ
  have hbA : ¬ (fun q : Nat => s.heap.size ≤ q) b := Nat.not_le.mpr hbl
  obtain ⟨r, σ1b, σ2b, h1, h2, hc2⟩ := hst σ1 σ2 hc (xs (v3 + (1 : Int32)).toNatClampNeg) (xs (v3 + (2 : Int32)).toNatClampNeg)
  refine lv_aload_n hx hb dL_law_371 rfl (lv_at hl 1 rfl) ?_
  refine lv_aload_n hx hb dL_law_372 rfl (lv_at hl 0 rfl) ?_
  refine lv_iload_n hx hb dL_law_373 rfl (lv_at hl 3 rfl) ?_
  refine lv_iconst (v := 1) hx hb dL_law_374 (by decide) ?_
  refine lv_iadd hx hb dL_law_375 ?_
  refine va_sld hx hb hXs hbl hbA hw.2.2.1 hi1 dL_law_376 ?_
  refine lv_aload_n hx hb dL_law_377 rfl (lv_at hl 0 rfl) ?_
  refine lv_iload_n hx hb dL_law_378 rfl (lv_at hl 3 rfl) ?_
  refine lv_iconst (v := 2) hx hb dL_law_379 (by decide) ?_
  refine lv_iadd hx hb dL_law_380 ?_
  refine va_sld hx hb hXs hbl hbA hw.2.2.1 hi2 dL_law_381 ?_
  refine l_c1i (As := [.int (xs (v3 + (1 : Int32)).toNatClampNeg), .int (xs (v3 + (2 : Int32)).toNatClampNeg)]) (rest := []) h1 hx hb hml hts hown hX hw myX8_singer miX8_singer lkL_47 rfl (fun q hq => c_X8_singer l E s.heap.size kT1 0 (xs (v3 + (1 : Int32)).toNatClampNeg) (xs (v3 + (2 : Int32)).toNatClampNeg) σ1 hq) ⟨Nat.le_of_ble_eq_true rfl, Nat.le_of_ble_eq_true rfl⟩ ⟨Nat.le_of_ble_eq_true rfl, Nat.le_of_ble_eq_true rfl⟩ rfl hl.1 rfl (Nat.le_of_ble_eq_true rfl) dL_law_382 (fun H1 L1 hw => ?_)
  refine lv_aload_n hx hb dL_law_385 rfl (lv_at hl 2 rfl) ?_
  refine lv_aload_n hx hb dL_law_386 rfl (lv_at hl 0 rfl) ?_
  refine lv_iload_n hx hb dL_law_387 rfl (lv_at hl 3 rfl) ?_
  refine lv_iconst (v := 1) hx hb dL_law_388 (by decide) ?_
  refine lv_iadd hx hb dL_law_389 ?_
  refine va_sld hx hb hXs hbl hbA hw.2.2.1 hi1 dL_law_390 ?_
  refine lv_aload_n hx hb dL_law_391 rfl (lv_at hl 0 rfl) ?_
  refine lv_iload_n hx hb dL_law_392 rfl (lv_at hl 3 rfl) ?_
  refine lv_iconst (v := 2) hx hb dL_law_393 (by decide) ?_
  refine lv_iadd hx hb dL_law_394 ?_
  refine va_sld hx hb hXs hbl hbA hw.2.2.1 hi2 dL_law_395 ?_
  refine l_c2i (As := [.int (xs (v3 + (1 : Int32)).toNatClampNeg), .int (xs (v3 + (2 : Int32)).toNatClampNeg)]) (rest := [.int r]) h2 hx hb hml hts hown hX hw myX9_singer miX9_singer lkL_50 rfl (fun q hq => c_X9_singer l E (s.heap.size + 101) kT2 0 (xs (v3 + (1 : Int32)).toNatClampNeg) (xs (v3 + (2 : Int32)).toNatClampNeg) σ2 hq) ⟨Nat.le_of_ble_eq_true rfl, Nat.le_of_ble_eq_true rfl⟩ ⟨Nat.le_of_ble_eq_true rfl, Nat.le_of_ble_eq_true rfl⟩ rfl hl.1 rfl (Nat.le_of_ble_eq_true rfl) dL_law_396 (fun H2 L2 hw => ?_)
  refine lv_icmp_eq (tgt := 1151) hx hb dL_law_399 (by decide) (fun hq => ?_) (fun hq => absurd rfl hq)
  exact hnx _ _ _ _ _ hc2 hw (lv_sub hl [0, 1, 2, 3] rfl)
set_option maxRecDepth 100000 in
set_option maxHeartbeats 4000000 in
theorem law_task {Cpl : hM → hM → Prop} (hst : st_task Cpl) (hΓ : l_Γ E p s m meth c b L xs) {v3 : Int32} (hi1 : vp_in (v3 + (1 : Int32)) L) (hi2 : vp_in (v3 + (2 : Int32)) L) (hi3 : vp_in (v3 + (3 : Int32)) L) (hi4 : vp_in (v3 + (4 : Int32)) L) {σ1 σ2 : hM} {H : Heap} {L0 : List Loc} {ls : Array Slot} (hc : Cpl σ1 σ2) (hw : h_L E s.heap.size s.heap σ1 σ2 H L0) (hl : lv_has ls 4 [(0, .ref b), (1, .ref (s.heap.size + 0)), (2, .ref (s.heap.size + 101 + 0)), (3, .int v3)]) (hnx : ∀ (σ1 σ2 : hM) (H : Heap) (L0 : List Loc) (ls : Array Slot), Cpl σ1 σ2 → h_L E s.heap.size s.heap σ1 σ2 H L0 → lv_has ls 4 [(0, .ref b), (1, .ref (s.heap.size + 0)), (2, .ref (s.heap.size + 101 + 0)), (3, .int v3)] → W p l e room_1 s m #[Value.ref b] below meth c H L0 600000 7302249 (lw_Z below #[Value.ref b] s) (F0 m 1151 ls [])) : W p l e room_1 s m #[Value.ref b] below meth c H L0 600000 7302249 (lw_Z below #[Value.ref b] s) (F0 m 404 ls []) := by
  obtain ⟨hx, hb, hr, hml, hts, hown, hlk, hX, hXs, hbl⟩ := hΓ
  have hbA : ¬ (fun q : Nat => s.heap.size ≤ q) b := Nat.not_le.mpr hbl
  obtain ⟨r, σ1b, σ2b, h1, h2, hc2⟩ := hst σ1 σ2 hc (xs (v3 + (1 : Int32)).toNatClampNeg) (xs (v3 + (2 : Int32)).toNatClampNeg)
  refine lv_aload_n hx hb dL_law_404 rfl (lv_at hl 1 rfl) ?_
  refine lv_aload_n hx hb dL_law_405 rfl (lv_at hl 0 rfl) ?_
  refine lv_iload_n hx hb dL_law_406 rfl (lv_at hl 3 rfl) ?_
  refine lv_iconst (v := 1) hx hb dL_law_407 (by decide) ?_
  refine lv_iadd hx hb dL_law_408 ?_
  refine va_sld hx hb hXs hbl hbA hw.2.2.1 hi1 dL_law_409 ?_
  refine lv_aload_n hx hb dL_law_410 rfl (lv_at hl 0 rfl) ?_
  refine lv_iload_n hx hb dL_law_411 rfl (lv_at hl 3 rfl) ?_
  refine lv_iconst (v := 2) hx hb dL_law_412 (by decide) ?_
  refine lv_iadd hx hb dL_law_413 ?_
  refine va_sld hx hb hXs hbl hbA hw.2.2.1 hi2 dL_law_414 ?_
  refine l_c1i (As := [.int (xs (v3 + (1 : Int32)).toNatClampNeg), .int (xs (v3 + (2 : Int32)).toNatClampNeg)]) (rest := []) h1 hx hb hml hts hown hX hw myX8_task miX8_task lkL_51 rfl (fun q hq => c_X8_task l E s.heap.size kT1 0 (xs (v3 + (1 : Int32)).toNatClampNeg) (xs (v3 + (2 : Int32)).toNatClampNeg) σ1 hq) ⟨Nat.le_of_ble_eq_true rfl, Nat.le_of_ble_eq_true rfl⟩ ⟨Nat.le_of_ble_eq_true rfl, Nat.le_of_ble_eq_true rfl⟩ rfl hl.1 rfl (Nat.le_of_ble_eq_true rfl) dL_law_415 (fun H1 L1 hw => ?_)
  refine lv_aload_n hx hb dL_law_418 rfl (lv_at hl 2 rfl) ?_
  refine lv_aload_n hx hb dL_law_419 rfl (lv_at hl 0 rfl) ?_
  refine lv_iload_n hx hb dL_law_420 rfl (lv_at hl 3 rfl) ?_
  refine lv_iconst (v := 1) hx hb dL_law_421 (by decide) ?_
  refine lv_iadd hx hb dL_law_422 ?_
  refine va_sld hx hb hXs hbl hbA hw.2.2.1 hi1 dL_law_423 ?_
  refine lv_aload_n hx hb dL_law_424 rfl (lv_at hl 0 rfl) ?_
  refine lv_iload_n hx hb dL_law_425 rfl (lv_at hl 3 rfl) ?_
  refine lv_iconst (v := 2) hx hb dL_law_426 (by decide) ?_
  refine lv_iadd hx hb dL_law_427 ?_
  refine va_sld hx hb hXs hbl hbA hw.2.2.1 hi2 dL_law_428 ?_
  refine l_c2i (As := [.int (xs (v3 + (1 : Int32)).toNatClampNeg), .int (xs (v3 + (2 : Int32)).toNatClampNeg)]) (rest := [.int r]) h2 hx hb hml hts hown hX hw myX9_task miX9_task lkL_54 rfl (fun q hq => c_X9_task l E (s.heap.size + 101) kT2 0 (xs (v3 + (1 : Int32)).toNatClampNeg) (xs (v3 + (2 : Int32)).toNatClampNeg) σ2 hq) ⟨Nat.le_of_ble_eq_true rfl, Nat.le_of_ble_eq_true rfl⟩ ⟨Nat.le_of_ble_eq_true rfl, Nat.le_of_ble_eq_true rfl⟩ rfl hl.1 rfl (Nat.le_of_ble_eq_true rfl) dL_law_429 (fun H2 L2 hw => ?_)
  refine lv_icmp_eq (tgt := 1151) hx hb dL_law_432 (by decide) (fun hq => ?_) (fun hq => absurd rfl hq)
  exact hnx _ _ _ _ _ hc2 hw (lv_sub hl [0, 1, 2, 3] rfl)
set_option maxRecDepth 100000 in
set_option maxHeartbeats 4000000 in
theorem law_sing {Cpl : hM → hM → Prop} (hst : st_sing Cpl) (hΓ : l_Γ E p s m meth c b L xs) {v3 : Int32} (hi1 : vp_in (v3 + (1 : Int32)) L) (hi2 : vp_in (v3 + (2 : Int32)) L) (hi3 : vp_in (v3 + (3 : Int32)) L) (hi4 : vp_in (v3 + (4 : Int32)) L) {σ1 σ2 : hM} {H : Heap} {L0 : List Loc} {ls : Array Slot} (hc : Cpl σ1 σ2) (hw : h_L E s.heap.size s.heap σ1 σ2 H L0) (hl : lv_has ls 4 [(0, .ref b), (1, .ref (s.heap.size + 0)), (2, .ref (s.heap.size + 101 + 0)), (3, .int v3)]) (hnx : ∀ (σ1 σ2 : hM) (H : Heap) (L0 : List Loc) (ls : Array Slot), Cpl σ1 σ2 → h_L E s.heap.size s.heap σ1 σ2 H L0 → lv_has ls 4 [(0, .ref b), (1, .ref (s.heap.size + 0)), (2, .ref (s.heap.size + 101 + 0)), (3, .int v3)] → W p l e room_1 s m #[Value.ref b] below meth c H L0 600000 7302249 (lw_Z below #[Value.ref b] s) (F0 m 1151 ls [])) : W p l e room_1 s m #[Value.ref b] below meth c H L0 600000 7302249 (lw_Z below #[Value.ref b] s) (F0 m 437 ls []) := by
  obtain ⟨hx, hb, hr, hml, hts, hown, hlk, hX, hXs, hbl⟩ := hΓ
  have hbA : ¬ (fun q : Nat => s.heap.size ≤ q) b := Nat.not_le.mpr hbl
  obtain ⟨r, σ1b, σ2b, h1, h2, hc2⟩ := hst σ1 σ2 hc (xs (v3 + (1 : Int32)).toNatClampNeg) (xs (v3 + (2 : Int32)).toNatClampNeg)
  refine lv_aload_n hx hb dL_law_437 rfl (lv_at hl 1 rfl) ?_
  refine lv_aload_n hx hb dL_law_438 rfl (lv_at hl 0 rfl) ?_
  refine lv_iload_n hx hb dL_law_439 rfl (lv_at hl 3 rfl) ?_
  refine lv_iconst (v := 1) hx hb dL_law_440 (by decide) ?_
  refine lv_iadd hx hb dL_law_441 ?_
  refine va_sld hx hb hXs hbl hbA hw.2.2.1 hi1 dL_law_442 ?_
  refine lv_aload_n hx hb dL_law_443 rfl (lv_at hl 0 rfl) ?_
  refine lv_iload_n hx hb dL_law_444 rfl (lv_at hl 3 rfl) ?_
  refine lv_iconst (v := 2) hx hb dL_law_445 (by decide) ?_
  refine lv_iadd hx hb dL_law_446 ?_
  refine va_sld hx hb hXs hbl hbA hw.2.2.1 hi2 dL_law_447 ?_
  refine l_c1i (As := [.int (xs (v3 + (1 : Int32)).toNatClampNeg), .int (xs (v3 + (2 : Int32)).toNatClampNeg)]) (rest := []) h1 hx hb hml hts hown hX hw myX8_sing miX8_sing lkL_55 rfl (fun q hq => c_X8_sing l E s.heap.size kT1 0 (xs (v3 + (1 : Int32)).toNatClampNeg) (xs (v3 + (2 : Int32)).toNatClampNeg) σ1 hq) ⟨Nat.le_of_ble_eq_true rfl, Nat.le_of_ble_eq_true rfl⟩ ⟨Nat.le_of_ble_eq_true rfl, Nat.le_of_ble_eq_true rfl⟩ rfl hl.1 rfl (Nat.le_of_ble_eq_true rfl) dL_law_448 (fun H1 L1 hw => ?_)
  refine lv_aload_n hx hb dL_law_451 rfl (lv_at hl 2 rfl) ?_
  refine lv_aload_n hx hb dL_law_452 rfl (lv_at hl 0 rfl) ?_
  refine lv_iload_n hx hb dL_law_453 rfl (lv_at hl 3 rfl) ?_
  refine lv_iconst (v := 1) hx hb dL_law_454 (by decide) ?_
  refine lv_iadd hx hb dL_law_455 ?_
  refine va_sld hx hb hXs hbl hbA hw.2.2.1 hi1 dL_law_456 ?_
  refine lv_aload_n hx hb dL_law_457 rfl (lv_at hl 0 rfl) ?_
  refine lv_iload_n hx hb dL_law_458 rfl (lv_at hl 3 rfl) ?_
  refine lv_iconst (v := 2) hx hb dL_law_459 (by decide) ?_
  refine lv_iadd hx hb dL_law_460 ?_
  refine va_sld hx hb hXs hbl hbA hw.2.2.1 hi2 dL_law_461 ?_
  refine l_c2i (As := [.int (xs (v3 + (1 : Int32)).toNatClampNeg), .int (xs (v3 + (2 : Int32)).toNatClampNeg)]) (rest := [.int r]) h2 hx hb hml hts hown hX hw myX9_sing miX9_sing lkL_58 rfl (fun q hq => c_X9_sing l E (s.heap.size + 101) kT2 0 (xs (v3 + (1 : Int32)).toNatClampNeg) (xs (v3 + (2 : Int32)).toNatClampNeg) σ2 hq) ⟨Nat.le_of_ble_eq_true rfl, Nat.le_of_ble_eq_true rfl⟩ ⟨Nat.le_of_ble_eq_true rfl, Nat.le_of_ble_eq_true rfl⟩ rfl hl.1 rfl (Nat.le_of_ble_eq_true rfl) dL_law_462 (fun H2 L2 hw => ?_)
  refine lv_icmp_eq (tgt := 1151) hx hb dL_law_465 (by decide) (fun hq => ?_) (fun hq => absurd rfl hq)
  exact hnx _ _ _ _ _ hc2 hw (lv_sub hl [0, 1, 2, 3] rfl)
set_option maxRecDepth 100000 in
set_option maxHeartbeats 4000000 in
theorem law_height {Cpl : hM → hM → Prop} (hst : st_height Cpl) (hΓ : l_Γ E p s m meth c b L xs) {v3 : Int32} (hi1 : vp_in (v3 + (1 : Int32)) L) (hi2 : vp_in (v3 + (2 : Int32)) L) (hi3 : vp_in (v3 + (3 : Int32)) L) (hi4 : vp_in (v3 + (4 : Int32)) L) {σ1 σ2 : hM} {H : Heap} {L0 : List Loc} {ls : Array Slot} (hc : Cpl σ1 σ2) (hw : h_L E s.heap.size s.heap σ1 σ2 H L0) (hl : lv_has ls 4 [(0, .ref b), (1, .ref (s.heap.size + 0)), (2, .ref (s.heap.size + 101 + 0)), (3, .int v3)]) (hnx : ∀ (σ1 σ2 : hM) (H : Heap) (L0 : List Loc) (ls : Array Slot), Cpl σ1 σ2 → h_L E s.heap.size s.heap σ1 σ2 H L0 → lv_has ls 4 [(0, .ref b), (1, .ref (s.heap.size + 0)), (2, .ref (s.heap.size + 101 + 0)), (3, .int v3)] → W p l e room_1 s m #[Value.ref b] below meth c H L0 600000 7302249 (lw_Z below #[Value.ref b] s) (F0 m 1151 ls [])) : W p l e room_1 s m #[Value.ref b] below meth c H L0 600000 7302249 (lw_Z below #[Value.ref b] s) (F0 m 470 ls []) := by
  obtain ⟨hx, hb, hr, hml, hts, hown, hlk, hX, hXs, hbl⟩ := hΓ
  have hbA : ¬ (fun q : Nat => s.heap.size ≤ q) b := Nat.not_le.mpr hbl
  obtain ⟨r, σ1b, σ2b, h1, h2, hc2⟩ := hst σ1 σ2 hc (xs (v3 + (1 : Int32)).toNatClampNeg)
  refine lv_aload_n hx hb dL_law_470 rfl (lv_at hl 1 rfl) ?_
  refine lv_aload_n hx hb dL_law_471 rfl (lv_at hl 0 rfl) ?_
  refine lv_iload_n hx hb dL_law_472 rfl (lv_at hl 3 rfl) ?_
  refine lv_iconst (v := 1) hx hb dL_law_473 (by decide) ?_
  refine lv_iadd hx hb dL_law_474 ?_
  refine va_sld hx hb hXs hbl hbA hw.2.2.1 hi1 dL_law_475 ?_
  refine l_c1i (As := [.int (xs (v3 + (1 : Int32)).toNatClampNeg)]) (rest := []) h1 hx hb hml hts hown hX hw myX8_height miX8_height lkL_59 rfl (fun q hq => c_X8_height l E s.heap.size kT1 0 (xs (v3 + (1 : Int32)).toNatClampNeg) σ1 hq) ⟨Nat.le_of_ble_eq_true rfl, Nat.le_of_ble_eq_true rfl⟩ ⟨Nat.le_of_ble_eq_true rfl, Nat.le_of_ble_eq_true rfl⟩ rfl hl.1 rfl (Nat.le_of_ble_eq_true rfl) dL_law_476 (fun H1 L1 hw => ?_)
  refine lv_aload_n hx hb dL_law_479 rfl (lv_at hl 2 rfl) ?_
  refine lv_aload_n hx hb dL_law_480 rfl (lv_at hl 0 rfl) ?_
  refine lv_iload_n hx hb dL_law_481 rfl (lv_at hl 3 rfl) ?_
  refine lv_iconst (v := 1) hx hb dL_law_482 (by decide) ?_
  refine lv_iadd hx hb dL_law_483 ?_
  refine va_sld hx hb hXs hbl hbA hw.2.2.1 hi1 dL_law_484 ?_
  refine l_c2i (As := [.int (xs (v3 + (1 : Int32)).toNatClampNeg)]) (rest := [.int r]) h2 hx hb hml hts hown hX hw myX9_height miX9_height lkL_62 rfl (fun q hq => c_X9_height l E (s.heap.size + 101) kT2 0 (xs (v3 + (1 : Int32)).toNatClampNeg) σ2 hq) ⟨Nat.le_of_ble_eq_true rfl, Nat.le_of_ble_eq_true rfl⟩ ⟨Nat.le_of_ble_eq_true rfl, Nat.le_of_ble_eq_true rfl⟩ rfl hl.1 rfl (Nat.le_of_ble_eq_true rfl) dL_law_485 (fun H2 L2 hw => ?_)
  refine lv_icmp_eq (tgt := 1151) hx hb dL_law_488 (by decide) (fun hq => ?_) (fun hq => absurd rfl hq)
  exact hnx _ _ _ _ _ hc2 hw (lv_sub hl [0, 1, 2, 3] rfl)
set_option maxRecDepth 100000 in
set_option maxHeartbeats 4000000 in
theorem law_slid {Cpl : hM → hM → Prop} (hst : st_slid Cpl) (hΓ : l_Γ E p s m meth c b L xs) {v3 : Int32} (hi1 : vp_in (v3 + (1 : Int32)) L) (hi2 : vp_in (v3 + (2 : Int32)) L) (hi3 : vp_in (v3 + (3 : Int32)) L) (hi4 : vp_in (v3 + (4 : Int32)) L) {σ1 σ2 : hM} {H : Heap} {L0 : List Loc} {ls : Array Slot} (hc : Cpl σ1 σ2) (hw : h_L E s.heap.size s.heap σ1 σ2 H L0) (hl : lv_has ls 4 [(0, .ref b), (1, .ref (s.heap.size + 0)), (2, .ref (s.heap.size + 101 + 0)), (3, .int v3)]) (hnx : ∀ (σ1 σ2 : hM) (H : Heap) (L0 : List Loc) (ls : Array Slot), Cpl σ1 σ2 → h_L E s.heap.size s.heap σ1 σ2 H L0 → lv_has ls 4 [(0, .ref b), (1, .ref (s.heap.size + 0)), (2, .ref (s.heap.size + 101 + 0)), (3, .int v3)] → W p l e room_1 s m #[Value.ref b] below meth c H L0 600000 7302249 (lw_Z below #[Value.ref b] s) (F0 m 1151 ls [])) : W p l e room_1 s m #[Value.ref b] below meth c H L0 600000 7302249 (lw_Z below #[Value.ref b] s) (F0 m 493 ls []) := by
  obtain ⟨hx, hb, hr, hml, hts, hown, hlk, hX, hXs, hbl⟩ := hΓ
  have hbA : ¬ (fun q : Nat => s.heap.size ≤ q) b := Nat.not_le.mpr hbl
  obtain ⟨r, σ1b, σ2b, h1, h2, hc2⟩ := hst σ1 σ2 hc 
  refine lv_aload_n hx hb dL_law_493 rfl (lv_at hl 1 rfl) ?_
  refine l_c1i (As := []) (rest := []) h1 hx hb hml hts hown hX hw myX8_slid miX8_slid lkL_63 rfl (fun q hq => c_X8_slid l E s.heap.size kT1 0  σ1 hq) ⟨Nat.le_of_ble_eq_true rfl, Nat.le_of_ble_eq_true rfl⟩ ⟨Nat.le_of_ble_eq_true rfl, Nat.le_of_ble_eq_true rfl⟩ rfl hl.1 rfl (Nat.le_of_ble_eq_true rfl) dL_law_494 (fun H1 L1 hw => ?_)
  refine lv_aload_n hx hb dL_law_497 rfl (lv_at hl 2 rfl) ?_
  refine l_c2i (As := []) (rest := [.int r]) h2 hx hb hml hts hown hX hw myX9_slid miX9_slid lkL_66 rfl (fun q hq => c_X9_slid l E (s.heap.size + 101) kT2 0  σ2 hq) ⟨Nat.le_of_ble_eq_true rfl, Nat.le_of_ble_eq_true rfl⟩ ⟨Nat.le_of_ble_eq_true rfl, Nat.le_of_ble_eq_true rfl⟩ rfl hl.1 rfl (Nat.le_of_ble_eq_true rfl) dL_law_498 (fun H2 L2 hw => ?_)
  refine lv_icmp_eq (tgt := 1151) hx hb dL_law_501 (by decide) (fun hq => ?_) (fun hq => absurd rfl hq)
  exact hnx _ _ _ _ _ hc2 hw (lv_sub hl [0, 1, 2, 3] rfl)
set_option maxRecDepth 100000 in
set_option maxHeartbeats 4000000 in
theorem law_score {Cpl : hM → hM → Prop} (hst : st_score Cpl) (hΓ : l_Γ E p s m meth c b L xs) {v3 : Int32} (hi1 : vp_in (v3 + (1 : Int32)) L) (hi2 : vp_in (v3 + (2 : Int32)) L) (hi3 : vp_in (v3 + (3 : Int32)) L) (hi4 : vp_in (v3 + (4 : Int32)) L) {σ1 σ2 : hM} {H : Heap} {L0 : List Loc} {ls : Array Slot} (hc : Cpl σ1 σ2) (hw : h_L E s.heap.size s.heap σ1 σ2 H L0) (hl : lv_has ls 4 [(0, .ref b), (1, .ref (s.heap.size + 0)), (2, .ref (s.heap.size + 101 + 0)), (3, .int v3)]) (hnx : ∀ (σ1 σ2 : hM) (H : Heap) (L0 : List Loc) (ls : Array Slot), Cpl σ1 σ2 → h_L E s.heap.size s.heap σ1 σ2 H L0 → lv_has ls 4 [(0, .ref b), (1, .ref (s.heap.size + 0)), (2, .ref (s.heap.size + 101 + 0)), (3, .int v3)] → W p l e room_1 s m #[Value.ref b] below meth c H L0 600000 7302249 (lw_Z below #[Value.ref b] s) (F0 m 1151 ls [])) : W p l e room_1 s m #[Value.ref b] below meth c H L0 600000 7302249 (lw_Z below #[Value.ref b] s) (F0 m 506 ls []) := by
  obtain ⟨hx, hb, hr, hml, hts, hown, hlk, hX, hXs, hbl⟩ := hΓ
  have hbA : ¬ (fun q : Nat => s.heap.size ≤ q) b := Nat.not_le.mpr hbl
  obtain ⟨r, σ1b, σ2b, h1, h2, hc2⟩ := hst σ1 σ2 hc (xs (v3 + (1 : Int32)).toNatClampNeg)
  refine lv_aload_n hx hb dL_law_506 rfl (lv_at hl 1 rfl) ?_
  refine lv_aload_n hx hb dL_law_507 rfl (lv_at hl 0 rfl) ?_
  refine lv_iload_n hx hb dL_law_508 rfl (lv_at hl 3 rfl) ?_
  refine lv_iconst (v := 1) hx hb dL_law_509 (by decide) ?_
  refine lv_iadd hx hb dL_law_510 ?_
  refine va_sld hx hb hXs hbl hbA hw.2.2.1 hi1 dL_law_511 ?_
  refine l_c1i (As := [.int (xs (v3 + (1 : Int32)).toNatClampNeg)]) (rest := []) h1 hx hb hml hts hown hX hw myX8_score miX8_score lkL_67 rfl (fun q hq => c_X8_score l E s.heap.size kT1 0 (xs (v3 + (1 : Int32)).toNatClampNeg) σ1 hq) ⟨Nat.le_of_ble_eq_true rfl, Nat.le_of_ble_eq_true rfl⟩ ⟨Nat.le_of_ble_eq_true rfl, Nat.le_of_ble_eq_true rfl⟩ rfl hl.1 rfl (Nat.le_of_ble_eq_true rfl) dL_law_512 (fun H1 L1 hw => ?_)
  refine lv_aload_n hx hb dL_law_515 rfl (lv_at hl 2 rfl) ?_
  refine lv_aload_n hx hb dL_law_516 rfl (lv_at hl 0 rfl) ?_
  refine lv_iload_n hx hb dL_law_517 rfl (lv_at hl 3 rfl) ?_
  refine lv_iconst (v := 1) hx hb dL_law_518 (by decide) ?_
  refine lv_iadd hx hb dL_law_519 ?_
  refine va_sld hx hb hXs hbl hbA hw.2.2.1 hi1 dL_law_520 ?_
  refine l_c2i (As := [.int (xs (v3 + (1 : Int32)).toNatClampNeg)]) (rest := [.int r]) h2 hx hb hml hts hown hX hw myX9_score miX9_score lkL_70 rfl (fun q hq => c_X9_score l E (s.heap.size + 101) kT2 0 (xs (v3 + (1 : Int32)).toNatClampNeg) σ2 hq) ⟨Nat.le_of_ble_eq_true rfl, Nat.le_of_ble_eq_true rfl⟩ ⟨Nat.le_of_ble_eq_true rfl, Nat.le_of_ble_eq_true rfl⟩ rfl hl.1 rfl (Nat.le_of_ble_eq_true rfl) dL_law_521 (fun H2 L2 hw => ?_)
  refine lv_icmp_eq (tgt := 1151) hx hb dL_law_524 (by decide) (fun hq => ?_) (fun hq => absurd rfl hq)
  exact hnx _ _ _ _ _ hc2 hw (lv_sub hl [0, 1, 2, 3] rfl)
set_option maxRecDepth 100000 in
set_option maxHeartbeats 4000000 in
theorem law_calls {Cpl : hM → hM → Prop} (hst : st_calls Cpl) (hΓ : l_Γ E p s m meth c b L xs) {v3 : Int32} (hi1 : vp_in (v3 + (1 : Int32)) L) (hi2 : vp_in (v3 + (2 : Int32)) L) (hi3 : vp_in (v3 + (3 : Int32)) L) (hi4 : vp_in (v3 + (4 : Int32)) L) {σ1 σ2 : hM} {H : Heap} {L0 : List Loc} {ls : Array Slot} (hc : Cpl σ1 σ2) (hw : h_L E s.heap.size s.heap σ1 σ2 H L0) (hl : lv_has ls 4 [(0, .ref b), (1, .ref (s.heap.size + 0)), (2, .ref (s.heap.size + 101 + 0)), (3, .int v3)]) (hnx : ∀ (σ1 σ2 : hM) (H : Heap) (L0 : List Loc) (ls : Array Slot), Cpl σ1 σ2 → h_L E s.heap.size s.heap σ1 σ2 H L0 → lv_has ls 4 [(0, .ref b), (1, .ref (s.heap.size + 0)), (2, .ref (s.heap.size + 101 + 0)), (3, .int v3)] → W p l e room_1 s m #[Value.ref b] below meth c H L0 600000 7302249 (lw_Z below #[Value.ref b] s) (F0 m 1151 ls [])) : W p l e room_1 s m #[Value.ref b] below meth c H L0 600000 7302249 (lw_Z below #[Value.ref b] s) (F0 m 529 ls []) := by
  obtain ⟨hx, hb, hr, hml, hts, hown, hlk, hX, hXs, hbl⟩ := hΓ
  have hbA : ¬ (fun q : Nat => s.heap.size ≤ q) b := Nat.not_le.mpr hbl
  obtain ⟨r, σ1b, σ2b, h1, h2, hc2⟩ := hst σ1 σ2 hc 
  refine lv_aload_n hx hb dL_law_529 rfl (lv_at hl 1 rfl) ?_
  refine l_c1i (As := []) (rest := []) h1 hx hb hml hts hown hX hw myX8_calls miX8_calls lkL_71 rfl (fun q hq => c_X8_calls l E s.heap.size kT1 0  σ1 hq) ⟨Nat.le_of_ble_eq_true rfl, Nat.le_of_ble_eq_true rfl⟩ ⟨Nat.le_of_ble_eq_true rfl, Nat.le_of_ble_eq_true rfl⟩ rfl hl.1 rfl (Nat.le_of_ble_eq_true rfl) dL_law_530 (fun H1 L1 hw => ?_)
  refine lv_aload_n hx hb dL_law_533 rfl (lv_at hl 2 rfl) ?_
  refine l_c2i (As := []) (rest := [.int r]) h2 hx hb hml hts hown hX hw myX9_calls miX9_calls lkL_74 rfl (fun q hq => c_X9_calls l E (s.heap.size + 101) kT2 0  σ2 hq) ⟨Nat.le_of_ble_eq_true rfl, Nat.le_of_ble_eq_true rfl⟩ ⟨Nat.le_of_ble_eq_true rfl, Nat.le_of_ble_eq_true rfl⟩ rfl hl.1 rfl (Nat.le_of_ble_eq_true rfl) dL_law_534 (fun H2 L2 hw => ?_)
  refine lv_icmp_eq (tgt := 1151) hx hb dL_law_537 (by decide) (fun hq => ?_) (fun hq => absurd rfl hq)
  exact hnx _ _ _ _ _ hc2 hw (lv_sub hl [0, 1, 2, 3] rfl)
set_option maxRecDepth 100000 in
set_option maxHeartbeats 4000000 in
theorem law_fooled {Cpl : hM → hM → Prop} (hst : st_fooled Cpl) (hΓ : l_Γ E p s m meth c b L xs) {v3 : Int32} (hi1 : vp_in (v3 + (1 : Int32)) L) (hi2 : vp_in (v3 + (2 : Int32)) L) (hi3 : vp_in (v3 + (3 : Int32)) L) (hi4 : vp_in (v3 + (4 : Int32)) L) {σ1 σ2 : hM} {H : Heap} {L0 : List Loc} {ls : Array Slot} (hc : Cpl σ1 σ2) (hw : h_L E s.heap.size s.heap σ1 σ2 H L0) (hl : lv_has ls 4 [(0, .ref b), (1, .ref (s.heap.size + 0)), (2, .ref (s.heap.size + 101 + 0)), (3, .int v3)]) (hnx : ∀ (σ1 σ2 : hM) (H : Heap) (L0 : List Loc) (ls : Array Slot), Cpl σ1 σ2 → h_L E s.heap.size s.heap σ1 σ2 H L0 → lv_has ls 4 [(0, .ref b), (1, .ref (s.heap.size + 0)), (2, .ref (s.heap.size + 101 + 0)), (3, .int v3)] → W p l e room_1 s m #[Value.ref b] below meth c H L0 600000 7302249 (lw_Z below #[Value.ref b] s) (F0 m 1151 ls [])) : W p l e room_1 s m #[Value.ref b] below meth c H L0 600000 7302249 (lw_Z below #[Value.ref b] s) (F0 m 542 ls []) := by
  obtain ⟨hx, hb, hr, hml, hts, hown, hlk, hX, hXs, hbl⟩ := hΓ
  have hbA : ¬ (fun q : Nat => s.heap.size ≤ q) b := Nat.not_le.mpr hbl
  obtain ⟨r, σ1b, σ2b, h1, h2, hc2⟩ := hst σ1 σ2 hc (xs (v3 + (1 : Int32)).toNatClampNeg)
  refine lv_aload_n hx hb dL_law_542 rfl (lv_at hl 1 rfl) ?_
  refine lv_aload_n hx hb dL_law_543 rfl (lv_at hl 0 rfl) ?_
  refine lv_iload_n hx hb dL_law_544 rfl (lv_at hl 3 rfl) ?_
  refine lv_iconst (v := 1) hx hb dL_law_545 (by decide) ?_
  refine lv_iadd hx hb dL_law_546 ?_
  refine va_sld hx hb hXs hbl hbA hw.2.2.1 hi1 dL_law_547 ?_
  refine l_c1i (As := [.int (xs (v3 + (1 : Int32)).toNatClampNeg)]) (rest := []) h1 hx hb hml hts hown hX hw myX8_fooled miX8_fooled lkL_75 rfl (fun q hq => c_X8_fooled l E s.heap.size kT1 0 (xs (v3 + (1 : Int32)).toNatClampNeg) σ1 hq) ⟨Nat.le_of_ble_eq_true rfl, Nat.le_of_ble_eq_true rfl⟩ ⟨Nat.le_of_ble_eq_true rfl, Nat.le_of_ble_eq_true rfl⟩ rfl hl.1 rfl (Nat.le_of_ble_eq_true rfl) dL_law_548 (fun H1 L1 hw => ?_)
  refine lv_aload_n hx hb dL_law_551 rfl (lv_at hl 2 rfl) ?_
  refine lv_aload_n hx hb dL_law_552 rfl (lv_at hl 0 rfl) ?_
  refine lv_iload_n hx hb dL_law_553 rfl (lv_at hl 3 rfl) ?_
  refine lv_iconst (v := 1) hx hb dL_law_554 (by decide) ?_
  refine lv_iadd hx hb dL_law_555 ?_
  refine va_sld hx hb hXs hbl hbA hw.2.2.1 hi1 dL_law_556 ?_
  refine l_c2i (As := [.int (xs (v3 + (1 : Int32)).toNatClampNeg)]) (rest := [.int r]) h2 hx hb hml hts hown hX hw myX9_fooled miX9_fooled lkL_78 rfl (fun q hq => c_X9_fooled l E (s.heap.size + 101) kT2 0 (xs (v3 + (1 : Int32)).toNatClampNeg) σ2 hq) ⟨Nat.le_of_ble_eq_true rfl, Nat.le_of_ble_eq_true rfl⟩ ⟨Nat.le_of_ble_eq_true rfl, Nat.le_of_ble_eq_true rfl⟩ rfl hl.1 rfl (Nat.le_of_ble_eq_true rfl) dL_law_557 (fun H2 L2 hw => ?_)
  refine lv_icmp_eq (tgt := 1151) hx hb dL_law_560 (by decide) (fun hq => ?_) (fun hq => absurd rfl hq)
  exact hnx _ _ _ _ _ hc2 hw (lv_sub hl [0, 1, 2, 3] rfl)
set_option maxRecDepth 100000 in
set_option maxHeartbeats 4000000 in
theorem law_weigh {Cpl : hM → hM → Prop} (hst : st_weigh Cpl) (hΓ : l_Γ E p s m meth c b L xs) {v3 : Int32} (hi1 : vp_in (v3 + (1 : Int32)) L) (hi2 : vp_in (v3 + (2 : Int32)) L) (hi3 : vp_in (v3 + (3 : Int32)) L) (hi4 : vp_in (v3 + (4 : Int32)) L) {σ1 σ2 : hM} {H : Heap} {L0 : List Loc} {ls : Array Slot} (hc : Cpl σ1 σ2) (hw : h_L E s.heap.size s.heap σ1 σ2 H L0) (hl : lv_has ls 4 [(0, .ref b), (1, .ref (s.heap.size + 0)), (2, .ref (s.heap.size + 101 + 0)), (3, .int v3)]) (hnx : ∀ (σ1 σ2 : hM) (H : Heap) (L0 : List Loc) (ls : Array Slot), Cpl σ1 σ2 → h_L E s.heap.size s.heap σ1 σ2 H L0 → lv_has ls 4 [(0, .ref b), (1, .ref (s.heap.size + 0)), (2, .ref (s.heap.size + 101 + 0)), (3, .int v3)] → W p l e room_1 s m #[Value.ref b] below meth c H L0 600000 7302249 (lw_Z below #[Value.ref b] s) (F0 m 1151 ls [])) : W p l e room_1 s m #[Value.ref b] below meth c H L0 600000 7302249 (lw_Z below #[Value.ref b] s) (F0 m 565 ls []) := by
  obtain ⟨hx, hb, hr, hml, hts, hown, hlk, hX, hXs, hbl⟩ := hΓ
  have hbA : ¬ (fun q : Nat => s.heap.size ≤ q) b := Nat.not_le.mpr hbl
  obtain ⟨r, σ1b, σ2b, h1, h2, hc2⟩ := hst σ1 σ2 hc (xs (v3 + (1 : Int32)).toNatClampNeg) (xs (v3 + (2 : Int32)).toNatClampNeg)
  refine lv_aload_n hx hb dL_law_565 rfl (lv_at hl 1 rfl) ?_
  refine lv_aload_n hx hb dL_law_566 rfl (lv_at hl 0 rfl) ?_
  refine lv_iload_n hx hb dL_law_567 rfl (lv_at hl 3 rfl) ?_
  refine lv_iconst (v := 1) hx hb dL_law_568 (by decide) ?_
  refine lv_iadd hx hb dL_law_569 ?_
  refine va_sld hx hb hXs hbl hbA hw.2.2.1 hi1 dL_law_570 ?_
  refine lv_aload_n hx hb dL_law_571 rfl (lv_at hl 0 rfl) ?_
  refine lv_iload_n hx hb dL_law_572 rfl (lv_at hl 3 rfl) ?_
  refine lv_iconst (v := 2) hx hb dL_law_573 (by decide) ?_
  refine lv_iadd hx hb dL_law_574 ?_
  refine va_sld hx hb hXs hbl hbA hw.2.2.1 hi2 dL_law_575 ?_
  refine l_c1i (As := [.int (xs (v3 + (1 : Int32)).toNatClampNeg), .int (xs (v3 + (2 : Int32)).toNatClampNeg)]) (rest := []) h1 hx hb hml hts hown hX hw myX8_weigh miX8_weigh lkL_79 rfl (fun q hq => c_X8_weigh l E s.heap.size kT1 0 (xs (v3 + (1 : Int32)).toNatClampNeg) (xs (v3 + (2 : Int32)).toNatClampNeg) σ1 hq) ⟨Nat.le_of_ble_eq_true rfl, Nat.le_of_ble_eq_true rfl⟩ ⟨Nat.le_of_ble_eq_true rfl, Nat.le_of_ble_eq_true rfl⟩ rfl hl.1 rfl (Nat.le_of_ble_eq_true rfl) dL_law_576 (fun H1 L1 hw => ?_)
  refine lv_aload_n hx hb dL_law_579 rfl (lv_at hl 2 rfl) ?_
  refine lv_aload_n hx hb dL_law_580 rfl (lv_at hl 0 rfl) ?_
  refine lv_iload_n hx hb dL_law_581 rfl (lv_at hl 3 rfl) ?_
  refine lv_iconst (v := 1) hx hb dL_law_582 (by decide) ?_
  refine lv_iadd hx hb dL_law_583 ?_
  refine va_sld hx hb hXs hbl hbA hw.2.2.1 hi1 dL_law_584 ?_
  refine lv_aload_n hx hb dL_law_585 rfl (lv_at hl 0 rfl) ?_
  refine lv_iload_n hx hb dL_law_586 rfl (lv_at hl 3 rfl) ?_
  refine lv_iconst (v := 2) hx hb dL_law_587 (by decide) ?_
  refine lv_iadd hx hb dL_law_588 ?_
  refine va_sld hx hb hXs hbl hbA hw.2.2.1 hi2 dL_law_589 ?_
  refine l_c2i (As := [.int (xs (v3 + (1 : Int32)).toNatClampNeg), .int (xs (v3 + (2 : Int32)).toNatClampNeg)]) (rest := [.int r]) h2 hx hb hml hts hown hX hw myX9_weigh miX9_weigh lkL_82 rfl (fun q hq => c_X9_weigh l E (s.heap.size + 101) kT2 0 (xs (v3 + (1 : Int32)).toNatClampNeg) (xs (v3 + (2 : Int32)).toNatClampNeg) σ2 hq) ⟨Nat.le_of_ble_eq_true rfl, Nat.le_of_ble_eq_true rfl⟩ ⟨Nat.le_of_ble_eq_true rfl, Nat.le_of_ble_eq_true rfl⟩ rfl hl.1 rfl (Nat.le_of_ble_eq_true rfl) dL_law_590 (fun H2 L2 hw => ?_)
  refine lv_icmp_eq (tgt := 1151) hx hb dL_law_593 (by decide) (fun hq => ?_) (fun hq => absurd rfl hq)
  exact hnx _ _ _ _ _ hc2 hw (lv_sub hl [0, 1, 2, 3] rfl)
set_option maxRecDepth 100000 in
set_option maxHeartbeats 4000000 in
theorem law_result {Cpl : hM → hM → Prop} (hst : st_result Cpl) (hΓ : l_Γ E p s m meth c b L xs) {v3 : Int32} (hi1 : vp_in (v3 + (1 : Int32)) L) (hi2 : vp_in (v3 + (2 : Int32)) L) (hi3 : vp_in (v3 + (3 : Int32)) L) (hi4 : vp_in (v3 + (4 : Int32)) L) {σ1 σ2 : hM} {H : Heap} {L0 : List Loc} {ls : Array Slot} (hc : Cpl σ1 σ2) (hw : h_L E s.heap.size s.heap σ1 σ2 H L0) (hl : lv_has ls 4 [(0, .ref b), (1, .ref (s.heap.size + 0)), (2, .ref (s.heap.size + 101 + 0)), (3, .int v3)]) (hnx : ∀ (σ1 σ2 : hM) (H : Heap) (L0 : List Loc) (ls : Array Slot), Cpl σ1 σ2 → h_L E s.heap.size s.heap σ1 σ2 H L0 → lv_has ls 4 [(0, .ref b), (1, .ref (s.heap.size + 0)), (2, .ref (s.heap.size + 101 + 0)), (3, .int v3)] → W p l e room_1 s m #[Value.ref b] below meth c H L0 600000 7302249 (lw_Z below #[Value.ref b] s) (F0 m 1151 ls [])) : W p l e room_1 s m #[Value.ref b] below meth c H L0 600000 7302249 (lw_Z below #[Value.ref b] s) (F0 m 598 ls []) := by
  obtain ⟨hx, hb, hr, hml, hts, hown, hlk, hX, hXs, hbl⟩ := hΓ
  have hbA : ¬ (fun q : Nat => s.heap.size ≤ q) b := Nat.not_le.mpr hbl
  by_cases hz : (xs (v3 + (2 : Int32)).toNatClampNeg) = 0
  · obtain ⟨r, σ1b, σ2b, h1, h2, hc2⟩ := hst σ1 σ2 hc (xs (v3 + (1 : Int32)).toNatClampNeg) (0 : Int32) (Or.inl rfl)
    refine lv_aload_n hx hb dL_law_598 rfl (lv_at hl 1 rfl) ?_
    refine lv_aload_n hx hb dL_law_599 rfl (lv_at hl 0 rfl) ?_
    refine lv_iload_n hx hb dL_law_600 rfl (lv_at hl 3 rfl) ?_
    refine lv_iconst (v := 1) hx hb dL_law_601 (by decide) ?_
    refine lv_iadd hx hb dL_law_602 ?_
    refine va_sld hx hb hXs hbl hbA hw.2.2.1 hi1 dL_law_603 ?_
    refine lv_aload_n hx hb dL_law_604 rfl (lv_at hl 0 rfl) ?_
    refine lv_iload_n hx hb dL_law_605 rfl (lv_at hl 3 rfl) ?_
    refine lv_iconst (v := 2) hx hb dL_law_606 (by decide) ?_
    refine lv_iadd hx hb dL_law_607 ?_
    refine va_sld hx hb hXs hbl hbA hw.2.2.1 hi2 dL_law_608 ?_
    refine lv_if_eq (tgt := 616) hx hb dL_law_609 (by decide) (fun hq => ?_) (fun hq => absurd hz hq)
    refine lv_iconst (v := 0) hx hb dL_law_616 (by decide) ?_
    refine l_c1i (As := [.int (xs (v3 + (1 : Int32)).toNatClampNeg), .int (0 : Int32)]) (rest := []) h1 hx hb hml hts hown hX hw myX8_result miX8_result lkL_83 rfl (fun q hq => c_X8_result l E s.heap.size kT1 0 (xs (v3 + (1 : Int32)).toNatClampNeg) (0 : Int32) σ1 hq) ⟨Nat.le_of_ble_eq_true rfl, Nat.le_of_ble_eq_true rfl⟩ ⟨Nat.le_of_ble_eq_true rfl, Nat.le_of_ble_eq_true rfl⟩ rfl hl.1 rfl (Nat.le_of_ble_eq_true rfl) dL_law_617 (fun H1 L1 hw => ?_)
    refine lv_aload_n hx hb dL_law_620 rfl (lv_at hl 2 rfl) ?_
    refine lv_aload_n hx hb dL_law_621 rfl (lv_at hl 0 rfl) ?_
    refine lv_iload_n hx hb dL_law_622 rfl (lv_at hl 3 rfl) ?_
    refine lv_iconst (v := 1) hx hb dL_law_623 (by decide) ?_
    refine lv_iadd hx hb dL_law_624 ?_
    refine va_sld hx hb hXs hbl hbA hw.2.2.1 hi1 dL_law_625 ?_
    refine lv_aload_n hx hb dL_law_626 rfl (lv_at hl 0 rfl) ?_
    refine lv_iload_n hx hb dL_law_627 rfl (lv_at hl 3 rfl) ?_
    refine lv_iconst (v := 2) hx hb dL_law_628 (by decide) ?_
    refine lv_iadd hx hb dL_law_629 ?_
    refine va_sld hx hb hXs hbl hbA hw.2.2.1 hi2 dL_law_630 ?_
    refine lv_if_eq (tgt := 638) hx hb dL_law_631 (by decide) (fun hq => ?_) (fun hq => absurd hz hq)
    refine lv_iconst (v := 0) hx hb dL_law_638 (by decide) ?_
    refine l_c2i (As := [.int (xs (v3 + (1 : Int32)).toNatClampNeg), .int (0 : Int32)]) (rest := [.int r]) h2 hx hb hml hts hown hX hw myX9_result miX9_result lkL_87 rfl (fun q hq => c_X9_result l E (s.heap.size + 101) kT2 0 (xs (v3 + (1 : Int32)).toNatClampNeg) (0 : Int32) σ2 hq) ⟨Nat.le_of_ble_eq_true rfl, Nat.le_of_ble_eq_true rfl⟩ ⟨Nat.le_of_ble_eq_true rfl, Nat.le_of_ble_eq_true rfl⟩ rfl hl.1 rfl (Nat.le_of_ble_eq_true rfl) dL_law_639 (fun H2 L2 hw => ?_)
    refine lv_icmp_eq (tgt := 1151) hx hb dL_law_642 (by decide) (fun hq => ?_) (fun hq => absurd rfl hq)
    exact hnx _ _ _ _ _ hc2 hw (lv_sub hl [0, 1, 2, 3] rfl)
  · obtain ⟨r, σ1b, σ2b, h1, h2, hc2⟩ := hst σ1 σ2 hc (xs (v3 + (1 : Int32)).toNatClampNeg) (1 : Int32) (Or.inr rfl)
    refine lv_aload_n hx hb dL_law_598 rfl (lv_at hl 1 rfl) ?_
    refine lv_aload_n hx hb dL_law_599 rfl (lv_at hl 0 rfl) ?_
    refine lv_iload_n hx hb dL_law_600 rfl (lv_at hl 3 rfl) ?_
    refine lv_iconst (v := 1) hx hb dL_law_601 (by decide) ?_
    refine lv_iadd hx hb dL_law_602 ?_
    refine va_sld hx hb hXs hbl hbA hw.2.2.1 hi1 dL_law_603 ?_
    refine lv_aload_n hx hb dL_law_604 rfl (lv_at hl 0 rfl) ?_
    refine lv_iload_n hx hb dL_law_605 rfl (lv_at hl 3 rfl) ?_
    refine lv_iconst (v := 2) hx hb dL_law_606 (by decide) ?_
    refine lv_iadd hx hb dL_law_607 ?_
    refine va_sld hx hb hXs hbl hbA hw.2.2.1 hi2 dL_law_608 ?_
    refine lv_if_eq (tgt := 616) hx hb dL_law_609 (by decide) (fun hq => absurd hq hz) (fun hq => ?_)
    refine lv_iconst (v := 1) hx hb dL_law_612 (by decide) ?_
    refine lv_goto (tgt := 617) hx hb dL_law_613 (by decide) ?_
    refine l_c1i (As := [.int (xs (v3 + (1 : Int32)).toNatClampNeg), .int (1 : Int32)]) (rest := []) h1 hx hb hml hts hown hX hw myX8_result miX8_result lkL_83 rfl (fun q hq => c_X8_result l E s.heap.size kT1 0 (xs (v3 + (1 : Int32)).toNatClampNeg) (1 : Int32) σ1 hq) ⟨Nat.le_of_ble_eq_true rfl, Nat.le_of_ble_eq_true rfl⟩ ⟨Nat.le_of_ble_eq_true rfl, Nat.le_of_ble_eq_true rfl⟩ rfl hl.1 rfl (Nat.le_of_ble_eq_true rfl) dL_law_617 (fun H1 L1 hw => ?_)
    refine lv_aload_n hx hb dL_law_620 rfl (lv_at hl 2 rfl) ?_
    refine lv_aload_n hx hb dL_law_621 rfl (lv_at hl 0 rfl) ?_
    refine lv_iload_n hx hb dL_law_622 rfl (lv_at hl 3 rfl) ?_
    refine lv_iconst (v := 1) hx hb dL_law_623 (by decide) ?_
    refine lv_iadd hx hb dL_law_624 ?_
    refine va_sld hx hb hXs hbl hbA hw.2.2.1 hi1 dL_law_625 ?_
    refine lv_aload_n hx hb dL_law_626 rfl (lv_at hl 0 rfl) ?_
    refine lv_iload_n hx hb dL_law_627 rfl (lv_at hl 3 rfl) ?_
    refine lv_iconst (v := 2) hx hb dL_law_628 (by decide) ?_
    refine lv_iadd hx hb dL_law_629 ?_
    refine va_sld hx hb hXs hbl hbA hw.2.2.1 hi2 dL_law_630 ?_
    refine lv_if_eq (tgt := 638) hx hb dL_law_631 (by decide) (fun hq => absurd hq hz) (fun hq => ?_)
    refine lv_iconst (v := 1) hx hb dL_law_634 (by decide) ?_
    refine lv_goto (tgt := 639) hx hb dL_law_635 (by decide) ?_
    refine l_c2i (As := [.int (xs (v3 + (1 : Int32)).toNatClampNeg), .int (1 : Int32)]) (rest := [.int r]) h2 hx hb hml hts hown hX hw myX9_result miX9_result lkL_87 rfl (fun q hq => c_X9_result l E (s.heap.size + 101) kT2 0 (xs (v3 + (1 : Int32)).toNatClampNeg) (1 : Int32) σ2 hq) ⟨Nat.le_of_ble_eq_true rfl, Nat.le_of_ble_eq_true rfl⟩ ⟨Nat.le_of_ble_eq_true rfl, Nat.le_of_ble_eq_true rfl⟩ rfl hl.1 rfl (Nat.le_of_ble_eq_true rfl) dL_law_639 (fun H2 L2 hw => ?_)
    refine lv_icmp_eq (tgt := 1151) hx hb dL_law_642 (by decide) (fun hq => ?_) (fun hq => absurd rfl hq)
    exact hnx _ _ _ _ _ hc2 hw (lv_sub hl [0, 1, 2, 3] rfl)
set_option maxRecDepth 100000 in
set_option maxHeartbeats 4000000 in
theorem law_forget {Cpl : hM → hM → Prop} (hst : st_forget Cpl) (hΓ : l_Γ E p s m meth c b L xs) {v3 : Int32} (hi1 : vp_in (v3 + (1 : Int32)) L) (hi2 : vp_in (v3 + (2 : Int32)) L) (hi3 : vp_in (v3 + (3 : Int32)) L) (hi4 : vp_in (v3 + (4 : Int32)) L) {σ1 σ2 : hM} {H : Heap} {L0 : List Loc} {ls : Array Slot} (hc : Cpl σ1 σ2) (hw : h_L E s.heap.size s.heap σ1 σ2 H L0) (hl : lv_has ls 4 [(0, .ref b), (1, .ref (s.heap.size + 0)), (2, .ref (s.heap.size + 101 + 0)), (3, .int v3)]) (hnx : ∀ (σ1 σ2 : hM) (H : Heap) (L0 : List Loc) (ls : Array Slot), Cpl σ1 σ2 → h_L E s.heap.size s.heap σ1 σ2 H L0 → lv_has ls 4 [(0, .ref b), (1, .ref (s.heap.size + 0)), (2, .ref (s.heap.size + 101 + 0)), (3, .int v3)] → W p l e room_1 s m #[Value.ref b] below meth c H L0 600000 7302249 (lw_Z below #[Value.ref b] s) (F0 m 1151 ls [])) : W p l e room_1 s m #[Value.ref b] below meth c H L0 600000 7302249 (lw_Z below #[Value.ref b] s) (F0 m 647 ls []) := by
  obtain ⟨hx, hb, hr, hml, hts, hown, hlk, hX, hXs, hbl⟩ := hΓ
  have hbA : ¬ (fun q : Nat => s.heap.size ≤ q) b := Nat.not_le.mpr hbl
  obtain ⟨r, σ1b, σ2b, h1, h2, hc2⟩ := hst σ1 σ2 hc 
  refine lv_aload_n hx hb dL_law_647 rfl (lv_at hl 1 rfl) ?_
  refine l_c1i (As := []) (rest := []) h1 hx hb hml hts hown hX hw myX8_forget miX8_forget lkL_88 rfl (fun q hq => c_X8_forget l E s.heap.size kT1 0  σ1 hq) ⟨Nat.le_of_ble_eq_true rfl, Nat.le_of_ble_eq_true rfl⟩ ⟨Nat.le_of_ble_eq_true rfl, Nat.le_of_ble_eq_true rfl⟩ rfl hl.1 rfl (Nat.le_of_ble_eq_true rfl) dL_law_648 (fun H1 L1 hw => ?_)
  refine lv_aload_n hx hb dL_law_651 rfl (lv_at hl 2 rfl) ?_
  refine l_c2i (As := []) (rest := [.int r]) h2 hx hb hml hts hown hX hw myX9_forget miX9_forget lkL_91 rfl (fun q hq => c_X9_forget l E (s.heap.size + 101) kT2 0  σ2 hq) ⟨Nat.le_of_ble_eq_true rfl, Nat.le_of_ble_eq_true rfl⟩ ⟨Nat.le_of_ble_eq_true rfl, Nat.le_of_ble_eq_true rfl⟩ rfl hl.1 rfl (Nat.le_of_ble_eq_true rfl) dL_law_652 (fun H2 L2 hw => ?_)
  refine lv_icmp_eq (tgt := 1151) hx hb dL_law_655 (by decide) (fun hq => ?_) (fun hq => absurd rfl hq)
  exact hnx _ _ _ _ _ hc2 hw (lv_sub hl [0, 1, 2, 3] rfl)
set_option maxRecDepth 100000 in
set_option maxHeartbeats 4000000 in
theorem law_odds {Cpl : hM → hM → Prop} (hst : st_odds Cpl) (hΓ : l_Γ E p s m meth c b L xs) {v3 : Int32} (hi1 : vp_in (v3 + (1 : Int32)) L) (hi2 : vp_in (v3 + (2 : Int32)) L) (hi3 : vp_in (v3 + (3 : Int32)) L) (hi4 : vp_in (v3 + (4 : Int32)) L) {σ1 σ2 : hM} {H : Heap} {L0 : List Loc} {ls : Array Slot} (hc : Cpl σ1 σ2) (hw : h_L E s.heap.size s.heap σ1 σ2 H L0) (hl : lv_has ls 4 [(0, .ref b), (1, .ref (s.heap.size + 0)), (2, .ref (s.heap.size + 101 + 0)), (3, .int v3)]) (hnx : ∀ (σ1 σ2 : hM) (H : Heap) (L0 : List Loc) (ls : Array Slot), Cpl σ1 σ2 → h_L E s.heap.size s.heap σ1 σ2 H L0 → lv_has ls 4 [(0, .ref b), (1, .ref (s.heap.size + 0)), (2, .ref (s.heap.size + 101 + 0)), (3, .int v3)] → W p l e room_1 s m #[Value.ref b] below meth c H L0 600000 7302249 (lw_Z below #[Value.ref b] s) (F0 m 1151 ls [])) : W p l e room_1 s m #[Value.ref b] below meth c H L0 600000 7302249 (lw_Z below #[Value.ref b] s) (F0 m 660 ls []) := by
  obtain ⟨hx, hb, hr, hml, hts, hown, hlk, hX, hXs, hbl⟩ := hΓ
  have hbA : ¬ (fun q : Nat => s.heap.size ≤ q) b := Nat.not_le.mpr hbl
  obtain ⟨r, σ1b, σ2b, h1, h2, hc2⟩ := hst σ1 σ2 hc (xs (v3 + (1 : Int32)).toNatClampNeg)
  refine lv_aload_n hx hb dL_law_660 rfl (lv_at hl 1 rfl) ?_
  refine lv_aload_n hx hb dL_law_661 rfl (lv_at hl 0 rfl) ?_
  refine lv_iload_n hx hb dL_law_662 rfl (lv_at hl 3 rfl) ?_
  refine lv_iconst (v := 1) hx hb dL_law_663 (by decide) ?_
  refine lv_iadd hx hb dL_law_664 ?_
  refine va_sld hx hb hXs hbl hbA hw.2.2.1 hi1 dL_law_665 ?_
  refine l_c1l (As := [.int (xs (v3 + (1 : Int32)).toNatClampNeg)]) (rest := []) h1 hx hb hml hts hown hX hw myX8_odds miX8_odds lkL_92 rfl (fun q hq => c_X8_odds l E s.heap.size kT1 0 (xs (v3 + (1 : Int32)).toNatClampNeg) σ1 hq) ⟨Nat.le_of_ble_eq_true rfl, Nat.le_of_ble_eq_true rfl⟩ ⟨Nat.le_of_ble_eq_true rfl, Nat.le_of_ble_eq_true rfl⟩ rfl hl.1 rfl (Nat.le_of_ble_eq_true rfl) dL_law_666 (fun H1 L1 hw => ?_)
  refine lv_aload_n hx hb dL_law_669 rfl (lv_at hl 2 rfl) ?_
  refine lv_aload_n hx hb dL_law_670 rfl (lv_at hl 0 rfl) ?_
  refine lv_iload_n hx hb dL_law_671 rfl (lv_at hl 3 rfl) ?_
  refine lv_iconst (v := 1) hx hb dL_law_672 (by decide) ?_
  refine lv_iadd hx hb dL_law_673 ?_
  refine va_sld hx hb hXs hbl hbA hw.2.2.1 hi1 dL_law_674 ?_
  refine l_c2l (As := [.int (xs (v3 + (1 : Int32)).toNatClampNeg)]) (rest := [.long r]) h2 hx hb hml hts hown hX hw myX9_odds miX9_odds lkL_96 rfl (fun q hq => c_X9_odds l E (s.heap.size + 101) kT2 0 (xs (v3 + (1 : Int32)).toNatClampNeg) σ2 hq) ⟨Nat.le_of_ble_eq_true rfl, Nat.le_of_ble_eq_true rfl⟩ ⟨Nat.le_of_ble_eq_true rfl, Nat.le_of_ble_eq_true rfl⟩ rfl hl.1 rfl (Nat.le_of_ble_eq_true rfl) dL_law_675 (fun H2 L2 hw => ?_)
  refine W.lcmp hx hb dL_law_678 ?_
  refine lv_if_eq (tgt := 1151) hx hb dL_law_679 (by decide) (fun hq => ?_) (fun hq => absurd ((lg_cmp_eq _ _).mpr rfl) hq)
  exact hnx _ _ _ _ _ hc2 hw (lv_sub hl [0, 1, 2, 3] rfl)
set_option maxRecDepth 100000 in
set_option maxHeartbeats 4000000 in
theorem law_next {Cpl : hM → hM → Prop} (hst : st_next Cpl) (hΓ : l_Γ E p s m meth c b L xs) {v3 : Int32} (hi1 : vp_in (v3 + (1 : Int32)) L) (hi2 : vp_in (v3 + (2 : Int32)) L) (hi3 : vp_in (v3 + (3 : Int32)) L) (hi4 : vp_in (v3 + (4 : Int32)) L) {σ1 σ2 : hM} {H : Heap} {L0 : List Loc} {ls : Array Slot} (hc : Cpl σ1 σ2) (hw : h_L E s.heap.size s.heap σ1 σ2 H L0) (hl : lv_has ls 4 [(0, .ref b), (1, .ref (s.heap.size + 0)), (2, .ref (s.heap.size + 101 + 0)), (3, .int v3)]) (hnx : ∀ (σ1 σ2 : hM) (H : Heap) (L0 : List Loc) (ls : Array Slot), Cpl σ1 σ2 → h_L E s.heap.size s.heap σ1 σ2 H L0 → lv_has ls 4 [(0, .ref b), (1, .ref (s.heap.size + 0)), (2, .ref (s.heap.size + 101 + 0)), (3, .int v3)] → W p l e room_1 s m #[Value.ref b] below meth c H L0 600000 7302249 (lw_Z below #[Value.ref b] s) (F0 m 1151 ls [])) : W p l e room_1 s m #[Value.ref b] below meth c H L0 600000 7302249 (lw_Z below #[Value.ref b] s) (F0 m 684 ls []) := by
  obtain ⟨hx, hb, hr, hml, hts, hown, hlk, hX, hXs, hbl⟩ := hΓ
  have hbA : ¬ (fun q : Nat => s.heap.size ≤ q) b := Nat.not_le.mpr hbl
  obtain ⟨r, σ1b, σ2b, h1, h2, hc2⟩ := hst σ1 σ2 hc 
  refine lv_aload_n hx hb dL_law_684 rfl (lv_at hl 1 rfl) ?_
  refine l_c1i (As := []) (rest := []) h1 hx hb hml hts hown hX hw myX8_next miX8_next lkL_97 rfl (fun q hq => c_X8_next l E s.heap.size kT1 0  σ1 hq) ⟨Nat.le_of_ble_eq_true rfl, Nat.le_of_ble_eq_true rfl⟩ ⟨Nat.le_of_ble_eq_true rfl, Nat.le_of_ble_eq_true rfl⟩ rfl hl.1 rfl (Nat.le_of_ble_eq_true rfl) dL_law_685 (fun H1 L1 hw => ?_)
  refine lv_aload_n hx hb dL_law_688 rfl (lv_at hl 2 rfl) ?_
  refine l_c2i (As := []) (rest := [.int r]) h2 hx hb hml hts hown hX hw myX9_next miX9_next lkL_100 rfl (fun q hq => c_X9_next l E (s.heap.size + 101) kT2 0  σ2 hq) ⟨Nat.le_of_ble_eq_true rfl, Nat.le_of_ble_eq_true rfl⟩ ⟨Nat.le_of_ble_eq_true rfl, Nat.le_of_ble_eq_true rfl⟩ rfl hl.1 rfl (Nat.le_of_ble_eq_true rfl) dL_law_689 (fun H2 L2 hw => ?_)
  refine lv_icmp_eq (tgt := 1151) hx hb dL_law_692 (by decide) (fun hq => ?_) (fun hq => absurd rfl hq)
  exact hnx _ _ _ _ _ hc2 hw (lv_sub hl [0, 1, 2, 3] rfl)
set_option maxRecDepth 100000 in
set_option maxHeartbeats 4000000 in
theorem law_left {Cpl : hM → hM → Prop} (hst : st_left Cpl) (hΓ : l_Γ E p s m meth c b L xs) {v3 : Int32} (hi1 : vp_in (v3 + (1 : Int32)) L) (hi2 : vp_in (v3 + (2 : Int32)) L) (hi3 : vp_in (v3 + (3 : Int32)) L) (hi4 : vp_in (v3 + (4 : Int32)) L) {σ1 σ2 : hM} {H : Heap} {L0 : List Loc} {ls : Array Slot} (hc : Cpl σ1 σ2) (hw : h_L E s.heap.size s.heap σ1 σ2 H L0) (hl : lv_has ls 4 [(0, .ref b), (1, .ref (s.heap.size + 0)), (2, .ref (s.heap.size + 101 + 0)), (3, .int v3)]) (hnx : ∀ (σ1 σ2 : hM) (H : Heap) (L0 : List Loc) (ls : Array Slot), Cpl σ1 σ2 → h_L E s.heap.size s.heap σ1 σ2 H L0 → lv_has ls 4 [(0, .ref b), (1, .ref (s.heap.size + 0)), (2, .ref (s.heap.size + 101 + 0)), (3, .int v3)] → W p l e room_1 s m #[Value.ref b] below meth c H L0 600000 7302249 (lw_Z below #[Value.ref b] s) (F0 m 1151 ls [])) : W p l e room_1 s m #[Value.ref b] below meth c H L0 600000 7302249 (lw_Z below #[Value.ref b] s) (F0 m 697 ls []) := by
  obtain ⟨hx, hb, hr, hml, hts, hown, hlk, hX, hXs, hbl⟩ := hΓ
  have hbA : ¬ (fun q : Nat => s.heap.size ≤ q) b := Nat.not_le.mpr hbl
  obtain ⟨r, σ1b, σ2b, h1, h2, hc2⟩ := hst σ1 σ2 hc (xs (v3 + (1 : Int32)).toNatClampNeg)
  refine lv_aload_n hx hb dL_law_697 rfl (lv_at hl 1 rfl) ?_
  refine lv_aload_n hx hb dL_law_698 rfl (lv_at hl 0 rfl) ?_
  refine lv_iload_n hx hb dL_law_699 rfl (lv_at hl 3 rfl) ?_
  refine lv_iconst (v := 1) hx hb dL_law_700 (by decide) ?_
  refine lv_iadd hx hb dL_law_701 ?_
  refine va_sld hx hb hXs hbl hbA hw.2.2.1 hi1 dL_law_702 ?_
  refine l_c1i (As := [.int (xs (v3 + (1 : Int32)).toNatClampNeg)]) (rest := []) h1 hx hb hml hts hown hX hw myX8_left miX8_left lkL_101 rfl (fun q hq => c_X8_left l E s.heap.size kT1 0 (xs (v3 + (1 : Int32)).toNatClampNeg) σ1 hq) ⟨Nat.le_of_ble_eq_true rfl, Nat.le_of_ble_eq_true rfl⟩ ⟨Nat.le_of_ble_eq_true rfl, Nat.le_of_ble_eq_true rfl⟩ rfl hl.1 rfl (Nat.le_of_ble_eq_true rfl) dL_law_703 (fun H1 L1 hw => ?_)
  refine lv_aload_n hx hb dL_law_706 rfl (lv_at hl 2 rfl) ?_
  refine lv_aload_n hx hb dL_law_707 rfl (lv_at hl 0 rfl) ?_
  refine lv_iload_n hx hb dL_law_708 rfl (lv_at hl 3 rfl) ?_
  refine lv_iconst (v := 1) hx hb dL_law_709 (by decide) ?_
  refine lv_iadd hx hb dL_law_710 ?_
  refine va_sld hx hb hXs hbl hbA hw.2.2.1 hi1 dL_law_711 ?_
  refine l_c2i (As := [.int (xs (v3 + (1 : Int32)).toNatClampNeg)]) (rest := [.int r]) h2 hx hb hml hts hown hX hw myX9_left miX9_left lkL_104 rfl (fun q hq => c_X9_left l E (s.heap.size + 101) kT2 0 (xs (v3 + (1 : Int32)).toNatClampNeg) σ2 hq) ⟨Nat.le_of_ble_eq_true rfl, Nat.le_of_ble_eq_true rfl⟩ ⟨Nat.le_of_ble_eq_true rfl, Nat.le_of_ble_eq_true rfl⟩ rfl hl.1 rfl (Nat.le_of_ble_eq_true rfl) dL_law_712 (fun H2 L2 hw => ?_)
  refine lv_icmp_eq (tgt := 1151) hx hb dL_law_715 (by decide) (fun hq => ?_) (fun hq => absurd rfl hq)
  exact hnx _ _ _ _ _ hc2 hw (lv_sub hl [0, 1, 2, 3] rfl)
set_option maxRecDepth 100000 in
set_option maxHeartbeats 4000000 in
theorem law_alike {Cpl : hM → hM → Prop} (hst : st_alike Cpl) (hΓ : l_Γ E p s m meth c b L xs) {v3 : Int32} (hi1 : vp_in (v3 + (1 : Int32)) L) (hi2 : vp_in (v3 + (2 : Int32)) L) (hi3 : vp_in (v3 + (3 : Int32)) L) (hi4 : vp_in (v3 + (4 : Int32)) L) {σ1 σ2 : hM} {H : Heap} {L0 : List Loc} {ls : Array Slot} (hc : Cpl σ1 σ2) (hw : h_L E s.heap.size s.heap σ1 σ2 H L0) (hl : lv_has ls 4 [(0, .ref b), (1, .ref (s.heap.size + 0)), (2, .ref (s.heap.size + 101 + 0)), (3, .int v3)]) (hnx : ∀ (σ1 σ2 : hM) (H : Heap) (L0 : List Loc) (ls : Array Slot), Cpl σ1 σ2 → h_L E s.heap.size s.heap σ1 σ2 H L0 → lv_has ls 4 [(0, .ref b), (1, .ref (s.heap.size + 0)), (2, .ref (s.heap.size + 101 + 0)), (3, .int v3)] → W p l e room_1 s m #[Value.ref b] below meth c H L0 600000 7302249 (lw_Z below #[Value.ref b] s) (F0 m 1151 ls [])) : W p l e room_1 s m #[Value.ref b] below meth c H L0 600000 7302249 (lw_Z below #[Value.ref b] s) (F0 m 720 ls []) := by
  obtain ⟨hx, hb, hr, hml, hts, hown, hlk, hX, hXs, hbl⟩ := hΓ
  have hbA : ¬ (fun q : Nat => s.heap.size ≤ q) b := Nat.not_le.mpr hbl
  obtain ⟨r, σ1b, σ2b, h1, h2, hc2⟩ := hst σ1 σ2 hc (xs (v3 + (1 : Int32)).toNatClampNeg)
  refine lv_aload_n hx hb dL_law_720 rfl (lv_at hl 1 rfl) ?_
  refine lv_aload_n hx hb dL_law_721 rfl (lv_at hl 0 rfl) ?_
  refine lv_iload_n hx hb dL_law_722 rfl (lv_at hl 3 rfl) ?_
  refine lv_iconst (v := 1) hx hb dL_law_723 (by decide) ?_
  refine lv_iadd hx hb dL_law_724 ?_
  refine va_sld hx hb hXs hbl hbA hw.2.2.1 hi1 dL_law_725 ?_
  refine l_c1i (As := [.int (xs (v3 + (1 : Int32)).toNatClampNeg)]) (rest := []) h1 hx hb hml hts hown hX hw myX8_alike miX8_alike lkL_105 rfl (fun q hq => c_X8_alike l E s.heap.size kT1 0 (xs (v3 + (1 : Int32)).toNatClampNeg) σ1 hq) ⟨Nat.le_of_ble_eq_true rfl, Nat.le_of_ble_eq_true rfl⟩ ⟨Nat.le_of_ble_eq_true rfl, Nat.le_of_ble_eq_true rfl⟩ rfl hl.1 rfl (Nat.le_of_ble_eq_true rfl) dL_law_726 (fun H1 L1 hw => ?_)
  refine lv_aload_n hx hb dL_law_729 rfl (lv_at hl 2 rfl) ?_
  refine lv_aload_n hx hb dL_law_730 rfl (lv_at hl 0 rfl) ?_
  refine lv_iload_n hx hb dL_law_731 rfl (lv_at hl 3 rfl) ?_
  refine lv_iconst (v := 1) hx hb dL_law_732 (by decide) ?_
  refine lv_iadd hx hb dL_law_733 ?_
  refine va_sld hx hb hXs hbl hbA hw.2.2.1 hi1 dL_law_734 ?_
  refine l_c2i (As := [.int (xs (v3 + (1 : Int32)).toNatClampNeg)]) (rest := [.int r]) h2 hx hb hml hts hown hX hw myX9_alike miX9_alike lkL_108 rfl (fun q hq => c_X9_alike l E (s.heap.size + 101) kT2 0 (xs (v3 + (1 : Int32)).toNatClampNeg) σ2 hq) ⟨Nat.le_of_ble_eq_true rfl, Nat.le_of_ble_eq_true rfl⟩ ⟨Nat.le_of_ble_eq_true rfl, Nat.le_of_ble_eq_true rfl⟩ rfl hl.1 rfl (Nat.le_of_ble_eq_true rfl) dL_law_735 (fun H2 L2 hw => ?_)
  refine lv_icmp_eq (tgt := 1151) hx hb dL_law_738 (by decide) (fun hq => ?_) (fun hq => absurd rfl hq)
  exact hnx _ _ _ _ _ hc2 hw (lv_sub hl [0, 1, 2, 3] rfl)
set_option maxRecDepth 100000 in
set_option maxHeartbeats 4000000 in
theorem law_lesson {Cpl : hM → hM → Prop} (hst : st_lesson Cpl) (hΓ : l_Γ E p s m meth c b L xs) {v3 : Int32} (hi1 : vp_in (v3 + (1 : Int32)) L) (hi2 : vp_in (v3 + (2 : Int32)) L) (hi3 : vp_in (v3 + (3 : Int32)) L) (hi4 : vp_in (v3 + (4 : Int32)) L) {σ1 σ2 : hM} {H : Heap} {L0 : List Loc} {ls : Array Slot} (hc : Cpl σ1 σ2) (hw : h_L E s.heap.size s.heap σ1 σ2 H L0) (hl : lv_has ls 4 [(0, .ref b), (1, .ref (s.heap.size + 0)), (2, .ref (s.heap.size + 101 + 0)), (3, .int v3)]) (hnx : ∀ (σ1 σ2 : hM) (H : Heap) (L0 : List Loc) (ls : Array Slot), Cpl σ1 σ2 → h_L E s.heap.size s.heap σ1 σ2 H L0 → lv_has ls 4 [(0, .ref b), (1, .ref (s.heap.size + 0)), (2, .ref (s.heap.size + 101 + 0)), (3, .int v3)] → W p l e room_1 s m #[Value.ref b] below meth c H L0 600000 7302249 (lw_Z below #[Value.ref b] s) (F0 m 1151 ls [])) : W p l e room_1 s m #[Value.ref b] below meth c H L0 600000 7302249 (lw_Z below #[Value.ref b] s) (F0 m 743 ls []) := by
  obtain ⟨hx, hb, hr, hml, hts, hown, hlk, hX, hXs, hbl⟩ := hΓ
  have hbA : ¬ (fun q : Nat => s.heap.size ≤ q) b := Nat.not_le.mpr hbl
  obtain ⟨r, σ1b, σ2b, h1, h2, hc2⟩ := hst σ1 σ2 hc (xs (v3 + (1 : Int32)).toNatClampNeg) (xs (v3 + (2 : Int32)).toNatClampNeg)
  refine lv_aload_n hx hb dL_law_743 rfl (lv_at hl 1 rfl) ?_
  refine lv_aload_n hx hb dL_law_744 rfl (lv_at hl 0 rfl) ?_
  refine lv_iload_n hx hb dL_law_745 rfl (lv_at hl 3 rfl) ?_
  refine lv_iconst (v := 1) hx hb dL_law_746 (by decide) ?_
  refine lv_iadd hx hb dL_law_747 ?_
  refine va_sld hx hb hXs hbl hbA hw.2.2.1 hi1 dL_law_748 ?_
  refine lv_aload_n hx hb dL_law_749 rfl (lv_at hl 0 rfl) ?_
  refine lv_iload_n hx hb dL_law_750 rfl (lv_at hl 3 rfl) ?_
  refine lv_iconst (v := 2) hx hb dL_law_751 (by decide) ?_
  refine lv_iadd hx hb dL_law_752 ?_
  refine va_sld hx hb hXs hbl hbA hw.2.2.1 hi2 dL_law_753 ?_
  refine l_c1i (As := [.int (xs (v3 + (1 : Int32)).toNatClampNeg), .int (xs (v3 + (2 : Int32)).toNatClampNeg)]) (rest := []) h1 hx hb hml hts hown hX hw myX8_lesson miX8_lesson lkL_109 rfl (fun q hq => c_X8_lesson l E s.heap.size kT1 0 (xs (v3 + (1 : Int32)).toNatClampNeg) (xs (v3 + (2 : Int32)).toNatClampNeg) σ1 hq) ⟨Nat.le_of_ble_eq_true rfl, Nat.le_of_ble_eq_true rfl⟩ ⟨Nat.le_of_ble_eq_true rfl, Nat.le_of_ble_eq_true rfl⟩ rfl hl.1 rfl (Nat.le_of_ble_eq_true rfl) dL_law_754 (fun H1 L1 hw => ?_)
  refine lv_aload_n hx hb dL_law_757 rfl (lv_at hl 2 rfl) ?_
  refine lv_aload_n hx hb dL_law_758 rfl (lv_at hl 0 rfl) ?_
  refine lv_iload_n hx hb dL_law_759 rfl (lv_at hl 3 rfl) ?_
  refine lv_iconst (v := 1) hx hb dL_law_760 (by decide) ?_
  refine lv_iadd hx hb dL_law_761 ?_
  refine va_sld hx hb hXs hbl hbA hw.2.2.1 hi1 dL_law_762 ?_
  refine lv_aload_n hx hb dL_law_763 rfl (lv_at hl 0 rfl) ?_
  refine lv_iload_n hx hb dL_law_764 rfl (lv_at hl 3 rfl) ?_
  refine lv_iconst (v := 2) hx hb dL_law_765 (by decide) ?_
  refine lv_iadd hx hb dL_law_766 ?_
  refine va_sld hx hb hXs hbl hbA hw.2.2.1 hi2 dL_law_767 ?_
  refine l_c2i (As := [.int (xs (v3 + (1 : Int32)).toNatClampNeg), .int (xs (v3 + (2 : Int32)).toNatClampNeg)]) (rest := [.int r]) h2 hx hb hml hts hown hX hw myX9_lesson miX9_lesson lkL_112 rfl (fun q hq => c_X9_lesson l E (s.heap.size + 101) kT2 0 (xs (v3 + (1 : Int32)).toNatClampNeg) (xs (v3 + (2 : Int32)).toNatClampNeg) σ2 hq) ⟨Nat.le_of_ble_eq_true rfl, Nat.le_of_ble_eq_true rfl⟩ ⟨Nat.le_of_ble_eq_true rfl, Nat.le_of_ble_eq_true rfl⟩ rfl hl.1 rfl (Nat.le_of_ble_eq_true rfl) dL_law_768 (fun H2 L2 hw => ?_)
  refine lv_icmp_eq (tgt := 1151) hx hb dL_law_771 (by decide) (fun hq => ?_) (fun hq => absurd rfl hq)
  exact hnx _ _ _ _ _ hc2 hw (lv_sub hl [0, 1, 2, 3] rfl)
set_option maxRecDepth 100000 in
set_option maxHeartbeats 4000000 in
theorem law_plan {Cpl : hM → hM → Prop} (hst : st_plan Cpl) (hΓ : l_Γ E p s m meth c b L xs) {v3 : Int32} (hi1 : vp_in (v3 + (1 : Int32)) L) (hi2 : vp_in (v3 + (2 : Int32)) L) (hi3 : vp_in (v3 + (3 : Int32)) L) (hi4 : vp_in (v3 + (4 : Int32)) L) {σ1 σ2 : hM} {H : Heap} {L0 : List Loc} {ls : Array Slot} (hc : Cpl σ1 σ2) (hw : h_L E s.heap.size s.heap σ1 σ2 H L0) (hl : lv_has ls 4 [(0, .ref b), (1, .ref (s.heap.size + 0)), (2, .ref (s.heap.size + 101 + 0)), (3, .int v3)]) (hnx : ∀ (σ1 σ2 : hM) (H : Heap) (L0 : List Loc) (ls : Array Slot), Cpl σ1 σ2 → h_L E s.heap.size s.heap σ1 σ2 H L0 → lv_has ls 4 [(0, .ref b), (1, .ref (s.heap.size + 0)), (2, .ref (s.heap.size + 101 + 0)), (3, .int v3)] → W p l e room_1 s m #[Value.ref b] below meth c H L0 600000 7302249 (lw_Z below #[Value.ref b] s) (F0 m 1151 ls [])) : W p l e room_1 s m #[Value.ref b] below meth c H L0 600000 7302249 (lw_Z below #[Value.ref b] s) (F0 m 776 ls []) := by
  obtain ⟨hx, hb, hr, hml, hts, hown, hlk, hX, hXs, hbl⟩ := hΓ
  have hbA : ¬ (fun q : Nat => s.heap.size ≤ q) b := Nat.not_le.mpr hbl
  obtain ⟨r, σ1b, σ2b, h1, h2, hc2⟩ := hst σ1 σ2 hc (xs (v3 + (1 : Int32)).toNatClampNeg) (xs (v3 + (2 : Int32)).toNatClampNeg) (xs (v3 + (3 : Int32)).toNatClampNeg)
  refine lv_aload_n hx hb dL_law_776 rfl (lv_at hl 1 rfl) ?_
  refine lv_aload_n hx hb dL_law_777 rfl (lv_at hl 0 rfl) ?_
  refine lv_iload_n hx hb dL_law_778 rfl (lv_at hl 3 rfl) ?_
  refine lv_iconst (v := 1) hx hb dL_law_779 (by decide) ?_
  refine lv_iadd hx hb dL_law_780 ?_
  refine va_sld hx hb hXs hbl hbA hw.2.2.1 hi1 dL_law_781 ?_
  refine lv_aload_n hx hb dL_law_782 rfl (lv_at hl 0 rfl) ?_
  refine lv_iload_n hx hb dL_law_783 rfl (lv_at hl 3 rfl) ?_
  refine lv_iconst (v := 2) hx hb dL_law_784 (by decide) ?_
  refine lv_iadd hx hb dL_law_785 ?_
  refine va_sld hx hb hXs hbl hbA hw.2.2.1 hi2 dL_law_786 ?_
  refine lv_aload_n hx hb dL_law_787 rfl (lv_at hl 0 rfl) ?_
  refine lv_iload_n hx hb dL_law_788 rfl (lv_at hl 3 rfl) ?_
  refine lv_iconst (v := 3) hx hb dL_law_789 (by decide) ?_
  refine lv_iadd hx hb dL_law_790 ?_
  refine va_sld hx hb hXs hbl hbA hw.2.2.1 hi3 dL_law_791 ?_
  refine l_c1i (As := [.int (xs (v3 + (1 : Int32)).toNatClampNeg), .int (xs (v3 + (2 : Int32)).toNatClampNeg), .int (xs (v3 + (3 : Int32)).toNatClampNeg)]) (rest := []) h1 hx hb hml hts hown hX hw myX8_plan miX8_plan lkL_113 rfl (fun q hq => c_X8_plan l E s.heap.size kT1 0 (xs (v3 + (1 : Int32)).toNatClampNeg) (xs (v3 + (2 : Int32)).toNatClampNeg) (xs (v3 + (3 : Int32)).toNatClampNeg) σ1 hq) ⟨Nat.le_of_ble_eq_true rfl, Nat.le_of_ble_eq_true rfl⟩ ⟨Nat.le_of_ble_eq_true rfl, Nat.le_of_ble_eq_true rfl⟩ rfl hl.1 rfl (Nat.le_of_ble_eq_true rfl) dL_law_792 (fun H1 L1 hw => ?_)
  refine lv_aload_n hx hb dL_law_795 rfl (lv_at hl 2 rfl) ?_
  refine lv_aload_n hx hb dL_law_796 rfl (lv_at hl 0 rfl) ?_
  refine lv_iload_n hx hb dL_law_797 rfl (lv_at hl 3 rfl) ?_
  refine lv_iconst (v := 1) hx hb dL_law_798 (by decide) ?_
  refine lv_iadd hx hb dL_law_799 ?_
  refine va_sld hx hb hXs hbl hbA hw.2.2.1 hi1 dL_law_800 ?_
  refine lv_aload_n hx hb dL_law_801 rfl (lv_at hl 0 rfl) ?_
  refine lv_iload_n hx hb dL_law_802 rfl (lv_at hl 3 rfl) ?_
  refine lv_iconst (v := 2) hx hb dL_law_803 (by decide) ?_
  refine lv_iadd hx hb dL_law_804 ?_
  refine va_sld hx hb hXs hbl hbA hw.2.2.1 hi2 dL_law_805 ?_
  refine lv_aload_n hx hb dL_law_806 rfl (lv_at hl 0 rfl) ?_
  refine lv_iload_n hx hb dL_law_807 rfl (lv_at hl 3 rfl) ?_
  refine lv_iconst (v := 3) hx hb dL_law_808 (by decide) ?_
  refine lv_iadd hx hb dL_law_809 ?_
  refine va_sld hx hb hXs hbl hbA hw.2.2.1 hi3 dL_law_810 ?_
  refine l_c2i (As := [.int (xs (v3 + (1 : Int32)).toNatClampNeg), .int (xs (v3 + (2 : Int32)).toNatClampNeg), .int (xs (v3 + (3 : Int32)).toNatClampNeg)]) (rest := [.int r]) h2 hx hb hml hts hown hX hw myX9_plan miX9_plan lkL_117 rfl (fun q hq => c_X9_plan l E (s.heap.size + 101) kT2 0 (xs (v3 + (1 : Int32)).toNatClampNeg) (xs (v3 + (2 : Int32)).toNatClampNeg) (xs (v3 + (3 : Int32)).toNatClampNeg) σ2 hq) ⟨Nat.le_of_ble_eq_true rfl, Nat.le_of_ble_eq_true rfl⟩ ⟨Nat.le_of_ble_eq_true rfl, Nat.le_of_ble_eq_true rfl⟩ rfl hl.1 rfl (Nat.le_of_ble_eq_true rfl) dL_law_811 (fun H2 L2 hw => ?_)
  refine lv_icmp_eq (tgt := 1151) hx hb dL_law_814 (by decide) (fun hq => ?_) (fun hq => absurd rfl hq)
  exact hnx _ _ _ _ _ hc2 hw (lv_sub hl [0, 1, 2, 3] rfl)
set_option maxRecDepth 100000 in
set_option maxHeartbeats 4000000 in
theorem law_key {Cpl : hM → hM → Prop} (hst : st_key Cpl) (hΓ : l_Γ E p s m meth c b L xs) {v3 : Int32} (hi1 : vp_in (v3 + (1 : Int32)) L) (hi2 : vp_in (v3 + (2 : Int32)) L) (hi3 : vp_in (v3 + (3 : Int32)) L) (hi4 : vp_in (v3 + (4 : Int32)) L) {σ1 σ2 : hM} {H : Heap} {L0 : List Loc} {ls : Array Slot} (hc : Cpl σ1 σ2) (hw : h_L E s.heap.size s.heap σ1 σ2 H L0) (hl : lv_has ls 4 [(0, .ref b), (1, .ref (s.heap.size + 0)), (2, .ref (s.heap.size + 101 + 0)), (3, .int v3)]) (hnx : ∀ (σ1 σ2 : hM) (H : Heap) (L0 : List Loc) (ls : Array Slot), Cpl σ1 σ2 → h_L E s.heap.size s.heap σ1 σ2 H L0 → lv_has ls 4 [(0, .ref b), (1, .ref (s.heap.size + 0)), (2, .ref (s.heap.size + 101 + 0)), (3, .int v3)] → W p l e room_1 s m #[Value.ref b] below meth c H L0 600000 7302249 (lw_Z below #[Value.ref b] s) (F0 m 1151 ls [])) : W p l e room_1 s m #[Value.ref b] below meth c H L0 600000 7302249 (lw_Z below #[Value.ref b] s) (F0 m 819 ls []) := by
  obtain ⟨hx, hb, hr, hml, hts, hown, hlk, hX, hXs, hbl⟩ := hΓ
  have hbA : ¬ (fun q : Nat => s.heap.size ≤ q) b := Nat.not_le.mpr hbl
  obtain ⟨r, σ1b, σ2b, h1, h2, hc2⟩ := hst σ1 σ2 hc (xs (v3 + (1 : Int32)).toNatClampNeg)
  refine lv_aload_n hx hb dL_law_819 rfl (lv_at hl 1 rfl) ?_
  refine lv_aload_n hx hb dL_law_820 rfl (lv_at hl 0 rfl) ?_
  refine lv_iload_n hx hb dL_law_821 rfl (lv_at hl 3 rfl) ?_
  refine lv_iconst (v := 1) hx hb dL_law_822 (by decide) ?_
  refine lv_iadd hx hb dL_law_823 ?_
  refine va_sld hx hb hXs hbl hbA hw.2.2.1 hi1 dL_law_824 ?_
  refine l_c1i (As := [.int (xs (v3 + (1 : Int32)).toNatClampNeg)]) (rest := []) h1 hx hb hml hts hown hX hw myX8_key miX8_key lkL_118 rfl (fun q hq => c_X8_key l E s.heap.size kT1 0 (xs (v3 + (1 : Int32)).toNatClampNeg) σ1 hq) ⟨Nat.le_of_ble_eq_true rfl, Nat.le_of_ble_eq_true rfl⟩ ⟨Nat.le_of_ble_eq_true rfl, Nat.le_of_ble_eq_true rfl⟩ rfl hl.1 rfl (Nat.le_of_ble_eq_true rfl) dL_law_825 (fun H1 L1 hw => ?_)
  refine lv_aload_n hx hb dL_law_828 rfl (lv_at hl 2 rfl) ?_
  refine lv_aload_n hx hb dL_law_829 rfl (lv_at hl 0 rfl) ?_
  refine lv_iload_n hx hb dL_law_830 rfl (lv_at hl 3 rfl) ?_
  refine lv_iconst (v := 1) hx hb dL_law_831 (by decide) ?_
  refine lv_iadd hx hb dL_law_832 ?_
  refine va_sld hx hb hXs hbl hbA hw.2.2.1 hi1 dL_law_833 ?_
  refine l_c2i (As := [.int (xs (v3 + (1 : Int32)).toNatClampNeg)]) (rest := [.int r]) h2 hx hb hml hts hown hX hw myX9_key miX9_key lkL_121 rfl (fun q hq => c_X9_key l E (s.heap.size + 101) kT2 0 (xs (v3 + (1 : Int32)).toNatClampNeg) σ2 hq) ⟨Nat.le_of_ble_eq_true rfl, Nat.le_of_ble_eq_true rfl⟩ ⟨Nat.le_of_ble_eq_true rfl, Nat.le_of_ble_eq_true rfl⟩ rfl hl.1 rfl (Nat.le_of_ble_eq_true rfl) dL_law_834 (fun H2 L2 hw => ?_)
  refine lv_icmp_eq (tgt := 1151) hx hb dL_law_837 (by decide) (fun hq => ?_) (fun hq => absurd rfl hq)
  exact hnx _ _ _ _ _ hc2 hw (lv_sub hl [0, 1, 2, 3] rfl)
set_option maxRecDepth 100000 in
set_option maxHeartbeats 4000000 in
theorem law_age {Cpl : hM → hM → Prop} (hst : st_age Cpl) (hΓ : l_Γ E p s m meth c b L xs) {v3 : Int32} (hi1 : vp_in (v3 + (1 : Int32)) L) (hi2 : vp_in (v3 + (2 : Int32)) L) (hi3 : vp_in (v3 + (3 : Int32)) L) (hi4 : vp_in (v3 + (4 : Int32)) L) {σ1 σ2 : hM} {H : Heap} {L0 : List Loc} {ls : Array Slot} (hc : Cpl σ1 σ2) (hw : h_L E s.heap.size s.heap σ1 σ2 H L0) (hl : lv_has ls 4 [(0, .ref b), (1, .ref (s.heap.size + 0)), (2, .ref (s.heap.size + 101 + 0)), (3, .int v3)]) (hnx : ∀ (σ1 σ2 : hM) (H : Heap) (L0 : List Loc) (ls : Array Slot), Cpl σ1 σ2 → h_L E s.heap.size s.heap σ1 σ2 H L0 → lv_has ls 4 [(0, .ref b), (1, .ref (s.heap.size + 0)), (2, .ref (s.heap.size + 101 + 0)), (3, .int v3)] → W p l e room_1 s m #[Value.ref b] below meth c H L0 600000 7302249 (lw_Z below #[Value.ref b] s) (F0 m 1151 ls [])) : W p l e room_1 s m #[Value.ref b] below meth c H L0 600000 7302249 (lw_Z below #[Value.ref b] s) (F0 m 842 ls []) := by
  obtain ⟨hx, hb, hr, hml, hts, hown, hlk, hX, hXs, hbl⟩ := hΓ
  have hbA : ¬ (fun q : Nat => s.heap.size ≤ q) b := Nat.not_le.mpr hbl
  obtain ⟨r, σ1b, σ2b, h1, h2, hc2⟩ := hst σ1 σ2 hc (xs (v3 + (1 : Int32)).toNatClampNeg)
  refine lv_aload_n hx hb dL_law_842 rfl (lv_at hl 1 rfl) ?_
  refine lv_aload_n hx hb dL_law_843 rfl (lv_at hl 0 rfl) ?_
  refine lv_iload_n hx hb dL_law_844 rfl (lv_at hl 3 rfl) ?_
  refine lv_iconst (v := 1) hx hb dL_law_845 (by decide) ?_
  refine lv_iadd hx hb dL_law_846 ?_
  refine va_sld hx hb hXs hbl hbA hw.2.2.1 hi1 dL_law_847 ?_
  refine l_c1i (As := [.int (xs (v3 + (1 : Int32)).toNatClampNeg)]) (rest := []) h1 hx hb hml hts hown hX hw myX8_age miX8_age lkL_122 rfl (fun q hq => c_X8_age l E s.heap.size kT1 0 (xs (v3 + (1 : Int32)).toNatClampNeg) σ1 hq) ⟨Nat.le_of_ble_eq_true rfl, Nat.le_of_ble_eq_true rfl⟩ ⟨Nat.le_of_ble_eq_true rfl, Nat.le_of_ble_eq_true rfl⟩ rfl hl.1 rfl (Nat.le_of_ble_eq_true rfl) dL_law_848 (fun H1 L1 hw => ?_)
  refine lv_aload_n hx hb dL_law_851 rfl (lv_at hl 2 rfl) ?_
  refine lv_aload_n hx hb dL_law_852 rfl (lv_at hl 0 rfl) ?_
  refine lv_iload_n hx hb dL_law_853 rfl (lv_at hl 3 rfl) ?_
  refine lv_iconst (v := 1) hx hb dL_law_854 (by decide) ?_
  refine lv_iadd hx hb dL_law_855 ?_
  refine va_sld hx hb hXs hbl hbA hw.2.2.1 hi1 dL_law_856 ?_
  refine l_c2i (As := [.int (xs (v3 + (1 : Int32)).toNatClampNeg)]) (rest := [.int r]) h2 hx hb hml hts hown hX hw myX9_age miX9_age lkL_125 rfl (fun q hq => c_X9_age l E (s.heap.size + 101) kT2 0 (xs (v3 + (1 : Int32)).toNatClampNeg) σ2 hq) ⟨Nat.le_of_ble_eq_true rfl, Nat.le_of_ble_eq_true rfl⟩ ⟨Nat.le_of_ble_eq_true rfl, Nat.le_of_ble_eq_true rfl⟩ rfl hl.1 rfl (Nat.le_of_ble_eq_true rfl) dL_law_857 (fun H2 L2 hw => ?_)
  refine lv_icmp_eq (tgt := 1151) hx hb dL_law_860 (by decide) (fun hq => ?_) (fun hq => absurd rfl hq)
  exact hnx _ _ _ _ _ hc2 hw (lv_sub hl [0, 1, 2, 3] rfl)
set_option maxRecDepth 100000 in
set_option maxHeartbeats 4000000 in
theorem law_passes {Cpl : hM → hM → Prop} (hst : st_passes Cpl) (hΓ : l_Γ E p s m meth c b L xs) {v3 : Int32} (hi1 : vp_in (v3 + (1 : Int32)) L) (hi2 : vp_in (v3 + (2 : Int32)) L) (hi3 : vp_in (v3 + (3 : Int32)) L) (hi4 : vp_in (v3 + (4 : Int32)) L) {σ1 σ2 : hM} {H : Heap} {L0 : List Loc} {ls : Array Slot} (hc : Cpl σ1 σ2) (hw : h_L E s.heap.size s.heap σ1 σ2 H L0) (hl : lv_has ls 4 [(0, .ref b), (1, .ref (s.heap.size + 0)), (2, .ref (s.heap.size + 101 + 0)), (3, .int v3)]) (hnx : ∀ (σ1 σ2 : hM) (H : Heap) (L0 : List Loc) (ls : Array Slot), Cpl σ1 σ2 → h_L E s.heap.size s.heap σ1 σ2 H L0 → lv_has ls 4 [(0, .ref b), (1, .ref (s.heap.size + 0)), (2, .ref (s.heap.size + 101 + 0)), (3, .int v3)] → W p l e room_1 s m #[Value.ref b] below meth c H L0 600000 7302249 (lw_Z below #[Value.ref b] s) (F0 m 1151 ls [])) : W p l e room_1 s m #[Value.ref b] below meth c H L0 600000 7302249 (lw_Z below #[Value.ref b] s) (F0 m 865 ls []) := by
  obtain ⟨hx, hb, hr, hml, hts, hown, hlk, hX, hXs, hbl⟩ := hΓ
  have hbA : ¬ (fun q : Nat => s.heap.size ≤ q) b := Nat.not_le.mpr hbl
  obtain ⟨r, σ1b, σ2b, h1, h2, hc2⟩ := hst σ1 σ2 hc (xs (v3 + (1 : Int32)).toNatClampNeg) (xs (v3 + (2 : Int32)).toNatClampNeg)
  refine lv_aload_n hx hb dL_law_865 rfl (lv_at hl 1 rfl) ?_
  refine lv_aload_n hx hb dL_law_866 rfl (lv_at hl 0 rfl) ?_
  refine lv_iload_n hx hb dL_law_867 rfl (lv_at hl 3 rfl) ?_
  refine lv_iconst (v := 1) hx hb dL_law_868 (by decide) ?_
  refine lv_iadd hx hb dL_law_869 ?_
  refine va_sld hx hb hXs hbl hbA hw.2.2.1 hi1 dL_law_870 ?_
  refine lv_aload_n hx hb dL_law_871 rfl (lv_at hl 0 rfl) ?_
  refine lv_iload_n hx hb dL_law_872 rfl (lv_at hl 3 rfl) ?_
  refine lv_iconst (v := 2) hx hb dL_law_873 (by decide) ?_
  refine lv_iadd hx hb dL_law_874 ?_
  refine va_sld hx hb hXs hbl hbA hw.2.2.1 hi2 dL_law_875 ?_
  refine l_c1i (As := [.int (xs (v3 + (1 : Int32)).toNatClampNeg), .int (xs (v3 + (2 : Int32)).toNatClampNeg)]) (rest := []) h1 hx hb hml hts hown hX hw myX8_passes miX8_passes lkL_126 rfl (fun q hq => c_X8_passes l E s.heap.size kT1 0 (xs (v3 + (1 : Int32)).toNatClampNeg) (xs (v3 + (2 : Int32)).toNatClampNeg) σ1 hq) ⟨Nat.le_of_ble_eq_true rfl, Nat.le_of_ble_eq_true rfl⟩ ⟨Nat.le_of_ble_eq_true rfl, Nat.le_of_ble_eq_true rfl⟩ rfl hl.1 rfl (Nat.le_of_ble_eq_true rfl) dL_law_876 (fun H1 L1 hw => ?_)
  refine lv_aload_n hx hb dL_law_879 rfl (lv_at hl 2 rfl) ?_
  refine lv_aload_n hx hb dL_law_880 rfl (lv_at hl 0 rfl) ?_
  refine lv_iload_n hx hb dL_law_881 rfl (lv_at hl 3 rfl) ?_
  refine lv_iconst (v := 1) hx hb dL_law_882 (by decide) ?_
  refine lv_iadd hx hb dL_law_883 ?_
  refine va_sld hx hb hXs hbl hbA hw.2.2.1 hi1 dL_law_884 ?_
  refine lv_aload_n hx hb dL_law_885 rfl (lv_at hl 0 rfl) ?_
  refine lv_iload_n hx hb dL_law_886 rfl (lv_at hl 3 rfl) ?_
  refine lv_iconst (v := 2) hx hb dL_law_887 (by decide) ?_
  refine lv_iadd hx hb dL_law_888 ?_
  refine va_sld hx hb hXs hbl hbA hw.2.2.1 hi2 dL_law_889 ?_
  refine l_c2i (As := [.int (xs (v3 + (1 : Int32)).toNatClampNeg), .int (xs (v3 + (2 : Int32)).toNatClampNeg)]) (rest := [.int r]) h2 hx hb hml hts hown hX hw myX9_passes miX9_passes lkL_129 rfl (fun q hq => c_X9_passes l E (s.heap.size + 101) kT2 0 (xs (v3 + (1 : Int32)).toNatClampNeg) (xs (v3 + (2 : Int32)).toNatClampNeg) σ2 hq) ⟨Nat.le_of_ble_eq_true rfl, Nat.le_of_ble_eq_true rfl⟩ ⟨Nat.le_of_ble_eq_true rfl, Nat.le_of_ble_eq_true rfl⟩ rfl hl.1 rfl (Nat.le_of_ble_eq_true rfl) dL_law_890 (fun H2 L2 hw => ?_)
  refine lv_icmp_eq (tgt := 1151) hx hb dL_law_893 (by decide) (fun hq => ?_) (fun hq => absurd rfl hq)
  exact hnx _ _ _ _ _ hc2 hw (lv_sub hl [0, 1, 2, 3] rfl)
set_option maxRecDepth 100000 in
set_option maxHeartbeats 4000000 in
theorem law_pairs {Cpl : hM → hM → Prop} (hst : st_pairs Cpl) (hΓ : l_Γ E p s m meth c b L xs) {v3 : Int32} (hi1 : vp_in (v3 + (1 : Int32)) L) (hi2 : vp_in (v3 + (2 : Int32)) L) (hi3 : vp_in (v3 + (3 : Int32)) L) (hi4 : vp_in (v3 + (4 : Int32)) L) {σ1 σ2 : hM} {H : Heap} {L0 : List Loc} {ls : Array Slot} (hc : Cpl σ1 σ2) (hw : h_L E s.heap.size s.heap σ1 σ2 H L0) (hl : lv_has ls 4 [(0, .ref b), (1, .ref (s.heap.size + 0)), (2, .ref (s.heap.size + 101 + 0)), (3, .int v3)]) (hnx : ∀ (σ1 σ2 : hM) (H : Heap) (L0 : List Loc) (ls : Array Slot), Cpl σ1 σ2 → h_L E s.heap.size s.heap σ1 σ2 H L0 → lv_has ls 4 [(0, .ref b), (1, .ref (s.heap.size + 0)), (2, .ref (s.heap.size + 101 + 0)), (3, .int v3)] → W p l e room_1 s m #[Value.ref b] below meth c H L0 600000 7302249 (lw_Z below #[Value.ref b] s) (F0 m 1151 ls [])) : W p l e room_1 s m #[Value.ref b] below meth c H L0 600000 7302249 (lw_Z below #[Value.ref b] s) (F0 m 898 ls []) := by
  obtain ⟨hx, hb, hr, hml, hts, hown, hlk, hX, hXs, hbl⟩ := hΓ
  have hbA : ¬ (fun q : Nat => s.heap.size ≤ q) b := Nat.not_le.mpr hbl
  obtain ⟨r, σ1b, σ2b, h1, h2, hc2⟩ := hst σ1 σ2 hc (xs (v3 + (1 : Int32)).toNatClampNeg)
  refine lv_aload_n hx hb dL_law_898 rfl (lv_at hl 1 rfl) ?_
  refine lv_aload_n hx hb dL_law_899 rfl (lv_at hl 0 rfl) ?_
  refine lv_iload_n hx hb dL_law_900 rfl (lv_at hl 3 rfl) ?_
  refine lv_iconst (v := 1) hx hb dL_law_901 (by decide) ?_
  refine lv_iadd hx hb dL_law_902 ?_
  refine va_sld hx hb hXs hbl hbA hw.2.2.1 hi1 dL_law_903 ?_
  refine l_c1i (As := [.int (xs (v3 + (1 : Int32)).toNatClampNeg)]) (rest := []) h1 hx hb hml hts hown hX hw myX8_pairs miX8_pairs lkL_130 rfl (fun q hq => c_X8_pairs l E s.heap.size kT1 0 (xs (v3 + (1 : Int32)).toNatClampNeg) σ1 hq) ⟨Nat.le_of_ble_eq_true rfl, Nat.le_of_ble_eq_true rfl⟩ ⟨Nat.le_of_ble_eq_true rfl, Nat.le_of_ble_eq_true rfl⟩ rfl hl.1 rfl (Nat.le_of_ble_eq_true rfl) dL_law_904 (fun H1 L1 hw => ?_)
  refine lv_aload_n hx hb dL_law_907 rfl (lv_at hl 2 rfl) ?_
  refine lv_aload_n hx hb dL_law_908 rfl (lv_at hl 0 rfl) ?_
  refine lv_iload_n hx hb dL_law_909 rfl (lv_at hl 3 rfl) ?_
  refine lv_iconst (v := 1) hx hb dL_law_910 (by decide) ?_
  refine lv_iadd hx hb dL_law_911 ?_
  refine va_sld hx hb hXs hbl hbA hw.2.2.1 hi1 dL_law_912 ?_
  refine l_c2i (As := [.int (xs (v3 + (1 : Int32)).toNatClampNeg)]) (rest := [.int r]) h2 hx hb hml hts hown hX hw myX9_pairs miX9_pairs lkL_133 rfl (fun q hq => c_X9_pairs l E (s.heap.size + 101) kT2 0 (xs (v3 + (1 : Int32)).toNatClampNeg) σ2 hq) ⟨Nat.le_of_ble_eq_true rfl, Nat.le_of_ble_eq_true rfl⟩ ⟨Nat.le_of_ble_eq_true rfl, Nat.le_of_ble_eq_true rfl⟩ rfl hl.1 rfl (Nat.le_of_ble_eq_true rfl) dL_law_913 (fun H2 L2 hw => ?_)
  refine lv_icmp_eq (tgt := 1151) hx hb dL_law_916 (by decide) (fun hq => ?_) (fun hq => absurd rfl hq)
  exact hnx _ _ _ _ _ hc2 hw (lv_sub hl [0, 1, 2, 3] rfl)
set_option maxRecDepth 100000 in
set_option maxHeartbeats 4000000 in
theorem law_join {Cpl : hM → hM → Prop} (hst : st_join Cpl) (hΓ : l_Γ E p s m meth c b L xs) {v3 : Int32} (hi1 : vp_in (v3 + (1 : Int32)) L) (hi2 : vp_in (v3 + (2 : Int32)) L) (hi3 : vp_in (v3 + (3 : Int32)) L) (hi4 : vp_in (v3 + (4 : Int32)) L) {σ1 σ2 : hM} {H : Heap} {L0 : List Loc} {ls : Array Slot} (hc : Cpl σ1 σ2) (hw : h_L E s.heap.size s.heap σ1 σ2 H L0) (hl : lv_has ls 4 [(0, .ref b), (1, .ref (s.heap.size + 0)), (2, .ref (s.heap.size + 101 + 0)), (3, .int v3)]) (hnx : ∀ (σ1 σ2 : hM) (H : Heap) (L0 : List Loc) (ls : Array Slot), Cpl σ1 σ2 → h_L E s.heap.size s.heap σ1 σ2 H L0 → lv_has ls 4 [(0, .ref b), (1, .ref (s.heap.size + 0)), (2, .ref (s.heap.size + 101 + 0)), (3, .int v3)] → W p l e room_1 s m #[Value.ref b] below meth c H L0 600000 7302249 (lw_Z below #[Value.ref b] s) (F0 m 1151 ls [])) : W p l e room_1 s m #[Value.ref b] below meth c H L0 600000 7302249 (lw_Z below #[Value.ref b] s) (F0 m 921 ls []) := by
  obtain ⟨hx, hb, hr, hml, hts, hown, hlk, hX, hXs, hbl⟩ := hΓ
  have hbA : ¬ (fun q : Nat => s.heap.size ≤ q) b := Nat.not_le.mpr hbl
  obtain ⟨r, σ1b, σ2b, h1, h2, hc2⟩ := hst σ1 σ2 hc (xs (v3 + (1 : Int32)).toNatClampNeg)
  refine lv_aload_n hx hb dL_law_921 rfl (lv_at hl 1 rfl) ?_
  refine lv_aload_n hx hb dL_law_922 rfl (lv_at hl 0 rfl) ?_
  refine lv_iload_n hx hb dL_law_923 rfl (lv_at hl 3 rfl) ?_
  refine lv_iconst (v := 1) hx hb dL_law_924 (by decide) ?_
  refine lv_iadd hx hb dL_law_925 ?_
  refine va_sld hx hb hXs hbl hbA hw.2.2.1 hi1 dL_law_926 ?_
  refine l_c1i (As := [.int (xs (v3 + (1 : Int32)).toNatClampNeg)]) (rest := []) h1 hx hb hml hts hown hX hw myX8_join miX8_join lkL_134 rfl (fun q hq => c_X8_join l E s.heap.size kT1 0 (xs (v3 + (1 : Int32)).toNatClampNeg) σ1 hq) ⟨Nat.le_of_ble_eq_true rfl, Nat.le_of_ble_eq_true rfl⟩ ⟨Nat.le_of_ble_eq_true rfl, Nat.le_of_ble_eq_true rfl⟩ rfl hl.1 rfl (Nat.le_of_ble_eq_true rfl) dL_law_927 (fun H1 L1 hw => ?_)
  refine lv_aload_n hx hb dL_law_930 rfl (lv_at hl 2 rfl) ?_
  refine lv_aload_n hx hb dL_law_931 rfl (lv_at hl 0 rfl) ?_
  refine lv_iload_n hx hb dL_law_932 rfl (lv_at hl 3 rfl) ?_
  refine lv_iconst (v := 1) hx hb dL_law_933 (by decide) ?_
  refine lv_iadd hx hb dL_law_934 ?_
  refine va_sld hx hb hXs hbl hbA hw.2.2.1 hi1 dL_law_935 ?_
  refine l_c2i (As := [.int (xs (v3 + (1 : Int32)).toNatClampNeg)]) (rest := [.int r]) h2 hx hb hml hts hown hX hw myX9_join miX9_join lkL_137 rfl (fun q hq => c_X9_join l E (s.heap.size + 101) kT2 0 (xs (v3 + (1 : Int32)).toNatClampNeg) σ2 hq) ⟨Nat.le_of_ble_eq_true rfl, Nat.le_of_ble_eq_true rfl⟩ ⟨Nat.le_of_ble_eq_true rfl, Nat.le_of_ble_eq_true rfl⟩ rfl hl.1 rfl (Nat.le_of_ble_eq_true rfl) dL_law_936 (fun H2 L2 hw => ?_)
  refine lv_icmp_eq (tgt := 1151) hx hb dL_law_939 (by decide) (fun hq => ?_) (fun hq => absurd rfl hq)
  exact hnx _ _ _ _ _ hc2 hw (lv_sub hl [0, 1, 2, 3] rfl)
set_option maxRecDepth 100000 in
set_option maxHeartbeats 4000000 in
theorem law_part {Cpl : hM → hM → Prop} (hst : st_part Cpl) (hΓ : l_Γ E p s m meth c b L xs) {v3 : Int32} (hi1 : vp_in (v3 + (1 : Int32)) L) (hi2 : vp_in (v3 + (2 : Int32)) L) (hi3 : vp_in (v3 + (3 : Int32)) L) (hi4 : vp_in (v3 + (4 : Int32)) L) {σ1 σ2 : hM} {H : Heap} {L0 : List Loc} {ls : Array Slot} (hc : Cpl σ1 σ2) (hw : h_L E s.heap.size s.heap σ1 σ2 H L0) (hl : lv_has ls 4 [(0, .ref b), (1, .ref (s.heap.size + 0)), (2, .ref (s.heap.size + 101 + 0)), (3, .int v3)]) (hnx : ∀ (σ1 σ2 : hM) (H : Heap) (L0 : List Loc) (ls : Array Slot), Cpl σ1 σ2 → h_L E s.heap.size s.heap σ1 σ2 H L0 → lv_has ls 4 [(0, .ref b), (1, .ref (s.heap.size + 0)), (2, .ref (s.heap.size + 101 + 0)), (3, .int v3)] → W p l e room_1 s m #[Value.ref b] below meth c H L0 600000 7302249 (lw_Z below #[Value.ref b] s) (F0 m 1151 ls [])) : W p l e room_1 s m #[Value.ref b] below meth c H L0 600000 7302249 (lw_Z below #[Value.ref b] s) (F0 m 944 ls []) := by
  obtain ⟨hx, hb, hr, hml, hts, hown, hlk, hX, hXs, hbl⟩ := hΓ
  have hbA : ¬ (fun q : Nat => s.heap.size ≤ q) b := Nat.not_le.mpr hbl
  obtain ⟨r, σ1b, σ2b, h1, h2, hc2⟩ := hst σ1 σ2 hc 
  refine lv_aload_n hx hb dL_law_944 rfl (lv_at hl 1 rfl) ?_
  refine l_c1i (As := []) (rest := []) h1 hx hb hml hts hown hX hw myX8_part miX8_part lkL_138 rfl (fun q hq => c_X8_part l E s.heap.size kT1 0  σ1 hq) ⟨Nat.le_of_ble_eq_true rfl, Nat.le_of_ble_eq_true rfl⟩ ⟨Nat.le_of_ble_eq_true rfl, Nat.le_of_ble_eq_true rfl⟩ rfl hl.1 rfl (Nat.le_of_ble_eq_true rfl) dL_law_945 (fun H1 L1 hw => ?_)
  refine lv_aload_n hx hb dL_law_948 rfl (lv_at hl 2 rfl) ?_
  refine l_c2i (As := []) (rest := [.int r]) h2 hx hb hml hts hown hX hw myX9_part miX9_part lkL_141 rfl (fun q hq => c_X9_part l E (s.heap.size + 101) kT2 0  σ2 hq) ⟨Nat.le_of_ble_eq_true rfl, Nat.le_of_ble_eq_true rfl⟩ ⟨Nat.le_of_ble_eq_true rfl, Nat.le_of_ble_eq_true rfl⟩ rfl hl.1 rfl (Nat.le_of_ble_eq_true rfl) dL_law_949 (fun H2 L2 hw => ?_)
  refine lv_icmp_eq (tgt := 1151) hx hb dL_law_952 (by decide) (fun hq => ?_) (fun hq => absurd rfl hq)
  exact hnx _ _ _ _ _ hc2 hw (lv_sub hl [0, 1, 2, 3] rfl)
set_option maxRecDepth 100000 in
set_option maxHeartbeats 4000000 in
theorem law_ends {Cpl : hM → hM → Prop} (hst : st_ends Cpl) (hΓ : l_Γ E p s m meth c b L xs) {v3 : Int32} (hi1 : vp_in (v3 + (1 : Int32)) L) (hi2 : vp_in (v3 + (2 : Int32)) L) (hi3 : vp_in (v3 + (3 : Int32)) L) (hi4 : vp_in (v3 + (4 : Int32)) L) {σ1 σ2 : hM} {H : Heap} {L0 : List Loc} {ls : Array Slot} (hc : Cpl σ1 σ2) (hw : h_L E s.heap.size s.heap σ1 σ2 H L0) (hl : lv_has ls 4 [(0, .ref b), (1, .ref (s.heap.size + 0)), (2, .ref (s.heap.size + 101 + 0)), (3, .int v3)]) (hnx : ∀ (σ1 σ2 : hM) (H : Heap) (L0 : List Loc) (ls : Array Slot), Cpl σ1 σ2 → h_L E s.heap.size s.heap σ1 σ2 H L0 → lv_has ls 4 [(0, .ref b), (1, .ref (s.heap.size + 0)), (2, .ref (s.heap.size + 101 + 0)), (3, .int v3)] → W p l e room_1 s m #[Value.ref b] below meth c H L0 600000 7302249 (lw_Z below #[Value.ref b] s) (F0 m 1151 ls [])) : W p l e room_1 s m #[Value.ref b] below meth c H L0 600000 7302249 (lw_Z below #[Value.ref b] s) (F0 m 957 ls []) := by
  obtain ⟨hx, hb, hr, hml, hts, hown, hlk, hX, hXs, hbl⟩ := hΓ
  have hbA : ¬ (fun q : Nat => s.heap.size ≤ q) b := Nat.not_le.mpr hbl
  obtain ⟨r, σ1b, σ2b, h1, h2, hc2⟩ := hst σ1 σ2 hc (xs (v3 + (1 : Int32)).toNatClampNeg)
  refine lv_aload_n hx hb dL_law_957 rfl (lv_at hl 1 rfl) ?_
  refine lv_aload_n hx hb dL_law_958 rfl (lv_at hl 0 rfl) ?_
  refine lv_iload_n hx hb dL_law_959 rfl (lv_at hl 3 rfl) ?_
  refine lv_iconst (v := 1) hx hb dL_law_960 (by decide) ?_
  refine lv_iadd hx hb dL_law_961 ?_
  refine va_sld hx hb hXs hbl hbA hw.2.2.1 hi1 dL_law_962 ?_
  refine l_c1i (As := [.int (xs (v3 + (1 : Int32)).toNatClampNeg)]) (rest := []) h1 hx hb hml hts hown hX hw myX8_ends miX8_ends lkL_142 rfl (fun q hq => c_X8_ends l E s.heap.size kT1 0 (xs (v3 + (1 : Int32)).toNatClampNeg) σ1 hq) ⟨Nat.le_of_ble_eq_true rfl, Nat.le_of_ble_eq_true rfl⟩ ⟨Nat.le_of_ble_eq_true rfl, Nat.le_of_ble_eq_true rfl⟩ rfl hl.1 rfl (Nat.le_of_ble_eq_true rfl) dL_law_963 (fun H1 L1 hw => ?_)
  refine lv_aload_n hx hb dL_law_966 rfl (lv_at hl 2 rfl) ?_
  refine lv_aload_n hx hb dL_law_967 rfl (lv_at hl 0 rfl) ?_
  refine lv_iload_n hx hb dL_law_968 rfl (lv_at hl 3 rfl) ?_
  refine lv_iconst (v := 1) hx hb dL_law_969 (by decide) ?_
  refine lv_iadd hx hb dL_law_970 ?_
  refine va_sld hx hb hXs hbl hbA hw.2.2.1 hi1 dL_law_971 ?_
  refine l_c2i (As := [.int (xs (v3 + (1 : Int32)).toNatClampNeg)]) (rest := [.int r]) h2 hx hb hml hts hown hX hw myX9_ends miX9_ends lkL_145 rfl (fun q hq => c_X9_ends l E (s.heap.size + 101) kT2 0 (xs (v3 + (1 : Int32)).toNatClampNeg) σ2 hq) ⟨Nat.le_of_ble_eq_true rfl, Nat.le_of_ble_eq_true rfl⟩ ⟨Nat.le_of_ble_eq_true rfl, Nat.le_of_ble_eq_true rfl⟩ rfl hl.1 rfl (Nat.le_of_ble_eq_true rfl) dL_law_972 (fun H2 L2 hw => ?_)
  refine lv_icmp_eq (tgt := 1151) hx hb dL_law_975 (by decide) (fun hq => ?_) (fun hq => absurd rfl hq)
  exact hnx _ _ _ _ _ hc2 hw (lv_sub hl [0, 1, 2, 3] rfl)
set_option maxRecDepth 100000 in
set_option maxHeartbeats 4000000 in
theorem law_round {Cpl : hM → hM → Prop} (hst : st_round Cpl) (hΓ : l_Γ E p s m meth c b L xs) {v3 : Int32} (hi1 : vp_in (v3 + (1 : Int32)) L) (hi2 : vp_in (v3 + (2 : Int32)) L) (hi3 : vp_in (v3 + (3 : Int32)) L) (hi4 : vp_in (v3 + (4 : Int32)) L) {σ1 σ2 : hM} {H : Heap} {L0 : List Loc} {ls : Array Slot} (hc : Cpl σ1 σ2) (hw : h_L E s.heap.size s.heap σ1 σ2 H L0) (hl : lv_has ls 4 [(0, .ref b), (1, .ref (s.heap.size + 0)), (2, .ref (s.heap.size + 101 + 0)), (3, .int v3)]) (hnx : ∀ (σ1 σ2 : hM) (H : Heap) (L0 : List Loc) (ls : Array Slot), Cpl σ1 σ2 → h_L E s.heap.size s.heap σ1 σ2 H L0 → lv_has ls 4 [(0, .ref b), (1, .ref (s.heap.size + 0)), (2, .ref (s.heap.size + 101 + 0)), (3, .int v3)] → W p l e room_1 s m #[Value.ref b] below meth c H L0 600000 7302249 (lw_Z below #[Value.ref b] s) (F0 m 1151 ls [])) : W p l e room_1 s m #[Value.ref b] below meth c H L0 600000 7302249 (lw_Z below #[Value.ref b] s) (F0 m 980 ls []) := by
  obtain ⟨hx, hb, hr, hml, hts, hown, hlk, hX, hXs, hbl⟩ := hΓ
  have hbA : ¬ (fun q : Nat => s.heap.size ≤ q) b := Nat.not_le.mpr hbl
  obtain ⟨r, σ1b, σ2b, h1, h2, hc2⟩ := hst σ1 σ2 hc (xs (v3 + (1 : Int32)).toNatClampNeg) (xs (v3 + (2 : Int32)).toNatClampNeg) (xs (v3 + (3 : Int32)).toNatClampNeg) (xs (v3 + (4 : Int32)).toNatClampNeg)
  refine lv_aload_n hx hb dL_law_980 rfl (lv_at hl 1 rfl) ?_
  refine lv_aload_n hx hb dL_law_981 rfl (lv_at hl 0 rfl) ?_
  refine lv_iload_n hx hb dL_law_982 rfl (lv_at hl 3 rfl) ?_
  refine lv_iconst (v := 1) hx hb dL_law_983 (by decide) ?_
  refine lv_iadd hx hb dL_law_984 ?_
  refine va_sld hx hb hXs hbl hbA hw.2.2.1 hi1 dL_law_985 ?_
  refine lv_aload_n hx hb dL_law_986 rfl (lv_at hl 0 rfl) ?_
  refine lv_iload_n hx hb dL_law_987 rfl (lv_at hl 3 rfl) ?_
  refine lv_iconst (v := 2) hx hb dL_law_988 (by decide) ?_
  refine lv_iadd hx hb dL_law_989 ?_
  refine va_sld hx hb hXs hbl hbA hw.2.2.1 hi2 dL_law_990 ?_
  refine lv_aload_n hx hb dL_law_991 rfl (lv_at hl 0 rfl) ?_
  refine lv_iload_n hx hb dL_law_992 rfl (lv_at hl 3 rfl) ?_
  refine lv_iconst (v := 3) hx hb dL_law_993 (by decide) ?_
  refine lv_iadd hx hb dL_law_994 ?_
  refine va_sld hx hb hXs hbl hbA hw.2.2.1 hi3 dL_law_995 ?_
  refine lv_aload_n hx hb dL_law_996 rfl (lv_at hl 0 rfl) ?_
  refine lv_iload_n hx hb dL_law_997 rfl (lv_at hl 3 rfl) ?_
  refine lv_iconst (v := 4) hx hb dL_law_998 (by decide) ?_
  refine lv_iadd hx hb dL_law_999 ?_
  refine va_sld hx hb hXs hbl hbA hw.2.2.1 hi4 dL_law_1000 ?_
  refine l_c1i (As := [.int (xs (v3 + (1 : Int32)).toNatClampNeg), .int (xs (v3 + (2 : Int32)).toNatClampNeg), .int (xs (v3 + (3 : Int32)).toNatClampNeg), .int (xs (v3 + (4 : Int32)).toNatClampNeg)]) (rest := []) h1 hx hb hml hts hown hX hw myX8_round miX8_round lkL_146 rfl (fun q hq => c_X8_round l E s.heap.size kT1 0 (xs (v3 + (1 : Int32)).toNatClampNeg) (xs (v3 + (2 : Int32)).toNatClampNeg) (xs (v3 + (3 : Int32)).toNatClampNeg) (xs (v3 + (4 : Int32)).toNatClampNeg) σ1 hq) ⟨Nat.le_of_ble_eq_true rfl, Nat.le_of_ble_eq_true rfl⟩ ⟨Nat.le_of_ble_eq_true rfl, Nat.le_of_ble_eq_true rfl⟩ rfl hl.1 rfl (Nat.le_of_ble_eq_true rfl) dL_law_1001 (fun H1 L1 hw => ?_)
  refine lv_aload_n hx hb dL_law_1004 rfl (lv_at hl 2 rfl) ?_
  refine lv_aload_n hx hb dL_law_1005 rfl (lv_at hl 0 rfl) ?_
  refine lv_iload_n hx hb dL_law_1006 rfl (lv_at hl 3 rfl) ?_
  refine lv_iconst (v := 1) hx hb dL_law_1007 (by decide) ?_
  refine lv_iadd hx hb dL_law_1008 ?_
  refine va_sld hx hb hXs hbl hbA hw.2.2.1 hi1 dL_law_1009 ?_
  refine lv_aload_n hx hb dL_law_1010 rfl (lv_at hl 0 rfl) ?_
  refine lv_iload_n hx hb dL_law_1011 rfl (lv_at hl 3 rfl) ?_
  refine lv_iconst (v := 2) hx hb dL_law_1012 (by decide) ?_
  refine lv_iadd hx hb dL_law_1013 ?_
  refine va_sld hx hb hXs hbl hbA hw.2.2.1 hi2 dL_law_1014 ?_
  refine lv_aload_n hx hb dL_law_1015 rfl (lv_at hl 0 rfl) ?_
  refine lv_iload_n hx hb dL_law_1016 rfl (lv_at hl 3 rfl) ?_
  refine lv_iconst (v := 3) hx hb dL_law_1017 (by decide) ?_
  refine lv_iadd hx hb dL_law_1018 ?_
  refine va_sld hx hb hXs hbl hbA hw.2.2.1 hi3 dL_law_1019 ?_
  refine lv_aload_n hx hb dL_law_1020 rfl (lv_at hl 0 rfl) ?_
  refine lv_iload_n hx hb dL_law_1021 rfl (lv_at hl 3 rfl) ?_
  refine lv_iconst (v := 4) hx hb dL_law_1022 (by decide) ?_
  refine lv_iadd hx hb dL_law_1023 ?_
  refine va_sld hx hb hXs hbl hbA hw.2.2.1 hi4 dL_law_1024 ?_
  refine l_c2i (As := [.int (xs (v3 + (1 : Int32)).toNatClampNeg), .int (xs (v3 + (2 : Int32)).toNatClampNeg), .int (xs (v3 + (3 : Int32)).toNatClampNeg), .int (xs (v3 + (4 : Int32)).toNatClampNeg)]) (rest := [.int r]) h2 hx hb hml hts hown hX hw myX9_round miX9_round lkL_150 rfl (fun q hq => c_X9_round l E (s.heap.size + 101) kT2 0 (xs (v3 + (1 : Int32)).toNatClampNeg) (xs (v3 + (2 : Int32)).toNatClampNeg) (xs (v3 + (3 : Int32)).toNatClampNeg) (xs (v3 + (4 : Int32)).toNatClampNeg) σ2 hq) ⟨Nat.le_of_ble_eq_true rfl, Nat.le_of_ble_eq_true rfl⟩ ⟨Nat.le_of_ble_eq_true rfl, Nat.le_of_ble_eq_true rfl⟩ rfl hl.1 rfl (Nat.le_of_ble_eq_true rfl) dL_law_1025 (fun H2 L2 hw => ?_)
  refine lv_icmp_eq (tgt := 1151) hx hb dL_law_1028 (by decide) (fun hq => ?_) (fun hq => absurd rfl hq)
  exact hnx _ _ _ _ _ hc2 hw (lv_sub hl [0, 1, 2, 3] rfl)
set_option maxRecDepth 100000 in
set_option maxHeartbeats 4000000 in
theorem law_write {Cpl : hM → hM → Prop} (hst : st_write Cpl) (hΓ : l_Γ E p s m meth c b L xs) {v3 : Int32} (hi1 : vp_in (v3 + (1 : Int32)) L) (hi2 : vp_in (v3 + (2 : Int32)) L) (hi3 : vp_in (v3 + (3 : Int32)) L) (hi4 : vp_in (v3 + (4 : Int32)) L) {σ1 σ2 : hM} {H : Heap} {L0 : List Loc} {ls : Array Slot} (hc : Cpl σ1 σ2) (hw : h_L E s.heap.size s.heap σ1 σ2 H L0) (hl : lv_has ls 4 [(0, .ref b), (1, .ref (s.heap.size + 0)), (2, .ref (s.heap.size + 101 + 0)), (3, .int v3)]) (hnx : ∀ (σ1 σ2 : hM) (H : Heap) (L0 : List Loc) (ls : Array Slot), Cpl σ1 σ2 → h_L E s.heap.size s.heap σ1 σ2 H L0 → lv_has ls 4 [(0, .ref b), (1, .ref (s.heap.size + 0)), (2, .ref (s.heap.size + 101 + 0)), (3, .int v3)] → W p l e room_1 s m #[Value.ref b] below meth c H L0 600000 7302249 (lw_Z below #[Value.ref b] s) (F0 m 1151 ls [])) : W p l e room_1 s m #[Value.ref b] below meth c H L0 600000 7302249 (lw_Z below #[Value.ref b] s) (F0 m 1033 ls []) := by
  obtain ⟨hx, hb, hr, hml, hts, hown, hlk, hX, hXs, hbl⟩ := hΓ
  have hbA : ¬ (fun q : Nat => s.heap.size ≤ q) b := Nat.not_le.mpr hbl
  obtain ⟨r, σ1b, σ2b, h1, h2, hc2⟩ := hst σ1 σ2 hc (xs (v3 + (1 : Int32)).toNatClampNeg)
  refine lv_aload_n hx hb dL_law_1033 rfl (lv_at hl 1 rfl) ?_
  refine lv_aload_n hx hb dL_law_1034 rfl (lv_at hl 0 rfl) ?_
  refine lv_iload_n hx hb dL_law_1035 rfl (lv_at hl 3 rfl) ?_
  refine lv_iconst (v := 1) hx hb dL_law_1036 (by decide) ?_
  refine lv_iadd hx hb dL_law_1037 ?_
  refine va_sld hx hb hXs hbl hbA hw.2.2.1 hi1 dL_law_1038 ?_
  refine l_c1i (As := [.int (xs (v3 + (1 : Int32)).toNatClampNeg)]) (rest := []) h1 hx hb hml hts hown hX hw myX8_write miX8_write lkL_151 rfl (fun q hq => c_X8_write l E s.heap.size kT1 0 (xs (v3 + (1 : Int32)).toNatClampNeg) σ1 hq) ⟨Nat.le_of_ble_eq_true rfl, Nat.le_of_ble_eq_true rfl⟩ ⟨Nat.le_of_ble_eq_true rfl, Nat.le_of_ble_eq_true rfl⟩ rfl hl.1 rfl (Nat.le_of_ble_eq_true rfl) dL_law_1039 (fun H1 L1 hw => ?_)
  refine lv_aload_n hx hb dL_law_1042 rfl (lv_at hl 2 rfl) ?_
  refine lv_aload_n hx hb dL_law_1043 rfl (lv_at hl 0 rfl) ?_
  refine lv_iload_n hx hb dL_law_1044 rfl (lv_at hl 3 rfl) ?_
  refine lv_iconst (v := 1) hx hb dL_law_1045 (by decide) ?_
  refine lv_iadd hx hb dL_law_1046 ?_
  refine va_sld hx hb hXs hbl hbA hw.2.2.1 hi1 dL_law_1047 ?_
  refine l_c2i (As := [.int (xs (v3 + (1 : Int32)).toNatClampNeg)]) (rest := [.int r]) h2 hx hb hml hts hown hX hw myX9_write miX9_write lkL_154 rfl (fun q hq => c_X9_write l E (s.heap.size + 101) kT2 0 (xs (v3 + (1 : Int32)).toNatClampNeg) σ2 hq) ⟨Nat.le_of_ble_eq_true rfl, Nat.le_of_ble_eq_true rfl⟩ ⟨Nat.le_of_ble_eq_true rfl, Nat.le_of_ble_eq_true rfl⟩ rfl hl.1 rfl (Nat.le_of_ble_eq_true rfl) dL_law_1048 (fun H2 L2 hw => ?_)
  refine lv_icmp_eq (tgt := 1151) hx hb dL_law_1051 (by decide) (fun hq => ?_) (fun hq => absurd rfl hq)
  exact hnx _ _ _ _ _ hc2 hw (lv_sub hl [0, 1, 2, 3] rfl)
set_option maxRecDepth 100000 in
set_option maxHeartbeats 4000000 in
theorem law_tear {Cpl : hM → hM → Prop} (hst : st_tear Cpl) (hΓ : l_Γ E p s m meth c b L xs) {v3 : Int32} (hi1 : vp_in (v3 + (1 : Int32)) L) (hi2 : vp_in (v3 + (2 : Int32)) L) (hi3 : vp_in (v3 + (3 : Int32)) L) (hi4 : vp_in (v3 + (4 : Int32)) L) {σ1 σ2 : hM} {H : Heap} {L0 : List Loc} {ls : Array Slot} (hc : Cpl σ1 σ2) (hw : h_L E s.heap.size s.heap σ1 σ2 H L0) (hl : lv_has ls 4 [(0, .ref b), (1, .ref (s.heap.size + 0)), (2, .ref (s.heap.size + 101 + 0)), (3, .int v3)]) (hnx : ∀ (σ1 σ2 : hM) (H : Heap) (L0 : List Loc) (ls : Array Slot), Cpl σ1 σ2 → h_L E s.heap.size s.heap σ1 σ2 H L0 → lv_has ls 4 [(0, .ref b), (1, .ref (s.heap.size + 0)), (2, .ref (s.heap.size + 101 + 0)), (3, .int v3)] → W p l e room_1 s m #[Value.ref b] below meth c H L0 600000 7302249 (lw_Z below #[Value.ref b] s) (F0 m 1151 ls [])) : W p l e room_1 s m #[Value.ref b] below meth c H L0 600000 7302249 (lw_Z below #[Value.ref b] s) (F0 m 1056 ls []) := by
  obtain ⟨hx, hb, hr, hml, hts, hown, hlk, hX, hXs, hbl⟩ := hΓ
  have hbA : ¬ (fun q : Nat => s.heap.size ≤ q) b := Nat.not_le.mpr hbl
  obtain ⟨r, σ1b, σ2b, h1, h2, hc2⟩ := hst σ1 σ2 hc 
  refine lv_aload_n hx hb dL_law_1056 rfl (lv_at hl 1 rfl) ?_
  refine l_c1i (As := []) (rest := []) h1 hx hb hml hts hown hX hw myX8_tear miX8_tear lkL_155 rfl (fun q hq => c_X8_tear l E s.heap.size kT1 0  σ1 hq) ⟨Nat.le_of_ble_eq_true rfl, Nat.le_of_ble_eq_true rfl⟩ ⟨Nat.le_of_ble_eq_true rfl, Nat.le_of_ble_eq_true rfl⟩ rfl hl.1 rfl (Nat.le_of_ble_eq_true rfl) dL_law_1057 (fun H1 L1 hw => ?_)
  refine lv_aload_n hx hb dL_law_1060 rfl (lv_at hl 2 rfl) ?_
  refine l_c2i (As := []) (rest := [.int r]) h2 hx hb hml hts hown hX hw myX9_tear miX9_tear lkL_158 rfl (fun q hq => c_X9_tear l E (s.heap.size + 101) kT2 0  σ2 hq) ⟨Nat.le_of_ble_eq_true rfl, Nat.le_of_ble_eq_true rfl⟩ ⟨Nat.le_of_ble_eq_true rfl, Nat.le_of_ble_eq_true rfl⟩ rfl hl.1 rfl (Nat.le_of_ble_eq_true rfl) dL_law_1061 (fun H2 L2 hw => ?_)
  refine lv_icmp_eq (tgt := 1151) hx hb dL_law_1064 (by decide) (fun hq => ?_) (fun hq => absurd rfl hq)
  exact hnx _ _ _ _ _ hc2 hw (lv_sub hl [0, 1, 2, 3] rfl)
set_option maxRecDepth 100000 in
set_option maxHeartbeats 4000000 in
theorem law_judge {Cpl : hM → hM → Prop} (hst : st_judge Cpl) (hΓ : l_Γ E p s m meth c b L xs) {v3 : Int32} (hi1 : vp_in (v3 + (1 : Int32)) L) (hi2 : vp_in (v3 + (2 : Int32)) L) (hi3 : vp_in (v3 + (3 : Int32)) L) (hi4 : vp_in (v3 + (4 : Int32)) L) {σ1 σ2 : hM} {H : Heap} {L0 : List Loc} {ls : Array Slot} (hc : Cpl σ1 σ2) (hw : h_L E s.heap.size s.heap σ1 σ2 H L0) (hl : lv_has ls 4 [(0, .ref b), (1, .ref (s.heap.size + 0)), (2, .ref (s.heap.size + 101 + 0)), (3, .int v3)]) (hnx : ∀ (σ1 σ2 : hM) (H : Heap) (L0 : List Loc) (ls : Array Slot), Cpl σ1 σ2 → h_L E s.heap.size s.heap σ1 σ2 H L0 → lv_has ls 4 [(0, .ref b), (1, .ref (s.heap.size + 0)), (2, .ref (s.heap.size + 101 + 0)), (3, .int v3)] → W p l e room_1 s m #[Value.ref b] below meth c H L0 600000 7302249 (lw_Z below #[Value.ref b] s) (F0 m 1151 ls [])) : W p l e room_1 s m #[Value.ref b] below meth c H L0 600000 7302249 (lw_Z below #[Value.ref b] s) (F0 m 1069 ls []) := by
  obtain ⟨hx, hb, hr, hml, hts, hown, hlk, hX, hXs, hbl⟩ := hΓ
  have hbA : ¬ (fun q : Nat => s.heap.size ≤ q) b := Nat.not_le.mpr hbl
  obtain ⟨r, σ1b, σ2b, h1, h2, hc2⟩ := hst σ1 σ2 hc 
  refine lv_aload_n hx hb dL_law_1069 rfl (lv_at hl 1 rfl) ?_
  refine l_c1i (As := []) (rest := []) h1 hx hb hml hts hown hX hw myX8_judge miX8_judge lkL_159 rfl (fun q hq => c_X8_judge l E s.heap.size kT1 0  σ1 hq) ⟨Nat.le_of_ble_eq_true rfl, Nat.le_of_ble_eq_true rfl⟩ ⟨Nat.le_of_ble_eq_true rfl, Nat.le_of_ble_eq_true rfl⟩ rfl hl.1 rfl (Nat.le_of_ble_eq_true rfl) dL_law_1070 (fun H1 L1 hw => ?_)
  refine lv_aload_n hx hb dL_law_1073 rfl (lv_at hl 2 rfl) ?_
  refine l_c2i (As := []) (rest := [.int r]) h2 hx hb hml hts hown hX hw myX9_judge miX9_judge lkL_162 rfl (fun q hq => c_X9_judge l E (s.heap.size + 101) kT2 0  σ2 hq) ⟨Nat.le_of_ble_eq_true rfl, Nat.le_of_ble_eq_true rfl⟩ ⟨Nat.le_of_ble_eq_true rfl, Nat.le_of_ble_eq_true rfl⟩ rfl hl.1 rfl (Nat.le_of_ble_eq_true rfl) dL_law_1074 (fun H2 L2 hw => ?_)
  refine lv_icmp_eq (tgt := 1151) hx hb dL_law_1077 (by decide) (fun hq => ?_) (fun hq => absurd rfl hq)
  exact hnx _ _ _ _ _ hc2 hw (lv_sub hl [0, 1, 2, 3] rfl)
set_option maxRecDepth 100000 in
set_option maxHeartbeats 4000000 in
theorem law_seed {Cpl : hM → hM → Prop} (hst : st_seed Cpl) (hΓ : l_Γ E p s m meth c b L xs) {v3 : Int32} (hi1 : vp_in (v3 + (1 : Int32)) L) (hi2 : vp_in (v3 + (2 : Int32)) L) (hi3 : vp_in (v3 + (3 : Int32)) L) (hi4 : vp_in (v3 + (4 : Int32)) L) {σ1 σ2 : hM} {H : Heap} {L0 : List Loc} {ls : Array Slot} (hc : Cpl σ1 σ2) (hw : h_L E s.heap.size s.heap σ1 σ2 H L0) (hl : lv_has ls 4 [(0, .ref b), (1, .ref (s.heap.size + 0)), (2, .ref (s.heap.size + 101 + 0)), (3, .int v3)]) (hnx : ∀ (σ1 σ2 : hM) (H : Heap) (L0 : List Loc) (ls : Array Slot), Cpl σ1 σ2 → h_L E s.heap.size s.heap σ1 σ2 H L0 → lv_has ls 4 [(0, .ref b), (1, .ref (s.heap.size + 0)), (2, .ref (s.heap.size + 101 + 0)), (3, .int v3)] → W p l e room_1 s m #[Value.ref b] below meth c H L0 600000 7302249 (lw_Z below #[Value.ref b] s) (F0 m 1151 ls [])) : W p l e room_1 s m #[Value.ref b] below meth c H L0 600000 7302249 (lw_Z below #[Value.ref b] s) (F0 m 1082 ls []) := by
  obtain ⟨hx, hb, hr, hml, hts, hown, hlk, hX, hXs, hbl⟩ := hΓ
  have hbA : ¬ (fun q : Nat => s.heap.size ≤ q) b := Nat.not_le.mpr hbl
  obtain ⟨r, σ1b, σ2b, h1, h2, hc2⟩ := hst σ1 σ2 hc (xs (v3 + (1 : Int32)).toNatClampNeg)
  refine lv_aload_n hx hb dL_law_1082 rfl (lv_at hl 1 rfl) ?_
  refine lv_aload_n hx hb dL_law_1083 rfl (lv_at hl 0 rfl) ?_
  refine lv_iload_n hx hb dL_law_1084 rfl (lv_at hl 3 rfl) ?_
  refine lv_iconst (v := 1) hx hb dL_law_1085 (by decide) ?_
  refine lv_iadd hx hb dL_law_1086 ?_
  refine va_sld hx hb hXs hbl hbA hw.2.2.1 hi1 dL_law_1087 ?_
  refine l_c1i (As := [.int (xs (v3 + (1 : Int32)).toNatClampNeg)]) (rest := []) h1 hx hb hml hts hown hX hw myX8_seed miX8_seed lkL_163 rfl (fun q hq => c_X8_seed l E s.heap.size kT1 0 (xs (v3 + (1 : Int32)).toNatClampNeg) σ1 hq) ⟨Nat.le_of_ble_eq_true rfl, Nat.le_of_ble_eq_true rfl⟩ ⟨Nat.le_of_ble_eq_true rfl, Nat.le_of_ble_eq_true rfl⟩ rfl hl.1 rfl (Nat.le_of_ble_eq_true rfl) dL_law_1088 (fun H1 L1 hw => ?_)
  refine lv_aload_n hx hb dL_law_1091 rfl (lv_at hl 2 rfl) ?_
  refine lv_aload_n hx hb dL_law_1092 rfl (lv_at hl 0 rfl) ?_
  refine lv_iload_n hx hb dL_law_1093 rfl (lv_at hl 3 rfl) ?_
  refine lv_iconst (v := 1) hx hb dL_law_1094 (by decide) ?_
  refine lv_iadd hx hb dL_law_1095 ?_
  refine va_sld hx hb hXs hbl hbA hw.2.2.1 hi1 dL_law_1096 ?_
  refine l_c2i (As := [.int (xs (v3 + (1 : Int32)).toNatClampNeg)]) (rest := [.int r]) h2 hx hb hml hts hown hX hw myX9_seed miX9_seed lkL_166 rfl (fun q hq => c_X9_seed l E (s.heap.size + 101) kT2 0 (xs (v3 + (1 : Int32)).toNatClampNeg) σ2 hq) ⟨Nat.le_of_ble_eq_true rfl, Nat.le_of_ble_eq_true rfl⟩ ⟨Nat.le_of_ble_eq_true rfl, Nat.le_of_ble_eq_true rfl⟩ rfl hl.1 rfl (Nat.le_of_ble_eq_true rfl) dL_law_1097 (fun H2 L2 hw => ?_)
  refine lv_icmp_eq (tgt := 1151) hx hb dL_law_1100 (by decide) (fun hq => ?_) (fun hq => absurd rfl hq)
  exact hnx _ _ _ _ _ hc2 hw (lv_sub hl [0, 1, 2, 3] rfl)
set_option maxRecDepth 100000 in
set_option maxHeartbeats 4000000 in
theorem law_keep {Cpl : hM → hM → Prop} (hst : st_keep Cpl) (hΓ : l_Γ E p s m meth c b L xs) {v3 : Int32} (hi1 : vp_in (v3 + (1 : Int32)) L) (hi2 : vp_in (v3 + (2 : Int32)) L) (hi3 : vp_in (v3 + (3 : Int32)) L) (hi4 : vp_in (v3 + (4 : Int32)) L) {σ1 σ2 : hM} {H : Heap} {L0 : List Loc} {ls : Array Slot} (hc : Cpl σ1 σ2) (hw : h_L E s.heap.size s.heap σ1 σ2 H L0) (hl : lv_has ls 4 [(0, .ref b), (1, .ref (s.heap.size + 0)), (2, .ref (s.heap.size + 101 + 0)), (3, .int v3)]) (hnx : ∀ (σ1 σ2 : hM) (H : Heap) (L0 : List Loc) (ls : Array Slot), Cpl σ1 σ2 → h_L E s.heap.size s.heap σ1 σ2 H L0 → lv_has ls 4 [(0, .ref b), (1, .ref (s.heap.size + 0)), (2, .ref (s.heap.size + 101 + 0)), (3, .int v3)] → W p l e room_1 s m #[Value.ref b] below meth c H L0 600000 7302249 (lw_Z below #[Value.ref b] s) (F0 m 1151 ls [])) : W p l e room_1 s m #[Value.ref b] below meth c H L0 600000 7302249 (lw_Z below #[Value.ref b] s) (F0 m 1105 ls []) := by
  obtain ⟨hx, hb, hr, hml, hts, hown, hlk, hX, hXs, hbl⟩ := hΓ
  have hbA : ¬ (fun q : Nat => s.heap.size ≤ q) b := Nat.not_le.mpr hbl
  obtain ⟨r, σ1b, σ2b, h1, h2, hc2⟩ := hst σ1 σ2 hc (xs (v3 + (1 : Int32)).toNatClampNeg)
  refine lv_aload_n hx hb dL_law_1105 rfl (lv_at hl 1 rfl) ?_
  refine lv_aload_n hx hb dL_law_1106 rfl (lv_at hl 0 rfl) ?_
  refine lv_iload_n hx hb dL_law_1107 rfl (lv_at hl 3 rfl) ?_
  refine lv_iconst (v := 1) hx hb dL_law_1108 (by decide) ?_
  refine lv_iadd hx hb dL_law_1109 ?_
  refine va_sld hx hb hXs hbl hbA hw.2.2.1 hi1 dL_law_1110 ?_
  refine l_c1i (As := [.int (xs (v3 + (1 : Int32)).toNatClampNeg)]) (rest := []) h1 hx hb hml hts hown hX hw myX8_keep miX8_keep lkL_167 rfl (fun q hq => c_X8_keep l E s.heap.size kT1 0 (xs (v3 + (1 : Int32)).toNatClampNeg) σ1 hq) ⟨Nat.le_of_ble_eq_true rfl, Nat.le_of_ble_eq_true rfl⟩ ⟨Nat.le_of_ble_eq_true rfl, Nat.le_of_ble_eq_true rfl⟩ rfl hl.1 rfl (Nat.le_of_ble_eq_true rfl) dL_law_1111 (fun H1 L1 hw => ?_)
  refine lv_aload_n hx hb dL_law_1114 rfl (lv_at hl 2 rfl) ?_
  refine lv_aload_n hx hb dL_law_1115 rfl (lv_at hl 0 rfl) ?_
  refine lv_iload_n hx hb dL_law_1116 rfl (lv_at hl 3 rfl) ?_
  refine lv_iconst (v := 1) hx hb dL_law_1117 (by decide) ?_
  refine lv_iadd hx hb dL_law_1118 ?_
  refine va_sld hx hb hXs hbl hbA hw.2.2.1 hi1 dL_law_1119 ?_
  refine l_c2i (As := [.int (xs (v3 + (1 : Int32)).toNatClampNeg)]) (rest := [.int r]) h2 hx hb hml hts hown hX hw myX9_keep miX9_keep lkL_170 rfl (fun q hq => c_X9_keep l E (s.heap.size + 101) kT2 0 (xs (v3 + (1 : Int32)).toNatClampNeg) σ2 hq) ⟨Nat.le_of_ble_eq_true rfl, Nat.le_of_ble_eq_true rfl⟩ ⟨Nat.le_of_ble_eq_true rfl, Nat.le_of_ble_eq_true rfl⟩ rfl hl.1 rfl (Nat.le_of_ble_eq_true rfl) dL_law_1120 (fun H2 L2 hw => ?_)
  refine lv_icmp_eq (tgt := 1151) hx hb dL_law_1123 (by decide) (fun hq => ?_) (fun hq => absurd rfl hq)
  exact hnx _ _ _ _ _ hc2 hw (lv_sub hl [0, 1, 2, 3] rfl)
set_option maxRecDepth 100000 in
set_option maxHeartbeats 4000000 in
theorem law_goBack {Cpl : hM → hM → Prop} (hst : st_goBack Cpl) (hΓ : l_Γ E p s m meth c b L xs) {v3 : Int32} (hi1 : vp_in (v3 + (1 : Int32)) L) (hi2 : vp_in (v3 + (2 : Int32)) L) (hi3 : vp_in (v3 + (3 : Int32)) L) (hi4 : vp_in (v3 + (4 : Int32)) L) {σ1 σ2 : hM} {H : Heap} {L0 : List Loc} {ls : Array Slot} (hc : Cpl σ1 σ2) (hw : h_L E s.heap.size s.heap σ1 σ2 H L0) (hl : lv_has ls 4 [(0, .ref b), (1, .ref (s.heap.size + 0)), (2, .ref (s.heap.size + 101 + 0)), (3, .int v3)]) (hnx : ∀ (σ1 σ2 : hM) (H : Heap) (L0 : List Loc) (ls : Array Slot), Cpl σ1 σ2 → h_L E s.heap.size s.heap σ1 σ2 H L0 → lv_has ls 4 [(0, .ref b), (1, .ref (s.heap.size + 0)), (2, .ref (s.heap.size + 101 + 0)), (3, .int v3)] → W p l e room_1 s m #[Value.ref b] below meth c H L0 600000 7302249 (lw_Z below #[Value.ref b] s) (F0 m 1151 ls [])) : W p l e room_1 s m #[Value.ref b] below meth c H L0 600000 7302249 (lw_Z below #[Value.ref b] s) (F0 m 1128 ls []) := by
  obtain ⟨hx, hb, hr, hml, hts, hown, hlk, hX, hXs, hbl⟩ := hΓ
  have hbA : ¬ (fun q : Nat => s.heap.size ≤ q) b := Nat.not_le.mpr hbl
  obtain ⟨r, σ1b, σ2b, h1, h2, hc2⟩ := hst σ1 σ2 hc (xs (v3 + (1 : Int32)).toNatClampNeg)
  refine lv_aload_n hx hb dL_law_1128 rfl (lv_at hl 1 rfl) ?_
  refine lv_aload_n hx hb dL_law_1129 rfl (lv_at hl 0 rfl) ?_
  refine lv_iload_n hx hb dL_law_1130 rfl (lv_at hl 3 rfl) ?_
  refine lv_iconst (v := 1) hx hb dL_law_1131 (by decide) ?_
  refine lv_iadd hx hb dL_law_1132 ?_
  refine va_sld hx hb hXs hbl hbA hw.2.2.1 hi1 dL_law_1133 ?_
  refine l_c1i (As := [.int (xs (v3 + (1 : Int32)).toNatClampNeg)]) (rest := []) h1 hx hb hml hts hown hX hw myX8_goBack miX8_goBack lkL_171 rfl (fun q hq => c_X8_goBack l E s.heap.size kT1 0 (xs (v3 + (1 : Int32)).toNatClampNeg) σ1 hq) ⟨Nat.le_of_ble_eq_true rfl, Nat.le_of_ble_eq_true rfl⟩ ⟨Nat.le_of_ble_eq_true rfl, Nat.le_of_ble_eq_true rfl⟩ rfl hl.1 rfl (Nat.le_of_ble_eq_true rfl) dL_law_1134 (fun H1 L1 hw => ?_)
  refine lv_aload_n hx hb dL_law_1137 rfl (lv_at hl 2 rfl) ?_
  refine lv_aload_n hx hb dL_law_1138 rfl (lv_at hl 0 rfl) ?_
  refine lv_iload_n hx hb dL_law_1139 rfl (lv_at hl 3 rfl) ?_
  refine lv_iconst (v := 1) hx hb dL_law_1140 (by decide) ?_
  refine lv_iadd hx hb dL_law_1141 ?_
  refine va_sld hx hb hXs hbl hbA hw.2.2.1 hi1 dL_law_1142 ?_
  refine l_c2i (As := [.int (xs (v3 + (1 : Int32)).toNatClampNeg)]) (rest := [.int r]) h2 hx hb hml hts hown hX hw myX9_goBack miX9_goBack lkL_174 rfl (fun q hq => c_X9_goBack l E (s.heap.size + 101) kT2 0 (xs (v3 + (1 : Int32)).toNatClampNeg) σ2 hq) ⟨Nat.le_of_ble_eq_true rfl, Nat.le_of_ble_eq_true rfl⟩ ⟨Nat.le_of_ble_eq_true rfl, Nat.le_of_ble_eq_true rfl⟩ rfl hl.1 rfl (Nat.le_of_ble_eq_true rfl) dL_law_1143 (fun H2 L2 hw => ?_)
  refine lv_icmp_eq (tgt := 1151) hx hb dL_law_1146 (by decide) (fun hq => ?_) (fun hq => absurd rfl hq)
  exact hnx _ _ _ _ _ hc2 hw (lv_sub hl [0, 1, 2, 3] rfl)
end LAWC
