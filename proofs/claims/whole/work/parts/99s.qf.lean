theorem wi_1 : ∀ w ∈ wsL_law_r1, w ∈ lw_tbl := fun w h => (goodIn_p wsL_law_r1 [164, 167] (by decide +kernel) (by decide +kernel) w h).1
theorem wi_2 : ∀ w ∈ wsL_law_r2, w ∈ lw_tbl := fun w h => (goodIn_p wsL_law_r2 [] (by decide +kernel) (by decide +kernel) w h).1
theorem wi_3 : ∀ w ∈ wsL_law_r3, w ∈ lw_tbl := fun w h => (goodIn_p wsL_law_r3 [172, 176, 243] (by decide +kernel) (by decide +kernel) w h).1
theorem wi_4 : ∀ w ∈ wsL_law_r4, w ∈ lw_tbl := fun w h => (goodIn_p wsL_law_r4 [276, 286, 316] (by decide +kernel) (by decide +kernel) w h).1
theorem wi_5 : ∀ w ∈ wsL_law_r5, w ∈ lw_tbl := fun w h => (goodIn_p wsL_law_r5 [322, 411, 432] (by decide +kernel) (by decide +kernel) w h).1
theorem wi_6 : ∀ w ∈ wsL_law_r6, w ∈ lw_tbl := fun w h => (goodIn_p wsL_law_r6 [491, 534, 1292] (by decide +kernel) (by decide +kernel) w h).1
theorem wi_7 : ∀ w ∈ wsL_law_r7, w ∈ lw_tbl := fun w h => (goodIn_p wsL_law_r7 [] (by decide +kernel) (by decide +kernel) w h).1
theorem wi_8 : ∀ w ∈ wsL_law_r8, w ∈ lw_tbl := fun w h => (goodIn_p wsL_law_r8 [590, 594, 1428, 1432] (by decide +kernel) (by decide +kernel) w h).1
theorem wi_9 : ∀ w ∈ wsL_law_r9, w ∈ lw_tbl := fun w h => (goodIn_p wsL_law_r9 [598, 1436, 602, 606, 610] (by decide +kernel) (by decide +kernel) w h).1
theorem wi_10 : ∀ w ∈ wsL_law_r10, w ∈ lw_tbl := fun w h => (goodIn_p wsL_law_r10 [614, 618, 623, 627] (by decide +kernel) (by decide +kernel) w h).1
theorem wi_11 : ∀ w ∈ wsL_law_r11, w ∈ lw_tbl := fun w h => (goodIn_p wsL_law_r11 [631, 637, 641, 644, 647, 652] (by decide +kernel) (by decide +kernel) w h).1
theorem wi_12 : ∀ w ∈ wsL_law_r12, w ∈ lw_tbl := fun w h => (goodIn_p wsL_law_r12 [655, 658, 661, 665, 675] (by decide +kernel) (by decide +kernel) w h).1
theorem wi_13 : ∀ w ∈ wsL_law_r13, w ∈ lw_tbl := fun w h => (goodIn_p wsL_law_r13 [680, 684, 688, 692, 699] (by decide +kernel) (by decide +kernel) w h).1
theorem wi_14 : ∀ w ∈ wsL_law_r14, w ∈ lw_tbl := fun w h => (goodIn_p wsL_law_r14 [696, 703, 707, 711] (by decide +kernel) (by decide +kernel) w h).1
theorem wi_15 : ∀ w ∈ wsL_law_r15, w ∈ lw_tbl := fun w h => (goodIn_p wsL_law_r15 [716, 720, 1599] (by decide +kernel) (by decide +kernel) w h).1
theorem wi_16 : ∀ w ∈ wsL_law_r16, w ∈ lw_tbl := fun w h => (goodIn_p wsL_law_r16 [1444, 1448, 1452, 1456] (by decide +kernel) (by decide +kernel) w h).1
