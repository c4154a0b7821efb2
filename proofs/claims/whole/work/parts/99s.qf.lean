theorem wi_1 : ∀ w ∈ wsL_law_r1, w ∈ lw_tbl := fun w h => (goodIn_p wsL_law_r1 [162, 165] (by decide +kernel) (by decide +kernel) w h).1
theorem wi_2 : ∀ w ∈ wsL_law_r2, w ∈ lw_tbl := fun w h => (goodIn_p wsL_law_r2 [] (by decide +kernel) (by decide +kernel) w h).1
theorem wi_3 : ∀ w ∈ wsL_law_r3, w ∈ lw_tbl := fun w h => (goodIn_p wsL_law_r3 [170, 174, 241] (by decide +kernel) (by decide +kernel) w h).1
theorem wi_4 : ∀ w ∈ wsL_law_r4, w ∈ lw_tbl := fun w h => (goodIn_p wsL_law_r4 [274, 284, 314] (by decide +kernel) (by decide +kernel) w h).1
theorem wi_5 : ∀ w ∈ wsL_law_r5, w ∈ lw_tbl := fun w h => (goodIn_p wsL_law_r5 [320, 409, 430] (by decide +kernel) (by decide +kernel) w h).1
theorem wi_6 : ∀ w ∈ wsL_law_r6, w ∈ lw_tbl := fun w h => (goodIn_p wsL_law_r6 [489, 532, 1282] (by decide +kernel) (by decide +kernel) w h).1
theorem wi_7 : ∀ w ∈ wsL_law_r7, w ∈ lw_tbl := fun w h => (goodIn_p wsL_law_r7 [] (by decide +kernel) (by decide +kernel) w h).1
theorem wi_8 : ∀ w ∈ wsL_law_r8, w ∈ lw_tbl := fun w h => (goodIn_p wsL_law_r8 [588, 592, 1418, 1422] (by decide +kernel) (by decide +kernel) w h).1
theorem wi_9 : ∀ w ∈ wsL_law_r9, w ∈ lw_tbl := fun w h => (goodIn_p wsL_law_r9 [596, 1426, 600, 604, 608] (by decide +kernel) (by decide +kernel) w h).1
theorem wi_10 : ∀ w ∈ wsL_law_r10, w ∈ lw_tbl := fun w h => (goodIn_p wsL_law_r10 [612, 616, 621, 625] (by decide +kernel) (by decide +kernel) w h).1
theorem wi_11 : ∀ w ∈ wsL_law_r11, w ∈ lw_tbl := fun w h => (goodIn_p wsL_law_r11 [629, 635, 639, 642, 645, 650] (by decide +kernel) (by decide +kernel) w h).1
theorem wi_12 : ∀ w ∈ wsL_law_r12, w ∈ lw_tbl := fun w h => (goodIn_p wsL_law_r12 [653, 656, 659, 663, 673] (by decide +kernel) (by decide +kernel) w h).1
theorem wi_13 : ∀ w ∈ wsL_law_r13, w ∈ lw_tbl := fun w h => (goodIn_p wsL_law_r13 [678, 682, 686, 690, 697] (by decide +kernel) (by decide +kernel) w h).1
theorem wi_14 : ∀ w ∈ wsL_law_r14, w ∈ lw_tbl := fun w h => (goodIn_p wsL_law_r14 [694, 701, 705, 709] (by decide +kernel) (by decide +kernel) w h).1
theorem wi_15 : ∀ w ∈ wsL_law_r15, w ∈ lw_tbl := fun w h => (goodIn_p wsL_law_r15 [714, 718, 1589] (by decide +kernel) (by decide +kernel) w h).1
theorem wi_16 : ∀ w ∈ wsL_law_r16, w ∈ lw_tbl := fun w h => (goodIn_p wsL_law_r16 [1434, 1438, 1442, 1446] (by decide +kernel) (by decide +kernel) w h).1
