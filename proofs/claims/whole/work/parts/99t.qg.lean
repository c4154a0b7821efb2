theorem wi_17 : ∀ w ∈ wsL_law_r17, w ∈ lw_tbl := fun w h => (goodIn_p wsL_law_r17 [1461, 1465, 1473, 1477, 1481, 1485] (by decide +kernel) (by decide +kernel) w h).1
theorem wi_18 : ∀ w ∈ wsL_law_r18, w ∈ lw_tbl := fun w h => (goodIn_p wsL_law_r18 [1489, 1493, 1497, 1500, 1504, 1508] (by decide +kernel) (by decide +kernel) w h).1
theorem wi_19 : ∀ w ∈ wsL_law_r19, w ∈ lw_tbl := fun w h => (goodIn_p wsL_law_r19 [1512, 1516, 1520, 1524, 1528, 1532] (by decide +kernel) (by decide +kernel) w h).1
theorem wi_20 : ∀ w ∈ wsL_law_r20, w ∈ lw_tbl := fun w h => (goodIn_p wsL_law_r20 [1537, 1541, 1545] (by decide +kernel) (by decide +kernel) w h).1
theorem wi_21 : ∀ w ∈ wsL_law_r21, w ∈ lw_tbl := fun w h => (goodIn_p wsL_law_r21 [1561, 1565, 1569, 1574] (by decide +kernel) (by decide +kernel) w h).1
theorem wi_22 : ∀ w ∈ wsL_law_r22, w ∈ lw_tbl := fun w h => (goodIn_p wsL_law_r22 [1578, 1582, 1586, 1589, 1593, 729] (by decide +kernel) (by decide +kernel) w h).1
theorem wi_23 : ∀ w ∈ wsL_law_r23, w ∈ lw_tbl := fun w h => (goodIn_p wsL_law_r23 [733, 739, 746, 750] (by decide +kernel) (by decide +kernel) w h).1
theorem wi_24 : ∀ w ∈ wsL_law_r24, w ∈ lw_tbl := fun w h => (goodIn_p wsL_law_r24 [757, 762, 767, 787, 771, 776] (by decide +kernel) (by decide +kernel) w h).1
theorem wi_25 : ∀ w ∈ wsL_law_r25, w ∈ lw_tbl := fun w h => (goodIn_p wsL_law_r25 [779, 783, 793, 798] (by decide +kernel) (by decide +kernel) w h).1
theorem wi_26 : ∀ w ∈ wsL_law_r26, w ∈ lw_tbl := fun w h => (goodIn_p wsL_law_r26 [808, 812, 1440, 833] (by decide +kernel) (by decide +kernel) w h).1
theorem wi_27 : ∀ w ∈ wsL_law_r27, w ∈ lw_tbl := fun w h => (goodIn_p wsL_law_r27 [1603, 1607, 837, 841, 845] (by decide +kernel) (by decide +kernel) w h).1
theorem wi_28 : ∀ w ∈ wsL_law_r28, w ∈ lw_tbl := fun w h => (goodIn_p wsL_law_r28 [1611, 1615, 1619, 1623, 1627] (by decide +kernel) (by decide +kernel) w h).1
theorem wi_29 : ∀ w ∈ wsL_law_r29, w ∈ lw_tbl := fun w h => (goodIn_p wsL_law_r29 [1631, 1635, 1639, 849, 853] (by decide +kernel) (by decide +kernel) w h).1
theorem wi_30 : ∀ w ∈ wsL_law_r30, w ∈ lw_tbl := fun w h => (goodIn_p wsL_law_r30 [857, 861, 865, 1643, 1648, 1652] (by decide +kernel) (by decide +kernel) w h).1
theorem wi_31 : ∀ w ∈ wsL_law_r31, w ∈ lw_tbl := fun w h => (goodIn_p wsL_law_r31 [869, 873, 877, 881, 886] (by decide +kernel) (by decide +kernel) w h).1
theorem wi_32 : ∀ w ∈ wsL_law_r32, w ∈ lw_tbl := fun w h => (goodIn_p wsL_law_r32 [890, 894, 898, 901, 905] (by decide +kernel) (by decide +kernel) w h).1
