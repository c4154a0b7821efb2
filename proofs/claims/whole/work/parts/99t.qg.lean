theorem wi_17 : ∀ w ∈ wsL_law_r17, w ∈ lw_tbl := fun w h => (goodIn_p wsL_law_r17 [1451, 1455, 1463, 1467, 1471, 1475] (by decide +kernel) (by decide +kernel) w h).1
theorem wi_18 : ∀ w ∈ wsL_law_r18, w ∈ lw_tbl := fun w h => (goodIn_p wsL_law_r18 [1479, 1483, 1487, 1490, 1494, 1498] (by decide +kernel) (by decide +kernel) w h).1
theorem wi_19 : ∀ w ∈ wsL_law_r19, w ∈ lw_tbl := fun w h => (goodIn_p wsL_law_r19 [1502, 1506, 1510, 1514, 1518, 1522] (by decide +kernel) (by decide +kernel) w h).1
theorem wi_20 : ∀ w ∈ wsL_law_r20, w ∈ lw_tbl := fun w h => (goodIn_p wsL_law_r20 [1527, 1531, 1535] (by decide +kernel) (by decide +kernel) w h).1
theorem wi_21 : ∀ w ∈ wsL_law_r21, w ∈ lw_tbl := fun w h => (goodIn_p wsL_law_r21 [1551, 1555, 1559, 1564] (by decide +kernel) (by decide +kernel) w h).1
theorem wi_22 : ∀ w ∈ wsL_law_r22, w ∈ lw_tbl := fun w h => (goodIn_p wsL_law_r22 [1568, 1572, 1576, 1579, 1583, 727] (by decide +kernel) (by decide +kernel) w h).1
theorem wi_23 : ∀ w ∈ wsL_law_r23, w ∈ lw_tbl := fun w h => (goodIn_p wsL_law_r23 [731, 737, 744, 748] (by decide +kernel) (by decide +kernel) w h).1
theorem wi_24 : ∀ w ∈ wsL_law_r24, w ∈ lw_tbl := fun w h => (goodIn_p wsL_law_r24 [755, 760, 765, 769, 774] (by decide +kernel) (by decide +kernel) w h).1
theorem wi_25 : ∀ w ∈ wsL_law_r25, w ∈ lw_tbl := fun w h => (goodIn_p wsL_law_r25 [777, 783, 788, 798, 802] (by decide +kernel) (by decide +kernel) w h).1
theorem wi_26 : ∀ w ∈ wsL_law_r26, w ∈ lw_tbl := fun w h => (goodIn_p wsL_law_r26 [1430, 823, 1593, 1597] (by decide +kernel) (by decide +kernel) w h).1
theorem wi_27 : ∀ w ∈ wsL_law_r27, w ∈ lw_tbl := fun w h => (goodIn_p wsL_law_r27 [827, 831, 835, 1601] (by decide +kernel) (by decide +kernel) w h).1
theorem wi_28 : ∀ w ∈ wsL_law_r28, w ∈ lw_tbl := fun w h => (goodIn_p wsL_law_r28 [1605, 1609, 1613, 1617, 1621, 1625] (by decide +kernel) (by decide +kernel) w h).1
theorem wi_29 : ∀ w ∈ wsL_law_r29, w ∈ lw_tbl := fun w h => (goodIn_p wsL_law_r29 [1629, 839, 843, 847, 851] (by decide +kernel) (by decide +kernel) w h).1
theorem wi_30 : ∀ w ∈ wsL_law_r30, w ∈ lw_tbl := fun w h => (goodIn_p wsL_law_r30 [855, 1633, 1638, 1642, 859] (by decide +kernel) (by decide +kernel) w h).1
theorem wi_31 : ∀ w ∈ wsL_law_r31, w ∈ lw_tbl := fun w h => (goodIn_p wsL_law_r31 [863, 867, 871, 876, 880] (by decide +kernel) (by decide +kernel) w h).1
theorem wi_32 : ∀ w ∈ wsL_law_r32, w ∈ lw_tbl := fun w h => (goodIn_p wsL_law_r32 [884, 888, 891, 895, 900] (by decide +kernel) (by decide +kernel) w h).1
