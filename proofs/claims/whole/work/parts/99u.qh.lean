theorem wi_33 : ∀ w ∈ wsL_law_r33, w ∈ lw_tbl := fun w h => (goodIn_p wsL_law_r33 [905, 909, 914, 918, 921, 924] (by decide +kernel) (by decide +kernel) w h).1
theorem wi_34 : ∀ w ∈ wsL_law_r34, w ∈ lw_tbl := fun w h => (goodIn_p wsL_law_r34 [928, 933, 937, 941, 945] (by decide +kernel) (by decide +kernel) w h).1
theorem wi_35 : ∀ w ∈ wsL_law_r35, w ∈ lw_tbl := fun w h => (goodIn_p wsL_law_r35 [951, 955, 962] (by decide +kernel) (by decide +kernel) w h).1
theorem wi_36 : ∀ w ∈ wsL_law_r36, w ∈ lw_tbl := fun w h => (goodIn_p wsL_law_r36 [1650, 1654, 1658, 1662, 1666, 1670] (by decide +kernel) (by decide +kernel) w h).1
theorem wi_37 : ∀ w ∈ wsL_law_r37, w ∈ lw_tbl := fun w h => (goodIn_p wsL_law_r37 [1674, 1678, 1682, 1687, 1691, 1695] (by decide +kernel) (by decide +kernel) w h).1
theorem wi_38 : ∀ w ∈ wsL_law_r38, w ∈ lw_tbl := fun w h => (goodIn_p wsL_law_r38 [1699, 1702, 1706, 1710, 1714, 1718] (by decide +kernel) (by decide +kernel) w h).1
theorem wi_39 : ∀ w ∈ wsL_law_r39, w ∈ lw_tbl := fun w h => (goodIn_p wsL_law_r39 [1722, 1726, 968, 972, 1730] (by decide +kernel) (by decide +kernel) w h).1
theorem wi_40 : ∀ w ∈ wsL_law_r40, w ∈ lw_tbl := fun w h => (goodIn_p wsL_law_r40 [1734, 977, 981, 1738, 1742, 1746] (by decide +kernel) (by decide +kernel) w h).1
theorem wi_41 : ∀ w ∈ wsL_law_r41, w ∈ lw_tbl := fun w h => (goodIn_p wsL_law_r41 [987, 991, 995, 1750, 1754, 1758] (by decide +kernel) (by decide +kernel) w h).1
theorem wi_42 : ∀ w ∈ wsL_law_r42, w ∈ lw_tbl := fun w h => (goodIn_p wsL_law_r42 [999, 1762, 1004, 1766, 1009] (by decide +kernel) (by decide +kernel) w h).1
theorem wi_43 : ∀ w ∈ wsL_law_r43, w ∈ lw_tbl := fun w h => (goodIn_p wsL_law_r43 [1646, 1013, 1017, 1770, 1776] (by decide +kernel) (by decide +kernel) w h).1
theorem wi_44 : ∀ w ∈ wsL_law_r44, w ∈ lw_tbl := fun w h => (goodIn_p wsL_law_r44 [1780, 1023, 1027, 1784] (by decide +kernel) (by decide +kernel) w h).1
theorem wi_45 : ∀ w ∈ wsL_law_r45, w ∈ lw_tbl := fun w h => (goodIn_p wsL_law_r45 [1788, 1032, 1036, 1040, 1044] (by decide +kernel) (by decide +kernel) w h).1
theorem wi_46 : ∀ w ∈ wsL_law_r46, w ∈ lw_tbl := fun w h => (goodIn_p wsL_law_r46 [1048, 1055, 1059, 1064] (by decide +kernel) (by decide +kernel) w h).1
theorem wi_47 : ∀ w ∈ wsL_law_r47, w ∈ lw_tbl := fun w h => (goodIn_p wsL_law_r47 [1068, 1072, 1076, 1080, 1796, 1800] (by decide +kernel) (by decide +kernel) w h).1
theorem wi_48 : ∀ w ∈ wsL_law_r48, w ∈ lw_tbl := fun w h => (goodIn_p wsL_law_r48 [1804, 1808, 1812, 1816, 1820, 1824] (by decide +kernel) (by decide +kernel) w h).1
