theorem wi_33 : ∀ w ∈ wsL_law_r33, w ∈ lw_tbl := fun w h => (goodIn_p wsL_law_r33 [910, 915, 919, 924] (by decide +kernel) (by decide +kernel) w h).1
theorem wi_34 : ∀ w ∈ wsL_law_r34, w ∈ lw_tbl := fun w h => (goodIn_p wsL_law_r34 [928, 931, 934, 938, 943, 947] (by decide +kernel) (by decide +kernel) w h).1
theorem wi_35 : ∀ w ∈ wsL_law_r35, w ∈ lw_tbl := fun w h => (goodIn_p wsL_law_r35 [951, 955, 961, 965] (by decide +kernel) (by decide +kernel) w h).1
theorem wi_36 : ∀ w ∈ wsL_law_r36, w ∈ lw_tbl := fun w h => (goodIn_p wsL_law_r36 [972, 1660, 1664, 1668, 1672] (by decide +kernel) (by decide +kernel) w h).1
theorem wi_37 : ∀ w ∈ wsL_law_r37, w ∈ lw_tbl := fun w h => (goodIn_p wsL_law_r37 [1676, 1680, 1684, 1688, 1692, 1697] (by decide +kernel) (by decide +kernel) w h).1
theorem wi_38 : ∀ w ∈ wsL_law_r38, w ∈ lw_tbl := fun w h => (goodIn_p wsL_law_r38 [1701, 1705, 1709, 1712, 1716, 1720] (by decide +kernel) (by decide +kernel) w h).1
theorem wi_39 : ∀ w ∈ wsL_law_r39, w ∈ lw_tbl := fun w h => (goodIn_p wsL_law_r39 [1724, 1728, 1732, 1736, 978, 982] (by decide +kernel) (by decide +kernel) w h).1
theorem wi_40 : ∀ w ∈ wsL_law_r40, w ∈ lw_tbl := fun w h => (goodIn_p wsL_law_r40 [1740, 1744, 987, 991, 1748] (by decide +kernel) (by decide +kernel) w h).1
theorem wi_41 : ∀ w ∈ wsL_law_r41, w ∈ lw_tbl := fun w h => (goodIn_p wsL_law_r41 [1752, 1756, 997, 1001, 1005, 1760] (by decide +kernel) (by decide +kernel) w h).1
theorem wi_42 : ∀ w ∈ wsL_law_r42, w ∈ lw_tbl := fun w h => (goodIn_p wsL_law_r42 [1764, 1768, 1009, 1772, 1014] (by decide +kernel) (by decide +kernel) w h).1
theorem wi_43 : ∀ w ∈ wsL_law_r43, w ∈ lw_tbl := fun w h => (goodIn_p wsL_law_r43 [1776, 1019, 1656, 1023, 1027, 1780] (by decide +kernel) (by decide +kernel) w h).1
theorem wi_44 : ∀ w ∈ wsL_law_r44, w ∈ lw_tbl := fun w h => (goodIn_p wsL_law_r44 [1786, 1790, 1033, 1037] (by decide +kernel) (by decide +kernel) w h).1
theorem wi_45 : ∀ w ∈ wsL_law_r45, w ∈ lw_tbl := fun w h => (goodIn_p wsL_law_r45 [1794, 1798, 1042, 1046, 1050] (by decide +kernel) (by decide +kernel) w h).1
theorem wi_46 : ∀ w ∈ wsL_law_r46, w ∈ lw_tbl := fun w h => (goodIn_p wsL_law_r46 [1054, 1058, 1065, 1069] (by decide +kernel) (by decide +kernel) w h).1
theorem wi_47 : ∀ w ∈ wsL_law_r47, w ∈ lw_tbl := fun w h => (goodIn_p wsL_law_r47 [1074, 1078, 1082, 1086, 1090] (by decide +kernel) (by decide +kernel) w h).1
theorem wi_48 : ∀ w ∈ wsL_law_r48, w ∈ lw_tbl := fun w h => (goodIn_p wsL_law_r48 [1806, 1810, 1814, 1818, 1822, 1826] (by decide +kernel) (by decide +kernel) w h).1
