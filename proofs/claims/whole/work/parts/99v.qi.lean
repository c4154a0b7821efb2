theorem wi_49 : ∀ w ∈ wsL_law_r49, w ∈ lw_tbl := fun w h => (goodIn_p wsL_law_r49 [1830, 1834, 1838, 1842, 1846, 1850] (by decide +kernel) (by decide +kernel) w h).1
theorem wi_50 : ∀ w ∈ wsL_law_r50, w ∈ lw_tbl := fun w h => (goodIn_p wsL_law_r50 [1853, 1094, 1098, 1865, 1869] (by decide +kernel) (by decide +kernel) w h).1
theorem wi_51 : ∀ w ∈ wsL_law_r51, w ∈ lw_tbl := fun w h => (goodIn_p wsL_law_r51 [1873, 1103, 1107, 1857, 1861, 1111] (by decide +kernel) (by decide +kernel) w h).1
theorem wi_52 : ∀ w ∈ wsL_law_r52, w ∈ lw_tbl := fun w h => (goodIn_p wsL_law_r52 [1115, 1802, 1122, 1126] (by decide +kernel) (by decide +kernel) w h).1
theorem wi_53 : ∀ w ∈ wsL_law_r53, w ∈ lw_tbl := fun w h => (goodIn_p wsL_law_r53 [1877, 1881, 1130, 1134, 1139] (by decide +kernel) (by decide +kernel) w h).1
theorem wi_54 : ∀ w ∈ wsL_law_r54, w ∈ lw_tbl := fun w h => (goodIn_p wsL_law_r54 [1144, 1885, 1149, 1153, 1157] (by decide +kernel) (by decide +kernel) w h).1
theorem wi_55 : ∀ w ∈ wsL_law_r55, w ∈ lw_tbl := fun w h => (goodIn_p wsL_law_r55 [1161, 1889, 1893, 1897, 1166] (by decide +kernel) (by decide +kernel) w h).1
theorem wi_56 : ∀ w ∈ wsL_law_r56, w ∈ lw_tbl := fun w h => (goodIn_p wsL_law_r56 [1170, 1901, 1175, 1179, 1905, 1184] (by decide +kernel) (by decide +kernel) w h).1
theorem wi_57 : ∀ w ∈ wsL_law_r57, w ∈ lw_tbl := fun w h => (goodIn_p wsL_law_r57 [1188, 1910, 1192, 1196] (by decide +kernel) (by decide +kernel) w h).1
theorem wi_58 : ∀ w ∈ wsL_law_r58, w ∈ lw_tbl := fun w h => (goodIn_p wsL_law_r58 [1200, 1205, 1211, 1216, 1915] (by decide +kernel) (by decide +kernel) w h).1
theorem wi_59 : ∀ w ∈ wsL_law_r59, w ∈ lw_tbl := fun w h => (goodIn_p wsL_law_r59 [1919, 1923, 1927, 1220, 1224] (by decide +kernel) (by decide +kernel) w h).1
theorem wi_60 : ∀ w ∈ wsL_law_r60, w ∈ lw_tbl := fun w h => (goodIn_p wsL_law_r60 [1228, 1931, 1935, 1232, 1939] (by decide +kernel) (by decide +kernel) w h).1
theorem wi_61 : ∀ w ∈ wsL_law_r61, w ∈ lw_tbl := fun w h => (goodIn_p wsL_law_r61 [1236, 1240, 1244, 1251] (by decide +kernel) (by decide +kernel) w h).1
theorem wi_62 : ∀ w ∈ wsL_law_r62, w ∈ lw_tbl := fun w h => (goodIn_p wsL_law_r62 [1256, 1943, 1948, 1952] (by decide +kernel) (by decide +kernel) w h).1
theorem wi_63 : ∀ w ∈ wsL_law_r63, w ∈ lw_tbl := fun w h => (goodIn_p wsL_law_r63 [1264, 1269, 1273, 1960] (by decide +kernel) (by decide +kernel) w h).1
theorem wi_64 : ∀ w ∈ wsL_law_r64, w ∈ lw_tbl := fun w h => (goodIn_p wsL_law_r64 [1277, 1281, 1964, 1287, 1969] (by decide +kernel) (by decide +kernel) w h).1
