theorem wi_49 : ∀ w ∈ wsL_law_r49, w ∈ lw_tbl := fun w h => (goodIn_p wsL_law_r49 [1828, 1832, 1836, 1840, 1843, 1084] (by decide +kernel) (by decide +kernel) w h).1
theorem wi_50 : ∀ w ∈ wsL_law_r50, w ∈ lw_tbl := fun w h => (goodIn_p wsL_law_r50 [1088, 1855, 1859, 1863, 1093] (by decide +kernel) (by decide +kernel) w h).1
theorem wi_51 : ∀ w ∈ wsL_law_r51, w ∈ lw_tbl := fun w h => (goodIn_p wsL_law_r51 [1097, 1847, 1851, 1101, 1105] (by decide +kernel) (by decide +kernel) w h).1
theorem wi_52 : ∀ w ∈ wsL_law_r52, w ∈ lw_tbl := fun w h => (goodIn_p wsL_law_r52 [1792, 1112, 1116, 1867, 1871] (by decide +kernel) (by decide +kernel) w h).1
theorem wi_53 : ∀ w ∈ wsL_law_r53, w ∈ lw_tbl := fun w h => (goodIn_p wsL_law_r53 [1120, 1124, 1129, 1134] (by decide +kernel) (by decide +kernel) w h).1
theorem wi_54 : ∀ w ∈ wsL_law_r54, w ∈ lw_tbl := fun w h => (goodIn_p wsL_law_r54 [1875, 1139, 1143, 1147, 1151] (by decide +kernel) (by decide +kernel) w h).1
theorem wi_55 : ∀ w ∈ wsL_law_r55, w ∈ lw_tbl := fun w h => (goodIn_p wsL_law_r55 [1879, 1883, 1887, 1156, 1160, 1891] (by decide +kernel) (by decide +kernel) w h).1
theorem wi_56 : ∀ w ∈ wsL_law_r56, w ∈ lw_tbl := fun w h => (goodIn_p wsL_law_r56 [1165, 1169, 1895, 1174, 1178] (by decide +kernel) (by decide +kernel) w h).1
theorem wi_57 : ∀ w ∈ wsL_law_r57, w ∈ lw_tbl := fun w h => (goodIn_p wsL_law_r57 [1900, 1182, 1186, 1190] (by decide +kernel) (by decide +kernel) w h).1
theorem wi_58 : ∀ w ∈ wsL_law_r58, w ∈ lw_tbl := fun w h => (goodIn_p wsL_law_r58 [1195, 1201, 1206, 1905, 1909, 1913] (by decide +kernel) (by decide +kernel) w h).1
theorem wi_59 : ∀ w ∈ wsL_law_r59, w ∈ lw_tbl := fun w h => (goodIn_p wsL_law_r59 [1917, 1210, 1214, 1218, 1921] (by decide +kernel) (by decide +kernel) w h).1
theorem wi_60 : ∀ w ∈ wsL_law_r60, w ∈ lw_tbl := fun w h => (goodIn_p wsL_law_r60 [1925, 1222, 1929, 1226, 1230] (by decide +kernel) (by decide +kernel) w h).1
theorem wi_61 : ∀ w ∈ wsL_law_r61, w ∈ lw_tbl := fun w h => (goodIn_p wsL_law_r61 [1234, 1241, 1246] (by decide +kernel) (by decide +kernel) w h).1
theorem wi_62 : ∀ w ∈ wsL_law_r62, w ∈ lw_tbl := fun w h => (goodIn_p wsL_law_r62 [1933, 1938, 1942, 1254] (by decide +kernel) (by decide +kernel) w h).1
theorem wi_63 : ∀ w ∈ wsL_law_r63, w ∈ lw_tbl := fun w h => (goodIn_p wsL_law_r63 [1259, 1263, 1950, 1267, 1271] (by decide +kernel) (by decide +kernel) w h).1
theorem wi_64 : ∀ w ∈ wsL_law_r64, w ∈ lw_tbl := fun w h => (goodIn_p wsL_law_r64 [1954, 1277, 1959] (by decide +kernel) (by decide +kernel) w h).1
