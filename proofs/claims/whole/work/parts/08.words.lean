theorem tm_1 : (Jvm.Cond.initialized "SaddleFit") ∈ sf_tbl := sf_in (List.mem_append_right _ (List.mem_of_getElem? (i := 1) (by decide +kernel))) rfl
theorem tm_2 : (Jvm.Cond.initialized "SaddleFit$Reader") ∈ sf_tbl := sf_in (List.mem_append_right _ (List.mem_of_getElem? (i := 2) (by decide +kernel))) rfl
theorem tm_3 : (Jvm.Cond.initialized "SaddleFit$Shop") ∈ sf_tbl := sf_in (List.mem_append_right _ (List.mem_of_getElem? (i := 3) (by decide +kernel))) rfl
theorem tm_4 : (Jvm.Cond.initialized "SaddleFit$Scale") ∈ sf_tbl := sf_in (List.mem_append_right _ (List.mem_of_getElem? (i := 4) (by decide +kernel))) rfl
theorem tm_5 : (Jvm.Cond.initialized "SaddleFit$Load") ∈ sf_tbl := sf_in (List.mem_append_right _ (List.mem_of_getElem? (i := 5) (by decide +kernel))) rfl
theorem tm_6 : (Jvm.Cond.initialized "SaddleFit$Fitting") ∈ sf_tbl := sf_in (List.mem_append_right _ (List.mem_of_getElem? (i := 6) (by decide +kernel))) rfl
theorem tm_7 : (Jvm.Cond.initialized "SaddleFit$Unloading") ∈ sf_tbl := sf_in (List.mem_append_right _ (List.mem_of_getElem? (i := 7) (by decide +kernel))) rfl
theorem tm_8 : (Jvm.Cond.initialized "SaddleFit$Past") ∈ sf_tbl := sf_in (List.mem_append_right _ (List.mem_of_getElem? (i := 8) (by decide +kernel))) rfl
theorem tm_9 : (Jvm.Cond.initialized "SaddleFit$Feelings") ∈ sf_tbl := sf_in (List.mem_append_right _ (List.mem_of_getElem? (i := 9) (by decide +kernel))) rfl
theorem tm_10 : (Jvm.Cond.initialized "SaddleFit$Book") ∈ sf_tbl := sf_in (List.mem_append_right _ (List.mem_of_getElem? (i := 10) (by decide +kernel))) rfl
theorem tm_11 : (Jvm.Cond.initialized "SaddleFitModel") ∈ sf_tbl := sf_in (List.mem_append_right _ (List.mem_of_getElem? (i := 11) (by decide +kernel))) rfl
theorem tm_12 : (Jvm.Cond.initialized "java/lang/Math") ∈ sf_tbl := sf_in (List.mem_append_right _ (List.mem_of_getElem? (i := 12) (by decide +kernel))) rfl
theorem tm_13 : (Jvm.Cond.initialized "java/lang/System") ∈ sf_tbl := sf_in (List.mem_append_right _ (List.mem_of_getElem? (i := 13) (by decide +kernel))) rfl
theorem tm_28 : (Jvm.Cond.fieldLink "SaddleFit$Reader" (19 : Nat) "SaddleFit$Reader" "length" "I") ∈ sf_tbl := sf_in (List.mem_append_right _ (List.mem_of_getElem? (i := 28) (by decide +kernel))) rfl
theorem tm_29 : (Jvm.Cond.fieldLink "SaddleFit" (98 : Nat) "SaddleFit$Reader" "length" "I") ∈ sf_tbl := sf_in (List.mem_append_right _ (List.mem_of_getElem? (i := 29) (by decide +kernel))) rfl
theorem tm_30 : (Jvm.Cond.fieldLink "SaddleFit$Reader" (9 : Nat) "SaddleFit$Reader" "faultAt" "I") ∈ sf_tbl := sf_in (List.mem_append_right _ (List.mem_of_getElem? (i := 30) (by decide +kernel))) rfl
theorem tm_31 : (Jvm.Cond.fieldLink "SaddleFit" (122 : Nat) "SaddleFit$Reader" "faultAt" "I") ∈ sf_tbl := sf_in (List.mem_append_right _ (List.mem_of_getElem? (i := 31) (by decide +kernel))) rfl
theorem tm_32 : (Jvm.Cond.fieldLink "SaddleFit$Reader" (15 : Nat) "SaddleFit$Reader" "letters" "[I") ∈ sf_tbl := sf_in (List.mem_append_right _ (List.mem_of_getElem? (i := 32) (by decide +kernel))) rfl
theorem tm_33 : (Jvm.Cond.fieldLink "SaddleFit$Reader" (27 : Nat) "SaddleFit$Reader" "at" "I") ∈ sf_tbl := sf_in (List.mem_append_right _ (List.mem_of_getElem? (i := 33) (by decide +kernel))) rfl
theorem tm_34 : (Jvm.Cond.fieldLink "SaddleFit$Reader" (30 : Nat) "SaddleFit$Reader" "faultNumber" "I") ∈ sf_tbl := sf_in (List.mem_append_right _ (List.mem_of_getElem? (i := 34) (by decide +kernel))) rfl
theorem tm_53 : (Jvm.Cond.fieldLink "SaddleFit$Reader" (59 : Nat) "SaddleFit$Shop" "open" "Z") ∈ sf_tbl := sf_in (List.mem_append_right _ (List.mem_of_getElem? (i := 53) (by decide +kernel))) rfl
theorem tm_54 : (Jvm.Cond.fieldLink "SaddleFit$Shop" (38 : Nat) "SaddleFit$Shop" "open" "Z") ∈ sf_tbl := sf_in (List.mem_append_right _ (List.mem_of_getElem? (i := 54) (by decide +kernel))) rfl
theorem tm_55 : (Jvm.Cond.fieldLink "SaddleFit" (262 : Nat) "SaddleFit$Shop" "open" "Z") ∈ sf_tbl := sf_in (List.mem_append_right _ (List.mem_of_getElem? (i := 55) (by decide +kernel))) rfl
theorem tm_56 : (Jvm.Cond.fieldLink "SaddleFit$Load" (31 : Nat) "SaddleFit$Shop" "flock" "I") ∈ sf_tbl := sf_in (List.mem_append_right _ (List.mem_of_getElem? (i := 56) (by decide +kernel))) rfl
theorem tm_57 : (Jvm.Cond.fieldLink "SaddleFit$Reader" (63 : Nat) "SaddleFit$Shop" "flock" "I") ∈ sf_tbl := sf_in (List.mem_append_right _ (List.mem_of_getElem? (i := 57) (by decide +kernel))) rfl
theorem tm_58 : (Jvm.Cond.fieldLink "SaddleFit$Shop" (42 : Nat) "SaddleFit$Shop" "flock" "I") ∈ sf_tbl := sf_in (List.mem_append_right _ (List.mem_of_getElem? (i := 58) (by decide +kernel))) rfl
theorem tm_59 : (Jvm.Cond.fieldLink "SaddleFit$Shop" (27 : Nat) "SaddleFit$Shop" "burdens" "I") ∈ sf_tbl := sf_in (List.mem_append_right _ (List.mem_of_getElem? (i := 59) (by decide +kernel))) rfl
theorem tm_60 : (Jvm.Cond.fieldLink "SaddleFit$Scale" (25 : Nat) "SaddleFit$Shop" "burdens" "I") ∈ sf_tbl := sf_in (List.mem_append_right _ (List.mem_of_getElem? (i := 60) (by decide +kernel))) rfl
theorem tm_61 : (Jvm.Cond.fieldLink "SaddleFit$Unloading" (43 : Nat) "SaddleFit$Shop" "burdens" "I") ∈ sf_tbl := sf_in (List.mem_append_right _ (List.mem_of_getElem? (i := 61) (by decide +kernel))) rfl
theorem tm_62 : (Jvm.Cond.fieldLink "SaddleFit" (119 : Nat) "SaddleFit$Shop" "burdens" "I") ∈ sf_tbl := sf_in (List.mem_append_right _ (List.mem_of_getElem? (i := 62) (by decide +kernel))) rfl
theorem tm_63 : (Jvm.Cond.fieldLink "SaddleFit$Reader" (73 : Nat) "SaddleFit$Shop" "burdens" "I") ∈ sf_tbl := sf_in (List.mem_append_right _ (List.mem_of_getElem? (i := 63) (by decide +kernel))) rfl
theorem tm_64 : (Jvm.Cond.fieldLink "SaddleFit$Fitting" (79 : Nat) "SaddleFit$Shop" "burdens" "I") ∈ sf_tbl := sf_in (List.mem_append_right _ (List.mem_of_getElem? (i := 64) (by decide +kernel))) rfl
theorem tm_65 : (Jvm.Cond.fieldLink "SaddleFit$Shop" (31 : Nat) "SaddleFit$Shop" "backs" "I") ∈ sf_tbl := sf_in (List.mem_append_right _ (List.mem_of_getElem? (i := 65) (by decide +kernel))) rfl
theorem tm_66 : (Jvm.Cond.fieldLink "SaddleFit$Fitting" (47 : Nat) "SaddleFit$Shop" "backs" "I") ∈ sf_tbl := sf_in (List.mem_append_right _ (List.mem_of_getElem? (i := 66) (by decide +kernel))) rfl
theorem tm_67 : (Jvm.Cond.fieldLink "SaddleFit$Reader" (76 : Nat) "SaddleFit$Shop" "backs" "I") ∈ sf_tbl := sf_in (List.mem_append_right _ (List.mem_of_getElem? (i := 67) (by decide +kernel))) rfl
theorem tm_68 : (Jvm.Cond.fieldLink "SaddleFit" (125 : Nat) "SaddleFit$Shop" "backs" "I") ∈ sf_tbl := sf_in (List.mem_append_right _ (List.mem_of_getElem? (i := 68) (by decide +kernel))) rfl
theorem tm_69 : (Jvm.Cond.fieldLink "SaddleFit$Scale" (58 : Nat) "SaddleFit$Shop" "backs" "I") ∈ sf_tbl := sf_in (List.mem_append_right _ (List.mem_of_getElem? (i := 69) (by decide +kernel))) rfl
theorem tm_70 : (Jvm.Cond.fieldLink "SaddleFit$Shop" (9 : Nat) "SaddleFit$Shop" "kind" "[I") ∈ sf_tbl := sf_in (List.mem_append_right _ (List.mem_of_getElem? (i := 70) (by decide +kernel))) rfl
theorem tm_71 : (Jvm.Cond.fieldLink "SaddleFit" (166 : Nat) "SaddleFit$Shop" "kind" "[I") ∈ sf_tbl := sf_in (List.mem_append_right _ (List.mem_of_getElem? (i := 71) (by decide +kernel))) rfl
theorem tm_72 : (Jvm.Cond.fieldLink "SaddleFit$Scale" (75 : Nat) "SaddleFit$Shop" "kind" "[I") ∈ sf_tbl := sf_in (List.mem_append_right _ (List.mem_of_getElem? (i := 72) (by decide +kernel))) rfl
theorem tm_73 : (Jvm.Cond.fieldLink "SaddleFit$Shop" (15 : Nat) "SaddleFit$Shop" "toldWeight" "[I") ∈ sf_tbl := sf_in (List.mem_append_right _ (List.mem_of_getElem? (i := 73) (by decide +kernel))) rfl
theorem tm_74 : (Jvm.Cond.fieldLink "SaddleFit$Load" (39 : Nat) "SaddleFit$Shop" "toldWeight" "[I") ∈ sf_tbl := sf_in (List.mem_append_right _ (List.mem_of_getElem? (i := 74) (by decide +kernel))) rfl
theorem tm_75 : (Jvm.Cond.fieldLink "SaddleFit$Shop" (18 : Nat) "SaddleFit$Shop" "edge" "[I") ∈ sf_tbl := sf_in (List.mem_append_right _ (List.mem_of_getElem? (i := 75) (by decide +kernel))) rfl
theorem tm_76 : (Jvm.Cond.fieldLink "SaddleFit" (172 : Nat) "SaddleFit$Shop" "edge" "[I") ∈ sf_tbl := sf_in (List.mem_append_right _ (List.mem_of_getElem? (i := 76) (by decide +kernel))) rfl
theorem tm_77 : (Jvm.Cond.fieldLink "SaddleFit$Scale" (64 : Nat) "SaddleFit$Shop" "edge" "[I") ∈ sf_tbl := sf_in (List.mem_append_right _ (List.mem_of_getElem? (i := 77) (by decide +kernel))) rfl
theorem tm_78 : (Jvm.Cond.fieldLink "SaddleFit$Shop" (21 : Nat) "SaddleFit$Shop" "strength" "[I") ∈ sf_tbl := sf_in (List.mem_append_right _ (List.mem_of_getElem? (i := 78) (by decide +kernel))) rfl
theorem tm_79 : (Jvm.Cond.fieldLink "SaddleFit$Fitting" (70 : Nat) "SaddleFit$Shop" "strength" "[I") ∈ sf_tbl := sf_in (List.mem_append_right _ (List.mem_of_getElem? (i := 79) (by decide +kernel))) rfl
theorem tm_80 : (Jvm.Cond.fieldLink "SaddleFit" (187 : Nat) "SaddleFit$Shop" "strength" "[I") ∈ sf_tbl := sf_in (List.mem_append_right _ (List.mem_of_getElem? (i := 80) (by decide +kernel))) rfl
theorem tm_81 : (Jvm.Cond.fieldLink "SaddleFit$Scale" (88 : Nat) "SaddleFit$Shop" "strength" "[I") ∈ sf_tbl := sf_in (List.mem_append_right _ (List.mem_of_getElem? (i := 81) (by decide +kernel))) rfl
theorem tm_82 : (Jvm.Cond.fieldLink "SaddleFit$Shop" (24 : Nat) "SaddleFit$Shop" "spine" "[I") ∈ sf_tbl := sf_in (List.mem_append_right _ (List.mem_of_getElem? (i := 82) (by decide +kernel))) rfl
theorem tm_83 : (Jvm.Cond.fieldLink "SaddleFit" (190 : Nat) "SaddleFit$Shop" "spine" "[I") ∈ sf_tbl := sf_in (List.mem_append_right _ (List.mem_of_getElem? (i := 83) (by decide +kernel))) rfl
theorem tm_84 : (Jvm.Cond.fieldLink "SaddleFit$Scale" (78 : Nat) "SaddleFit$Shop" "spine" "[I") ∈ sf_tbl := sf_in (List.mem_append_right _ (List.mem_of_getElem? (i := 84) (by decide +kernel))) rfl
theorem tm_118 : (Jvm.Cond.fieldLink "SaddleFit$Load" (27 : Nat) "SaddleFit$Load" "days" "I") ∈ sf_tbl := sf_in (List.mem_append_right _ (List.mem_of_getElem? (i := 118) (by decide +kernel))) rfl
theorem tm_119 : (Jvm.Cond.fieldLink "SaddleFit$Fitting" (39 : Nat) "SaddleFit$Load" "days" "I") ∈ sf_tbl := sf_in (List.mem_append_right _ (List.mem_of_getElem? (i := 119) (by decide +kernel))) rfl
theorem tm_120 : (Jvm.Cond.fieldLink "SaddleFit$Unloading" (52 : Nat) "SaddleFit$Load" "days" "I") ∈ sf_tbl := sf_in (List.mem_append_right _ (List.mem_of_getElem? (i := 120) (by decide +kernel))) rfl
theorem tm_121 : (Jvm.Cond.fieldLink "SaddleFit" (128 : Nat) "SaddleFit$Load" "days" "I") ∈ sf_tbl := sf_in (List.mem_append_right _ (List.mem_of_getElem? (i := 121) (by decide +kernel))) rfl
theorem tm_122 : (Jvm.Cond.fieldLink "SaddleFit$Scale" (91 : Nat) "SaddleFit$Load" "days" "I") ∈ sf_tbl := sf_in (List.mem_append_right _ (List.mem_of_getElem? (i := 122) (by decide +kernel))) rfl
theorem tm_123 : (Jvm.Cond.fieldLink "SaddleFit$Load" (36 : Nat) "SaddleFit$Load" "stock" "I") ∈ sf_tbl := sf_in (List.mem_append_right _ (List.mem_of_getElem? (i := 123) (by decide +kernel))) rfl
theorem tm_124 : (Jvm.Cond.fieldLink "SaddleFit" (131 : Nat) "SaddleFit$Load" "stock" "I") ∈ sf_tbl := sf_in (List.mem_append_right _ (List.mem_of_getElem? (i := 124) (by decide +kernel))) rfl
theorem tm_125 : (Jvm.Cond.fieldLink "SaddleFit$Load" (9 : Nat) "SaddleFit$Load" "weight" "[I") ∈ sf_tbl := sf_in (List.mem_append_right _ (List.mem_of_getElem? (i := 125) (by decide +kernel))) rfl
theorem tm_126 : (Jvm.Cond.fieldLink "SaddleFit$Fitting" (34 : Nat) "SaddleFit$Load" "weight" "[I") ∈ sf_tbl := sf_in (List.mem_append_right _ (List.mem_of_getElem? (i := 126) (by decide +kernel))) rfl
theorem tm_127 : (Jvm.Cond.fieldLink "SaddleFit$Scale" (40 : Nat) "SaddleFit$Load" "weight" "[I") ∈ sf_tbl := sf_in (List.mem_append_right _ (List.mem_of_getElem? (i := 127) (by decide +kernel))) rfl
theorem tm_128 : (Jvm.Cond.fieldLink "SaddleFit" (169 : Nat) "SaddleFit$Load" "weight" "[I") ∈ sf_tbl := sf_in (List.mem_append_right _ (List.mem_of_getElem? (i := 128) (by decide +kernel))) rfl
theorem tm_129 : (Jvm.Cond.fieldLink "SaddleFit$Load" (15 : Nat) "SaddleFit$Load" "pad" "[I") ∈ sf_tbl := sf_in (List.mem_append_right _ (List.mem_of_getElem? (i := 129) (by decide +kernel))) rfl
theorem tm_130 : (Jvm.Cond.fieldLink "SaddleFit" (175 : Nat) "SaddleFit$Load" "pad" "[I") ∈ sf_tbl := sf_in (List.mem_append_right _ (List.mem_of_getElem? (i := 130) (by decide +kernel))) rfl
theorem tm_131 : (Jvm.Cond.fieldLink "SaddleFit$Scale" (67 : Nat) "SaddleFit$Load" "pad" "[I") ∈ sf_tbl := sf_in (List.mem_append_right _ (List.mem_of_getElem? (i := 131) (by decide +kernel))) rfl
theorem tm_132 : (Jvm.Cond.fieldLink "SaddleFit$Load" (18 : Nat) "SaddleFit$Load" "first" "[I") ∈ sf_tbl := sf_in (List.mem_append_right _ (List.mem_of_getElem? (i := 132) (by decide +kernel))) rfl
theorem tm_133 : (Jvm.Cond.fieldLink "SaddleFit$Scale" (44 : Nat) "SaddleFit$Load" "first" "[I") ∈ sf_tbl := sf_in (List.mem_append_right _ (List.mem_of_getElem? (i := 133) (by decide +kernel))) rfl
theorem tm_134 : (Jvm.Cond.fieldLink "SaddleFit" (178 : Nat) "SaddleFit$Load" "first" "[I") ∈ sf_tbl := sf_in (List.mem_append_right _ (List.mem_of_getElem? (i := 134) (by decide +kernel))) rfl
theorem tm_135 : (Jvm.Cond.fieldLink "SaddleFit$Load" (21 : Nat) "SaddleFit$Load" "other" "[I") ∈ sf_tbl := sf_in (List.mem_append_right _ (List.mem_of_getElem? (i := 135) (by decide +kernel))) rfl
theorem tm_136 : (Jvm.Cond.fieldLink "SaddleFit" (181 : Nat) "SaddleFit$Load" "other" "[I") ∈ sf_tbl := sf_in (List.mem_append_right _ (List.mem_of_getElem? (i := 136) (by decide +kernel))) rfl
theorem tm_137 : (Jvm.Cond.fieldLink "SaddleFit$Scale" (117 : Nat) "SaddleFit$Load" "other" "[I") ∈ sf_tbl := sf_in (List.mem_append_right _ (List.mem_of_getElem? (i := 137) (by decide +kernel))) rfl
theorem tm_138 : (Jvm.Cond.fieldLink "SaddleFit$Load" (24 : Nat) "SaddleFit$Load" "soreness" "[I") ∈ sf_tbl := sf_in (List.mem_append_right _ (List.mem_of_getElem? (i := 138) (by decide +kernel))) rfl
theorem tm_139 : (Jvm.Cond.fieldLink "SaddleFit$Unloading" (29 : Nat) "SaddleFit$Load" "soreness" "[I") ∈ sf_tbl := sf_in (List.mem_append_right _ (List.mem_of_getElem? (i := 139) (by decide +kernel))) rfl
theorem tm_140 : (Jvm.Cond.fieldLink "SaddleFit$Book" (22 : Nat) "SaddleFit$Load" "soreness" "[I") ∈ sf_tbl := sf_in (List.mem_append_right _ (List.mem_of_getElem? (i := 140) (by decide +kernel))) rfl
theorem tm_141 : (Jvm.Cond.fieldLink "SaddleFit" (193 : Nat) "SaddleFit$Load" "soreness" "[I") ∈ sf_tbl := sf_in (List.mem_append_right _ (List.mem_of_getElem? (i := 141) (by decide +kernel))) rfl
theorem tm_142 : (Jvm.Cond.fieldLink "SaddleFit$Scale" (98 : Nat) "SaddleFit$Load" "soreness" "[I") ∈ sf_tbl := sf_in (List.mem_append_right _ (List.mem_of_getElem? (i := 142) (by decide +kernel))) rfl
theorem tm_158 : (Jvm.Cond.fieldLink "SaddleFit$Scale" (12 : Nat) "SaddleFit$Scale" "shop" "LSaddleFit$Shop;") ∈ sf_tbl := sf_in (List.mem_append_right _ (List.mem_of_getElem? (i := 158) (by decide +kernel))) rfl
theorem tm_160 : (Jvm.Cond.fieldLink "SaddleFit$Fitting" (43 : Nat) "SaddleFit$Scale" "shop" "LSaddleFit$Shop;") ∈ sf_tbl := sf_in (List.mem_append_right _ (List.mem_of_getElem? (i := 160) (by decide +kernel))) rfl
theorem tm_161 : (Jvm.Cond.fieldLink "SaddleFit$Unloading" (39 : Nat) "SaddleFit$Scale" "shop" "LSaddleFit$Shop;") ∈ sf_tbl := sf_in (List.mem_append_right _ (List.mem_of_getElem? (i := 161) (by decide +kernel))) rfl
theorem tm_162 : (Jvm.Cond.fieldLink "SaddleFit$Scale" (21 : Nat) "SaddleFit$Scale" "load" "LSaddleFit$Load;") ∈ sf_tbl := sf_in (List.mem_append_right _ (List.mem_of_getElem? (i := 162) (by decide +kernel))) rfl
theorem tm_164 : (Jvm.Cond.fieldLink "SaddleFit$Unloading" (25 : Nat) "SaddleFit$Scale" "load" "LSaddleFit$Load;") ∈ sf_tbl := sf_in (List.mem_append_right _ (List.mem_of_getElem? (i := 164) (by decide +kernel))) rfl
theorem tm_165 : (Jvm.Cond.fieldLink "SaddleFit$Fitting" (28 : Nat) "SaddleFit$Scale" "load" "LSaddleFit$Load;") ∈ sf_tbl := sf_in (List.mem_append_right _ (List.mem_of_getElem? (i := 165) (by decide +kernel))) rfl
theorem tm_177 : (Jvm.Cond.fieldLink "SaddleFit$Fitting" (64 : Nat) "SaddleFit$Fitting" "least" "I") ∈ sf_tbl := sf_in (List.mem_append_right _ (List.mem_of_getElem? (i := 177) (by decide +kernel))) rfl
theorem tm_178 : (Jvm.Cond.fieldLink "SaddleFit" (273 : Nat) "SaddleFit$Fitting" "least" "I") ∈ sf_tbl := sf_in (List.mem_append_right _ (List.mem_of_getElem? (i := 178) (by decide +kernel))) rfl
theorem tm_179 : (Jvm.Cond.fieldLink "SaddleFit$Fitting" (67 : Nat) "SaddleFit$Fitting" "bestPair" "I") ∈ sf_tbl := sf_in (List.mem_append_right _ (List.mem_of_getElem? (i := 179) (by decide +kernel))) rfl
theorem tm_180 : (Jvm.Cond.fieldLink "SaddleFit" (283 : Nat) "SaddleFit$Fitting" "bestPair" "I") ∈ sf_tbl := sf_in (List.mem_append_right _ (List.mem_of_getElem? (i := 180) (by decide +kernel))) rfl
theorem tm_181 : (Jvm.Cond.fieldLink "SaddleFit$Fitting" (9 : Nat) "SaddleFit$Fitting" "bestBack" "[I") ∈ sf_tbl := sf_in (List.mem_append_right _ (List.mem_of_getElem? (i := 181) (by decide +kernel))) rfl
theorem tm_182 : (Jvm.Cond.fieldLink "SaddleFit" (276 : Nat) "SaddleFit$Fitting" "bestBack" "[I") ∈ sf_tbl := sf_in (List.mem_append_right _ (List.mem_of_getElem? (i := 182) (by decide +kernel))) rfl
theorem tm_183 : (Jvm.Cond.fieldLink "SaddleFit$Fitting" (15 : Nat) "SaddleFit$Fitting" "parts" "[I") ∈ sf_tbl := sf_in (List.mem_append_right _ (List.mem_of_getElem? (i := 183) (by decide +kernel))) rfl
theorem tm_184 : (Jvm.Cond.fieldLink "SaddleFit$Fitting" (18 : Nat) "SaddleFit$Fitting" "triedBack" "[I") ∈ sf_tbl := sf_in (List.mem_append_right _ (List.mem_of_getElem? (i := 184) (by decide +kernel))) rfl
theorem tm_185 : (Jvm.Cond.fieldLink "SaddleFit$Fitting" (52 : Nat) "SaddleFit$Fitting" "triedPair" "I") ∈ sf_tbl := sf_in (List.mem_append_right _ (List.mem_of_getElem? (i := 185) (by decide +kernel))) rfl
theorem tm_205 : (Jvm.Cond.fieldLink "SaddleFit$Unloading" (10 : Nat) "SaddleFit$Unloading" "leastSore" "I") ∈ sf_tbl := sf_in (List.mem_append_right _ (List.mem_of_getElem? (i := 205) (by decide +kernel))) rfl
theorem tm_206 : (Jvm.Cond.fieldLink "SaddleFit" (289 : Nat) "SaddleFit$Unloading" "leastSore" "I") ∈ sf_tbl := sf_in (List.mem_append_right _ (List.mem_of_getElem? (i := 206) (by decide +kernel))) rfl
theorem tm_207 : (Jvm.Cond.fieldLink "SaddleFit$Unloading" (16 : Nat) "SaddleFit$Unloading" "bestFigures" "I") ∈ sf_tbl := sf_in (List.mem_append_right _ (List.mem_of_getElem? (i := 207) (by decide +kernel))) rfl
theorem tm_208 : (Jvm.Cond.fieldLink "SaddleFit" (292 : Nat) "SaddleFit$Unloading" "bestFigures" "I") ∈ sf_tbl := sf_in (List.mem_append_right _ (List.mem_of_getElem? (i := 208) (by decide +kernel))) rfl
theorem tm_223 : (Jvm.Cond.fieldLink "SaddleFit$Past" (18 : Nat) "SaddleFit$Past" "count" "I") ∈ sf_tbl := sf_in (List.mem_append_right _ (List.mem_of_getElem? (i := 223) (by decide +kernel))) rfl
theorem tm_224 : (Jvm.Cond.fieldLink "SaddleFit" (158 : Nat) "SaddleFit$Past" "count" "I") ∈ sf_tbl := sf_in (List.mem_append_right _ (List.mem_of_getElem? (i := 224) (by decide +kernel))) rfl
theorem tm_225 : (Jvm.Cond.fieldLink "SaddleFit$Past" (22 : Nat) "SaddleFit$Past" "next" "I") ∈ sf_tbl := sf_in (List.mem_append_right _ (List.mem_of_getElem? (i := 225) (by decide +kernel))) rfl
theorem tm_226 : (Jvm.Cond.fieldLink "SaddleFit$Past" (11 : Nat) "SaddleFit$Past" "loads" "[LSaddleFit$Load;") ∈ sf_tbl := sf_in (List.mem_append_right _ (List.mem_of_getElem? (i := 226) (by decide +kernel))) rfl
theorem tm_240 : (Jvm.Cond.fieldLink "SaddleFit$Feelings" (27 : Nat) "SaddleFit$Feelings" "count" "I") ∈ sf_tbl := sf_in (List.mem_append_right _ (List.mem_of_getElem? (i := 240) (by decide +kernel))) rfl
theorem tm_241 : (Jvm.Cond.fieldLink "SaddleFit" (154 : Nat) "SaddleFit$Feelings" "count" "I") ∈ sf_tbl := sf_in (List.mem_append_right _ (List.mem_of_getElem? (i := 241) (by decide +kernel))) rfl
theorem tm_242 : (Jvm.Cond.fieldLink "SaddleFit$Feelings" (31 : Nat) "SaddleFit$Feelings" "pairs" "I") ∈ sf_tbl := sf_in (List.mem_append_right _ (List.mem_of_getElem? (i := 242) (by decide +kernel))) rfl
theorem tm_243 : (Jvm.Cond.fieldLink "SaddleFit" (307 : Nat) "SaddleFit$Feelings" "pairs" "I") ∈ sf_tbl := sf_in (List.mem_append_right _ (List.mem_of_getElem? (i := 243) (by decide +kernel))) rfl
theorem tm_244 : (Jvm.Cond.fieldLink "SaddleFit$Feelings" (9 : Nat) "SaddleFit$Feelings" "edgesOfWeight" "[I") ∈ sf_tbl := sf_in (List.mem_append_right _ (List.mem_of_getElem? (i := 244) (by decide +kernel))) rfl
theorem tm_245 : (Jvm.Cond.fieldLink "SaddleFit$Feelings" (15 : Nat) "SaddleFit$Feelings" "strength" "[I") ∈ sf_tbl := sf_in (List.mem_append_right _ (List.mem_of_getElem? (i := 245) (by decide +kernel))) rfl
theorem tm_246 : (Jvm.Cond.fieldLink "SaddleFit$Feelings" (18 : Nat) "SaddleFit$Feelings" "pad" "[I") ∈ sf_tbl := sf_in (List.mem_append_right _ (List.mem_of_getElem? (i := 246) (by decide +kernel))) rfl
theorem tm_247 : (Jvm.Cond.fieldLink "SaddleFit$Feelings" (21 : Nat) "SaddleFit$Feelings" "galling" "[I") ∈ sf_tbl := sf_in (List.mem_append_right _ (List.mem_of_getElem? (i := 247) (by decide +kernel))) rfl
theorem tm_248 : (Jvm.Cond.fieldLink "SaddleFit$Feelings" (24 : Nat) "SaddleFit$Feelings" "alike" "[I") ∈ sf_tbl := sf_in (List.mem_append_right _ (List.mem_of_getElem? (i := 248) (by decide +kernel))) rfl
theorem tm_270 : (Jvm.Cond.fieldLink "SaddleFit$Book" (18 : Nat) "SaddleFit$Book" "count" "I") ∈ sf_tbl := sf_in (List.mem_append_right _ (List.mem_of_getElem? (i := 270) (by decide +kernel))) rfl
theorem tm_271 : (Jvm.Cond.fieldLink "SaddleFit" (157 : Nat) "SaddleFit$Book" "count" "I") ∈ sf_tbl := sf_in (List.mem_append_right _ (List.mem_of_getElem? (i := 271) (by decide +kernel))) rfl
theorem tm_272 : (Jvm.Cond.fieldLink "SaddleFit$Book" (9 : Nat) "SaddleFit$Book" "back" "[I") ∈ sf_tbl := sf_in (List.mem_append_right _ (List.mem_of_getElem? (i := 272) (by decide +kernel))) rfl
theorem tm_273 : (Jvm.Cond.fieldLink "SaddleFit$Book" (15 : Nat) "SaddleFit$Book" "soreness" "[I") ∈ sf_tbl := sf_in (List.mem_append_right _ (List.mem_of_getElem? (i := 273) (by decide +kernel))) rfl
theorem tm_283 : (Jvm.Cond.fieldLink "SaddleFit" (10 : Nat) "SaddleFit" "reader" "LSaddleFit$Reader;") ∈ sf_tbl := sf_in (List.mem_append_right _ (List.mem_of_getElem? (i := 283) (by decide +kernel))) rfl
theorem tm_284 : (Jvm.Cond.fieldLink "SaddleFit" (19 : Nat) "SaddleFit" "draft" "LSaddleFit$Shop;") ∈ sf_tbl := sf_in (List.mem_append_right _ (List.mem_of_getElem? (i := 284) (by decide +kernel))) rfl
theorem tm_285 : (Jvm.Cond.fieldLink "SaddleFit" (26 : Nat) "SaddleFit" "scale" "LSaddleFit$Scale;") ∈ sf_tbl := sf_in (List.mem_append_right _ (List.mem_of_getElem? (i := 285) (by decide +kernel))) rfl
theorem tm_286 : (Jvm.Cond.fieldLink "SaddleFit" (33 : Nat) "SaddleFit" "shop" "LSaddleFit$Shop;") ∈ sf_tbl := sf_in (List.mem_append_right _ (List.mem_of_getElem? (i := 286) (by decide +kernel))) rfl
theorem tm_287 : (Jvm.Cond.fieldLink "SaddleFit" (38 : Nat) "SaddleFit" "load" "LSaddleFit$Load;") ∈ sf_tbl := sf_in (List.mem_append_right _ (List.mem_of_getElem? (i := 287) (by decide +kernel))) rfl
theorem tm_288 : (Jvm.Cond.fieldLink "SaddleFit" (42 : Nat) "SaddleFit" "fitting" "LSaddleFit$Fitting;") ∈ sf_tbl := sf_in (List.mem_append_right _ (List.mem_of_getElem? (i := 288) (by decide +kernel))) rfl
theorem tm_289 : (Jvm.Cond.fieldLink "SaddleFit" (49 : Nat) "SaddleFit" "unloading" "LSaddleFit$Unloading;") ∈ sf_tbl := sf_in (List.mem_append_right _ (List.mem_of_getElem? (i := 289) (by decide +kernel))) rfl
theorem tm_290 : (Jvm.Cond.fieldLink "SaddleFit" (56 : Nat) "SaddleFit" "past" "LSaddleFit$Past;") ∈ sf_tbl := sf_in (List.mem_append_right _ (List.mem_of_getElem? (i := 290) (by decide +kernel))) rfl
theorem tm_291 : (Jvm.Cond.fieldLink "SaddleFit" (63 : Nat) "SaddleFit" "feelings" "LSaddleFit$Feelings;") ∈ sf_tbl := sf_in (List.mem_append_right _ (List.mem_of_getElem? (i := 291) (by decide +kernel))) rfl
theorem tm_292 : (Jvm.Cond.fieldLink "SaddleFit" (70 : Nat) "SaddleFit" "book" "LSaddleFit$Book;") ∈ sf_tbl := sf_in (List.mem_append_right _ (List.mem_of_getElem? (i := 292) (by decide +kernel))) rfl
theorem tm_293 : (Jvm.Cond.fieldLink "SaddleFit" (76 : Nat) "SaddleFit" "images" "[LSaddleFit$Load;") ∈ sf_tbl := sf_in (List.mem_append_right _ (List.mem_of_getElem? (i := 293) (by decide +kernel))) rfl
theorem tm_294 : (Jvm.Cond.fieldLink "SaddleFit" (80 : Nat) "SaddleFit" "imageSeeds" "[I") ∈ sf_tbl := sf_in (List.mem_append_right _ (List.mem_of_getElem? (i := 294) (by decide +kernel))) rfl
theorem tm_295 : (Jvm.Cond.fieldLink "SaddleFit" (84 : Nat) "SaddleFit" "imageKept" "[Z") ∈ sf_tbl := sf_in (List.mem_append_right _ (List.mem_of_getElem? (i := 295) (by decide +kernel))) rfl
theorem tm_296 : (Jvm.Cond.fieldLink "SaddleFit" (325 : Nat) "SaddleFit" "seed" "I") ∈ sf_tbl := sf_in (List.mem_append_right _ (List.mem_of_getElem? (i := 296) (by decide +kernel))) rfl
theorem tm_331 : (Jvm.Cond.methodLink "SaddleFit" (89 : Nat) ({ cls := "SaddleFit", name := "within", desc := "(III)Z" } : Jvm.MethodName)) ∈ sf_tbl := sf_in (List.mem_append_right _ (List.mem_of_getElem? (i := 331) (by decide +kernel))) rfl
theorem tm_332 : (Jvm.Cond.static ({ cls := "SaddleFit", name := "within", desc := "(III)Z" } : Jvm.MethodName)) ∈ sf_tbl := sf_in (List.mem_append_right _ (List.mem_of_getElem? (i := 332) (by decide +kernel))) rfl
set_option maxRecDepth 100000 in
theorem tm_333 : (Jvm.Cond.code ({ cls := "SaddleFit", name := "within", desc := "(III)Z" } : Jvm.MethodName) prog_1_method_35_code (3 : Nat) (Option.some Jvm.ClassFile.FieldType.boolean)) ∈ sf_tbl := sf_in (List.mem_append_right _ (List.mem_of_getElem? (i := 333) rfl)) rfl
theorem tm_334 : (Jvm.Cond.constant "SaddleFit" (93 : Nat) (-1000000002 : Int32)) ∈ sf_tbl := sf_in (List.mem_append_right _ (List.mem_of_getElem? (i := 334) (by decide +kernel))) rfl
theorem tm_335 : (Jvm.Cond.methodLink "SaddleFit" (94 : Nat) ({ cls := "SaddleFit$Reader", name := "add", desc := "(I)Z" } : Jvm.MethodName)) ∈ sf_tbl := sf_in (List.mem_append_right _ (List.mem_of_getElem? (i := 335) (by decide +kernel))) rfl
theorem tm_336 : (Jvm.Cond.instanceMethod ({ cls := "SaddleFit$Reader", name := "add", desc := "(I)Z" } : Jvm.MethodName)) ∈ sf_tbl := sf_in (List.mem_append_right _ (List.mem_of_getElem? (i := 336) (by decide +kernel))) rfl
theorem tm_337 : (Jvm.Cond.selects "SaddleFit$Reader" ({ cls := "SaddleFit$Reader", name := "add", desc := "(I)Z" } : Jvm.MethodName) ({ cls := "SaddleFit$Reader", name := "add", desc := "(I)Z" } : Jvm.MethodName)) ∈ sf_tbl := sf_in (List.mem_append_right _ (List.mem_of_getElem? (i := 337) (by decide +kernel))) rfl
set_option maxRecDepth 100000 in
theorem tm_338 : (Jvm.Cond.code ({ cls := "SaddleFit$Reader", name := "add", desc := "(I)Z" } : Jvm.MethodName) prog_7_method_2_code (2 : Nat) (Option.some Jvm.ClassFile.FieldType.boolean)) ∈ sf_tbl := sf_in (List.mem_append_right _ (List.mem_of_getElem? (i := 338) rfl)) rfl
theorem tm_339 : (Jvm.Cond.constant "SaddleFit" (102 : Nat) (-1000000004 : Int32)) ∈ sf_tbl := sf_in (List.mem_append_right _ (List.mem_of_getElem? (i := 339) (by decide +kernel))) rfl
theorem tm_344 : (Jvm.Cond.methodLink "SaddleFit" (103 : Nat) ({ cls := "SaddleFit$Reader", name := "readInto", desc := "(LSaddleFit$Shop;)I" } : Jvm.MethodName)) ∈ sf_tbl := sf_in (List.mem_append_right _ (List.mem_of_getElem? (i := 344) (by decide +kernel))) rfl
theorem tm_345 : (Jvm.Cond.instanceMethod ({ cls := "SaddleFit$Reader", name := "readInto", desc := "(LSaddleFit$Shop;)I" } : Jvm.MethodName)) ∈ sf_tbl := sf_in (List.mem_append_right _ (List.mem_of_getElem? (i := 345) (by decide +kernel))) rfl
theorem tm_346 : (Jvm.Cond.selects "SaddleFit$Reader" ({ cls := "SaddleFit$Reader", name := "readInto", desc := "(LSaddleFit$Shop;)I" } : Jvm.MethodName) ({ cls := "SaddleFit$Reader", name := "readInto", desc := "(LSaddleFit$Shop;)I" } : Jvm.MethodName)) ∈ sf_tbl := sf_in (List.mem_append_right _ (List.mem_of_getElem? (i := 346) (by decide +kernel))) rfl
set_option maxRecDepth 100000 in
theorem tm_347 : (Jvm.Cond.code ({ cls := "SaddleFit$Reader", name := "readInto", desc := "(LSaddleFit$Shop;)I" } : Jvm.MethodName) prog_7_method_3_code (3 : Nat) (Option.some Jvm.ClassFile.FieldType.int)) ∈ sf_tbl := sf_in (List.mem_append_right _ (List.mem_of_getElem? (i := 347) rfl)) rfl
theorem tm_348 : (Jvm.Cond.methodLink "SaddleFit$Reader" (22 : Nat) ({ cls := "SaddleFit$Shop", name := "clear", desc := "()V" } : Jvm.MethodName)) ∈ sf_tbl := sf_in (List.mem_append_right _ (List.mem_of_getElem? (i := 348) (by decide +kernel))) rfl
theorem tm_349 : (Jvm.Cond.instanceMethod ({ cls := "SaddleFit$Shop", name := "clear", desc := "()V" } : Jvm.MethodName)) ∈ sf_tbl := sf_in (List.mem_append_right _ (List.mem_of_getElem? (i := 349) (by decide +kernel))) rfl
theorem tm_350 : (Jvm.Cond.selects "SaddleFit$Shop" ({ cls := "SaddleFit$Shop", name := "clear", desc := "()V" } : Jvm.MethodName) ({ cls := "SaddleFit$Shop", name := "clear", desc := "()V" } : Jvm.MethodName)) ∈ sf_tbl := sf_in (List.mem_append_right _ (List.mem_of_getElem? (i := 350) (by decide +kernel))) rfl
set_option maxRecDepth 100000 in
theorem tm_351 : (Jvm.Cond.code ({ cls := "SaddleFit$Shop", name := "clear", desc := "()V" } : Jvm.MethodName) prog_9_method_5_code (1 : Nat) (Option.none : Option Jvm.ClassFile.FieldType)) ∈ sf_tbl := sf_in (List.mem_append_right _ (List.mem_of_getElem? (i := 351) rfl)) rfl
theorem tm_352 : (Jvm.Cond.methodLink "SaddleFit$Reader" (33 : Nat) ({ cls := "SaddleFit$Reader", name := "passBlanks", desc := "()V" } : Jvm.MethodName)) ∈ sf_tbl := sf_in (List.mem_append_right _ (List.mem_of_getElem? (i := 352) (by decide +kernel))) rfl
theorem tm_354 : (Jvm.Cond.instanceMethod ({ cls := "SaddleFit$Reader", name := "passBlanks", desc := "()V" } : Jvm.MethodName)) ∈ sf_tbl := sf_in (List.mem_append_right _ (List.mem_of_getElem? (i := 354) (by decide +kernel))) rfl
set_option maxRecDepth 100000 in
theorem tm_355 : (Jvm.Cond.code ({ cls := "SaddleFit$Reader", name := "passBlanks", desc := "()V" } : Jvm.MethodName) prog_7_method_8_code (1 : Nat) (Option.none : Option Jvm.ClassFile.FieldType)) ∈ sf_tbl := sf_in (List.mem_append_right _ (List.mem_of_getElem? (i := 355) rfl)) rfl
theorem tm_356 : (Jvm.Cond.methodLink "SaddleFit$Reader" (40 : Nat) ({ cls := "SaddleFit$Reader", name := "letterHere", desc := "()I" } : Jvm.MethodName)) ∈ sf_tbl := sf_in (List.mem_append_right _ (List.mem_of_getElem? (i := 356) (by decide +kernel))) rfl
theorem tm_358 : (Jvm.Cond.instanceMethod ({ cls := "SaddleFit$Reader", name := "letterHere", desc := "()I" } : Jvm.MethodName)) ∈ sf_tbl := sf_in (List.mem_append_right _ (List.mem_of_getElem? (i := 358) (by decide +kernel))) rfl
set_option maxRecDepth 100000 in
theorem tm_359 : (Jvm.Cond.code ({ cls := "SaddleFit$Reader", name := "letterHere", desc := "()I" } : Jvm.MethodName) prog_7_method_9_code (1 : Nat) (Option.some Jvm.ClassFile.FieldType.int)) ∈ sf_tbl := sf_in (List.mem_append_right _ (List.mem_of_getElem? (i := 359) rfl)) rfl
theorem tm_360 : (Jvm.Cond.methodLink "SaddleFit$Reader" (36 : Nat) ({ cls := "SaddleFit$Reader", name := "readClause", desc := "(LSaddleFit$Shop;)V" } : Jvm.MethodName)) ∈ sf_tbl := sf_in (List.mem_append_right _ (List.mem_of_getElem? (i := 360) (by decide +kernel))) rfl
theorem tm_362 : (Jvm.Cond.instanceMethod ({ cls := "SaddleFit$Reader", name := "readClause", desc := "(LSaddleFit$Shop;)V" } : Jvm.MethodName)) ∈ sf_tbl := sf_in (List.mem_append_right _ (List.mem_of_getElem? (i := 362) (by decide +kernel))) rfl
set_option maxRecDepth 100000 in
theorem tm_363 : (Jvm.Cond.code ({ cls := "SaddleFit$Reader", name := "readClause", desc := "(LSaddleFit$Shop;)V" } : Jvm.MethodName) prog_7_method_4_code (7 : Nat) (Option.none : Option Jvm.ClassFile.FieldType)) ∈ sf_tbl := sf_in (List.mem_append_right _ (List.mem_of_getElem? (i := 363) rfl)) rfl
theorem tm_364 : (Jvm.Cond.methodLink "SaddleFit$Reader" (44 : Nat) ({ cls := "SaddleFit$Reader", name := "faultOfWord", desc := "(LSaddleFit$Shop;I)I" } : Jvm.MethodName)) ∈ sf_tbl := sf_in (List.mem_append_right _ (List.mem_of_getElem? (i := 364) (by decide +kernel))) rfl
theorem tm_365 : (Jvm.Cond.static ({ cls := "SaddleFit$Reader", name := "faultOfWord", desc := "(LSaddleFit$Shop;I)I" } : Jvm.MethodName)) ∈ sf_tbl := sf_in (List.mem_append_right _ (List.mem_of_getElem? (i := 365) (by decide +kernel))) rfl
set_option maxRecDepth 100000 in
theorem tm_366 : (Jvm.Cond.code ({ cls := "SaddleFit$Reader", name := "faultOfWord", desc := "(LSaddleFit$Shop;I)I" } : Jvm.MethodName) prog_7_method_5_code (3 : Nat) (Option.some Jvm.ClassFile.FieldType.int)) ∈ sf_tbl := sf_in (List.mem_append_right _ (List.mem_of_getElem? (i := 366) rfl)) rfl
theorem tm_367 : (Jvm.Cond.methodLink "SaddleFit$Reader" (48 : Nat) ({ cls := "SaddleFit$Reader", name := "blame", desc := "(II)V" } : Jvm.MethodName)) ∈ sf_tbl := sf_in (List.mem_append_right _ (List.mem_of_getElem? (i := 367) (by decide +kernel))) rfl
theorem tm_369 : (Jvm.Cond.instanceMethod ({ cls := "SaddleFit$Reader", name := "blame", desc := "(II)V" } : Jvm.MethodName)) ∈ sf_tbl := sf_in (List.mem_append_right _ (List.mem_of_getElem? (i := 369) (by decide +kernel))) rfl
set_option maxRecDepth 100000 in
theorem tm_370 : (Jvm.Cond.code ({ cls := "SaddleFit$Reader", name := "blame", desc := "(II)V" } : Jvm.MethodName) prog_7_method_11_code (3 : Nat) (Option.none : Option Jvm.ClassFile.FieldType)) ∈ sf_tbl := sf_in (List.mem_append_right _ (List.mem_of_getElem? (i := 370) rfl)) rfl
theorem tm_371 : (Jvm.Cond.methodLink "SaddleFit$Reader" (52 : Nat) ({ cls := "SaddleFit$Reader", name := "readNumber", desc := "(II)I" } : Jvm.MethodName)) ∈ sf_tbl := sf_in (List.mem_append_right _ (List.mem_of_getElem? (i := 371) (by decide +kernel))) rfl
theorem tm_373 : (Jvm.Cond.instanceMethod ({ cls := "SaddleFit$Reader", name := "readNumber", desc := "(II)I" } : Jvm.MethodName)) ∈ sf_tbl := sf_in (List.mem_append_right _ (List.mem_of_getElem? (i := 373) (by decide +kernel))) rfl
set_option maxRecDepth 100000 in
theorem tm_374 : (Jvm.Cond.code ({ cls := "SaddleFit$Reader", name := "readNumber", desc := "(II)I" } : Jvm.MethodName) prog_7_method_6_code (5 : Nat) (Option.some Jvm.ClassFile.FieldType.int)) ∈ sf_tbl := sf_in (List.mem_append_right _ (List.mem_of_getElem? (i := 374) rfl)) rfl
theorem tm_375 : (Jvm.Cond.methodLink "SaddleFit$Reader" (79 : Nat) ({ cls := "SaddleFit$Reader", name := "isFigure", desc := "(I)Z" } : Jvm.MethodName)) ∈ sf_tbl := sf_in (List.mem_append_right _ (List.mem_of_getElem? (i := 375) (by decide +kernel))) rfl
theorem tm_376 : (Jvm.Cond.static ({ cls := "SaddleFit$Reader", name := "isFigure", desc := "(I)Z" } : Jvm.MethodName)) ∈ sf_tbl := sf_in (List.mem_append_right _ (List.mem_of_getElem? (i := 376) (by decide +kernel))) rfl
set_option maxRecDepth 100000 in
theorem tm_377 : (Jvm.Cond.code ({ cls := "SaddleFit$Reader", name := "isFigure", desc := "(I)Z" } : Jvm.MethodName) prog_7_method_10_code (1 : Nat) (Option.some Jvm.ClassFile.FieldType.boolean)) ∈ sf_tbl := sf_in (List.mem_append_right _ (List.mem_of_getElem? (i := 377) rfl)) rfl
theorem tm_378 : (Jvm.Cond.methodLinkNest "SaddleFit$Reader" (83 : Nat) ({ cls := "SaddleFit", name := "within", desc := "(III)Z" } : Jvm.MethodName) "SaddleFit") ∈ lw_tbl := List.mem_append_right _ (List.mem_of_getElem? (i := 378) (by decide +kernel))
theorem tm_379 : (Jvm.Cond.methodLink "SaddleFit$Reader" (56 : Nat) ({ cls := "SaddleFit$Reader", name := "endClause", desc := "()V" } : Jvm.MethodName)) ∈ sf_tbl := sf_in (List.mem_append_right _ (List.mem_of_getElem? (i := 379) (by decide +kernel))) rfl
theorem tm_381 : (Jvm.Cond.instanceMethod ({ cls := "SaddleFit$Reader", name := "endClause", desc := "()V" } : Jvm.MethodName)) ∈ sf_tbl := sf_in (List.mem_append_right _ (List.mem_of_getElem? (i := 381) (by decide +kernel))) rfl
set_option maxRecDepth 100000 in
theorem tm_382 : (Jvm.Cond.code ({ cls := "SaddleFit$Reader", name := "endClause", desc := "()V" } : Jvm.MethodName) prog_7_method_7_code (1 : Nat) (Option.none : Option Jvm.ClassFile.FieldType)) ∈ sf_tbl := sf_in (List.mem_append_right _ (List.mem_of_getElem? (i := 382) rfl)) rfl
theorem tm_383 : (Jvm.Cond.methodLink "SaddleFit$Reader" (66 : Nat) ({ cls := "SaddleFit$Shop", name := "addBurden", desc := "(III)V" } : Jvm.MethodName)) ∈ sf_tbl := sf_in (List.mem_append_right _ (List.mem_of_getElem? (i := 383) (by decide +kernel))) rfl
theorem tm_384 : (Jvm.Cond.instanceMethod ({ cls := "SaddleFit$Shop", name := "addBurden", desc := "(III)V" } : Jvm.MethodName)) ∈ sf_tbl := sf_in (List.mem_append_right _ (List.mem_of_getElem? (i := 384) (by decide +kernel))) rfl
theorem tm_385 : (Jvm.Cond.selects "SaddleFit$Shop" ({ cls := "SaddleFit$Shop", name := "addBurden", desc := "(III)V" } : Jvm.MethodName) ({ cls := "SaddleFit$Shop", name := "addBurden", desc := "(III)V" } : Jvm.MethodName)) ∈ sf_tbl := sf_in (List.mem_append_right _ (List.mem_of_getElem? (i := 385) (by decide +kernel))) rfl
set_option maxRecDepth 100000 in
theorem tm_386 : (Jvm.Cond.code ({ cls := "SaddleFit$Shop", name := "addBurden", desc := "(III)V" } : Jvm.MethodName) prog_9_method_6_code (4 : Nat) (Option.none : Option Jvm.ClassFile.FieldType)) ∈ sf_tbl := sf_in (List.mem_append_right _ (List.mem_of_getElem? (i := 386) rfl)) rfl
theorem tm_387 : (Jvm.Cond.methodLink "SaddleFit$Reader" (70 : Nat) ({ cls := "SaddleFit$Shop", name := "addBack", desc := "(II)V" } : Jvm.MethodName)) ∈ sf_tbl := sf_in (List.mem_append_right _ (List.mem_of_getElem? (i := 387) (by decide +kernel))) rfl
theorem tm_388 : (Jvm.Cond.instanceMethod ({ cls := "SaddleFit$Shop", name := "addBack", desc := "(II)V" } : Jvm.MethodName)) ∈ sf_tbl := sf_in (List.mem_append_right _ (List.mem_of_getElem? (i := 388) (by decide +kernel))) rfl
theorem tm_389 : (Jvm.Cond.selects "SaddleFit$Shop" ({ cls := "SaddleFit$Shop", name := "addBack", desc := "(II)V" } : Jvm.MethodName) ({ cls := "SaddleFit$Shop", name := "addBack", desc := "(II)V" } : Jvm.MethodName)) ∈ sf_tbl := sf_in (List.mem_append_right _ (List.mem_of_getElem? (i := 389) (by decide +kernel))) rfl
set_option maxRecDepth 100000 in
theorem tm_390 : (Jvm.Cond.code ({ cls := "SaddleFit$Shop", name := "addBack", desc := "(II)V" } : Jvm.MethodName) prog_9_method_7_code (3 : Nat) (Option.none : Option Jvm.ClassFile.FieldType)) ∈ sf_tbl := sf_in (List.mem_append_right _ (List.mem_of_getElem? (i := 390) rfl)) rfl
theorem tm_391 : (Jvm.Cond.methodLink "SaddleFit" (107 : Nat) ({ cls := "SaddleFit$Shop", name := "copyFrom", desc := "(LSaddleFit$Shop;)V" } : Jvm.MethodName)) ∈ sf_tbl := sf_in (List.mem_append_right _ (List.mem_of_getElem? (i := 391) (by decide +kernel))) rfl
theorem tm_392 : (Jvm.Cond.instanceMethod ({ cls := "SaddleFit$Shop", name := "copyFrom", desc := "(LSaddleFit$Shop;)V" } : Jvm.MethodName)) ∈ sf_tbl := sf_in (List.mem_append_right _ (List.mem_of_getElem? (i := 392) (by decide +kernel))) rfl
theorem tm_393 : (Jvm.Cond.selects "SaddleFit$Shop" ({ cls := "SaddleFit$Shop", name := "copyFrom", desc := "(LSaddleFit$Shop;)V" } : Jvm.MethodName) ({ cls := "SaddleFit$Shop", name := "copyFrom", desc := "(LSaddleFit$Shop;)V" } : Jvm.MethodName)) ∈ sf_tbl := sf_in (List.mem_append_right _ (List.mem_of_getElem? (i := 393) (by decide +kernel))) rfl
set_option maxRecDepth 100000 in
theorem tm_394 : (Jvm.Cond.code ({ cls := "SaddleFit$Shop", name := "copyFrom", desc := "(LSaddleFit$Shop;)V" } : Jvm.MethodName) prog_9_method_8_code (3 : Nat) (Option.none : Option Jvm.ClassFile.FieldType)) ∈ sf_tbl := sf_in (List.mem_append_right _ (List.mem_of_getElem? (i := 394) rfl)) rfl
theorem tm_395 : (Jvm.Cond.methodLink "SaddleFit" (111 : Nat) ({ cls := "SaddleFit$Load", name := "startOf", desc := "(LSaddleFit$Shop;)V" } : Jvm.MethodName)) ∈ sf_tbl := sf_in (List.mem_append_right _ (List.mem_of_getElem? (i := 395) (by decide +kernel))) rfl
theorem tm_396 : (Jvm.Cond.instanceMethod ({ cls := "SaddleFit$Load", name := "startOf", desc := "(LSaddleFit$Shop;)V" } : Jvm.MethodName)) ∈ sf_tbl := sf_in (List.mem_append_right _ (List.mem_of_getElem? (i := 396) (by decide +kernel))) rfl
theorem tm_397 : (Jvm.Cond.selects "SaddleFit$Load" ({ cls := "SaddleFit$Load", name := "startOf", desc := "(LSaddleFit$Shop;)V" } : Jvm.MethodName) ({ cls := "SaddleFit$Load", name := "startOf", desc := "(LSaddleFit$Shop;)V" } : Jvm.MethodName)) ∈ sf_tbl := sf_in (List.mem_append_right _ (List.mem_of_getElem? (i := 397) (by decide +kernel))) rfl
set_option maxRecDepth 100000 in
theorem tm_398 : (Jvm.Cond.code ({ cls := "SaddleFit$Load", name := "startOf", desc := "(LSaddleFit$Shop;)V" } : Jvm.MethodName) prog_5_method_2_code (3 : Nat) (Option.none : Option Jvm.ClassFile.FieldType)) ∈ sf_tbl := sf_in (List.mem_append_right _ (List.mem_of_getElem? (i := 398) rfl)) rfl
theorem tm_399 : (Jvm.Cond.methodLink "SaddleFit" (114 : Nat) ({ cls := "SaddleFit$Feelings", name := "clear", desc := "()V" } : Jvm.MethodName)) ∈ sf_tbl := sf_in (List.mem_append_right _ (List.mem_of_getElem? (i := 399) (by decide +kernel))) rfl
theorem tm_400 : (Jvm.Cond.instanceMethod ({ cls := "SaddleFit$Feelings", name := "clear", desc := "()V" } : Jvm.MethodName)) ∈ sf_tbl := sf_in (List.mem_append_right _ (List.mem_of_getElem? (i := 400) (by decide +kernel))) rfl
theorem tm_401 : (Jvm.Cond.selects "SaddleFit$Feelings" ({ cls := "SaddleFit$Feelings", name := "clear", desc := "()V" } : Jvm.MethodName) ({ cls := "SaddleFit$Feelings", name := "clear", desc := "()V" } : Jvm.MethodName)) ∈ sf_tbl := sf_in (List.mem_append_right _ (List.mem_of_getElem? (i := 401) (by decide +kernel))) rfl
set_option maxRecDepth 100000 in
theorem tm_402 : (Jvm.Cond.code ({ cls := "SaddleFit$Feelings", name := "clear", desc := "()V" } : Jvm.MethodName) prog_3_method_2_code (1 : Nat) (Option.none : Option Jvm.ClassFile.FieldType)) ∈ sf_tbl := sf_in (List.mem_append_right _ (List.mem_of_getElem? (i := 402) rfl)) rfl
theorem tm_403 : (Jvm.Cond.methodLink "SaddleFit" (117 : Nat) ({ cls := "SaddleFit$Book", name := "clear", desc := "()V" } : Jvm.MethodName)) ∈ sf_tbl := sf_in (List.mem_append_right _ (List.mem_of_getElem? (i := 403) (by decide +kernel))) rfl
theorem tm_404 : (Jvm.Cond.instanceMethod ({ cls := "SaddleFit$Book", name := "clear", desc := "()V" } : Jvm.MethodName)) ∈ sf_tbl := sf_in (List.mem_append_right _ (List.mem_of_getElem? (i := 404) (by decide +kernel))) rfl
theorem tm_405 : (Jvm.Cond.selects "SaddleFit$Book" ({ cls := "SaddleFit$Book", name := "clear", desc := "()V" } : Jvm.MethodName) ({ cls := "SaddleFit$Book", name := "clear", desc := "()V" } : Jvm.MethodName)) ∈ sf_tbl := sf_in (List.mem_append_right _ (List.mem_of_getElem? (i := 405) (by decide +kernel))) rfl
set_option maxRecDepth 100000 in
theorem tm_406 : (Jvm.Cond.code ({ cls := "SaddleFit$Book", name := "clear", desc := "()V" } : Jvm.MethodName) prog_2_method_2_code (1 : Nat) (Option.none : Option Jvm.ClassFile.FieldType)) ∈ sf_tbl := sf_in (List.mem_append_right _ (List.mem_of_getElem? (i := 406) rfl)) rfl
theorem tm_407 : (Jvm.Cond.methodLink "SaddleFit" (118 : Nat) ({ cls := "SaddleFit$Past", name := "clear", desc := "()V" } : Jvm.MethodName)) ∈ sf_tbl := sf_in (List.mem_append_right _ (List.mem_of_getElem? (i := 407) (by decide +kernel))) rfl
theorem tm_408 : (Jvm.Cond.instanceMethod ({ cls := "SaddleFit$Past", name := "clear", desc := "()V" } : Jvm.MethodName)) ∈ sf_tbl := sf_in (List.mem_append_right _ (List.mem_of_getElem? (i := 408) (by decide +kernel))) rfl
theorem tm_409 : (Jvm.Cond.selects "SaddleFit$Past" ({ cls := "SaddleFit$Past", name := "clear", desc := "()V" } : Jvm.MethodName) ({ cls := "SaddleFit$Past", name := "clear", desc := "()V" } : Jvm.MethodName)) ∈ sf_tbl := sf_in (List.mem_append_right _ (List.mem_of_getElem? (i := 409) (by decide +kernel))) rfl
set_option maxRecDepth 100000 in
theorem tm_410 : (Jvm.Cond.code ({ cls := "SaddleFit$Past", name := "clear", desc := "()V" } : Jvm.MethodName) prog_6_method_2_code (1 : Nat) (Option.none : Option Jvm.ClassFile.FieldType)) ∈ sf_tbl := sf_in (List.mem_append_right _ (List.mem_of_getElem? (i := 410) rfl)) rfl
theorem tm_419 : (Jvm.Cond.methodLink "SaddleFit" (134 : Nat) ({ cls := "SaddleFit$Scale", name := "galled", desc := "()I" } : Jvm.MethodName)) ∈ sf_tbl := sf_in (List.mem_append_right _ (List.mem_of_getElem? (i := 419) (by decide +kernel))) rfl
theorem tm_420 : (Jvm.Cond.instanceMethod ({ cls := "SaddleFit$Scale", name := "galled", desc := "()I" } : Jvm.MethodName)) ∈ sf_tbl := sf_in (List.mem_append_right _ (List.mem_of_getElem? (i := 420) (by decide +kernel))) rfl
theorem tm_421 : (Jvm.Cond.selects "SaddleFit$Scale" ({ cls := "SaddleFit$Scale", name := "galled", desc := "()I" } : Jvm.MethodName) ({ cls := "SaddleFit$Scale", name := "galled", desc := "()I" } : Jvm.MethodName)) ∈ sf_tbl := sf_in (List.mem_append_right _ (List.mem_of_getElem? (i := 421) (by decide +kernel))) rfl
set_option maxRecDepth 100000 in
theorem tm_422 : (Jvm.Cond.code ({ cls := "SaddleFit$Scale", name := "galled", desc := "()I" } : Jvm.MethodName) prog_8_method_12_code (3 : Nat) (Option.some Jvm.ClassFile.FieldType.int)) ∈ sf_tbl := sf_in (List.mem_append_right _ (List.mem_of_getElem? (i := 422) rfl)) rfl
theorem tm_423 : (Jvm.Cond.methodLink "SaddleFit" (138 : Nat) ({ cls := "SaddleFit$Scale", name := "gallingOfAll", desc := "(I)I" } : Jvm.MethodName)) ∈ sf_tbl := sf_in (List.mem_append_right _ (List.mem_of_getElem? (i := 423) (by decide +kernel))) rfl
theorem tm_424 : (Jvm.Cond.instanceMethod ({ cls := "SaddleFit$Scale", name := "gallingOfAll", desc := "(I)I" } : Jvm.MethodName)) ∈ sf_tbl := sf_in (List.mem_append_right _ (List.mem_of_getElem? (i := 424) (by decide +kernel))) rfl
theorem tm_425 : (Jvm.Cond.selects "SaddleFit$Scale" ({ cls := "SaddleFit$Scale", name := "gallingOfAll", desc := "(I)I" } : Jvm.MethodName) ({ cls := "SaddleFit$Scale", name := "gallingOfAll", desc := "(I)I" } : Jvm.MethodName)) ∈ sf_tbl := sf_in (List.mem_append_right _ (List.mem_of_getElem? (i := 425) (by decide +kernel))) rfl
set_option maxRecDepth 100000 in
theorem tm_426 : (Jvm.Cond.code ({ cls := "SaddleFit$Scale", name := "gallingOfAll", desc := "(I)I" } : Jvm.MethodName) prog_8_method_11_code (4 : Nat) (Option.some Jvm.ClassFile.FieldType.int)) ∈ sf_tbl := sf_in (List.mem_append_right _ (List.mem_of_getElem? (i := 426) rfl)) rfl
theorem tm_427 : (Jvm.Cond.methodLink "SaddleFit$Scale" (47 : Nat) ({ cls := "SaddleFit$Scale", name := "carriedBy", desc := "(I)I" } : Jvm.MethodName)) ∈ sf_tbl := sf_in (List.mem_append_right _ (List.mem_of_getElem? (i := 427) (by decide +kernel))) rfl
theorem tm_428 : (Jvm.Cond.instanceMethod ({ cls := "SaddleFit$Scale", name := "carriedBy", desc := "(I)I" } : Jvm.MethodName)) ∈ sf_tbl := sf_in (List.mem_append_right _ (List.mem_of_getElem? (i := 428) (by decide +kernel))) rfl
theorem tm_429 : (Jvm.Cond.selects "SaddleFit$Scale" ({ cls := "SaddleFit$Scale", name := "carriedBy", desc := "(I)I" } : Jvm.MethodName) ({ cls := "SaddleFit$Scale", name := "carriedBy", desc := "(I)I" } : Jvm.MethodName)) ∈ sf_tbl := sf_in (List.mem_append_right _ (List.mem_of_getElem? (i := 429) (by decide +kernel))) rfl
set_option maxRecDepth 100000 in
theorem tm_430 : (Jvm.Cond.code ({ cls := "SaddleFit$Scale", name := "carriedBy", desc := "(I)I" } : Jvm.MethodName) prog_8_method_2_code (4 : Nat) (Option.some Jvm.ClassFile.FieldType.int)) ∈ sf_tbl := sf_in (List.mem_append_right _ (List.mem_of_getElem? (i := 430) rfl)) rfl
theorem tm_431 : (Jvm.Cond.methodLink "SaddleFit$Scale" (29 : Nat) ({ cls := "SaddleFit$Load", name := "isOn", desc := "(II)Z" } : Jvm.MethodName)) ∈ sf_tbl := sf_in (List.mem_append_right _ (List.mem_of_getElem? (i := 431) (by decide +kernel))) rfl
theorem tm_432 : (Jvm.Cond.instanceMethod ({ cls := "SaddleFit$Load", name := "isOn", desc := "(II)Z" } : Jvm.MethodName)) ∈ sf_tbl := sf_in (List.mem_append_right _ (List.mem_of_getElem? (i := 432) (by decide +kernel))) rfl
theorem tm_433 : (Jvm.Cond.selects "SaddleFit$Load" ({ cls := "SaddleFit$Load", name := "isOn", desc := "(II)Z" } : Jvm.MethodName) ({ cls := "SaddleFit$Load", name := "isOn", desc := "(II)Z" } : Jvm.MethodName)) ∈ sf_tbl := sf_in (List.mem_append_right _ (List.mem_of_getElem? (i := 433) (by decide +kernel))) rfl
set_option maxRecDepth 100000 in
theorem tm_434 : (Jvm.Cond.code ({ cls := "SaddleFit$Load", name := "isOn", desc := "(II)Z" } : Jvm.MethodName) prog_5_method_6_code (3 : Nat) (Option.some Jvm.ClassFile.FieldType.boolean)) ∈ sf_tbl := sf_in (List.mem_append_right _ (List.mem_of_getElem? (i := 434) rfl)) rfl
theorem tm_435 : (Jvm.Cond.methodLink "SaddleFit$Scale" (94 : Nat) ({ cls := "SaddleFit$Scale", name := "gallingOf", desc := "(III)I" } : Jvm.MethodName)) ∈ sf_tbl := sf_in (List.mem_append_right _ (List.mem_of_getElem? (i := 435) (by decide +kernel))) rfl
theorem tm_436 : (Jvm.Cond.instanceMethod ({ cls := "SaddleFit$Scale", name := "gallingOf", desc := "(III)I" } : Jvm.MethodName)) ∈ sf_tbl := sf_in (List.mem_append_right _ (List.mem_of_getElem? (i := 436) (by decide +kernel))) rfl
theorem tm_437 : (Jvm.Cond.selects "SaddleFit$Scale" ({ cls := "SaddleFit$Scale", name := "gallingOf", desc := "(III)I" } : Jvm.MethodName) ({ cls := "SaddleFit$Scale", name := "gallingOf", desc := "(III)I" } : Jvm.MethodName)) ∈ sf_tbl := sf_in (List.mem_append_right _ (List.mem_of_getElem? (i := 437) (by decide +kernel))) rfl
set_option maxRecDepth 100000 in
theorem tm_438 : (Jvm.Cond.code ({ cls := "SaddleFit$Scale", name := "gallingOf", desc := "(III)I" } : Jvm.MethodName) prog_8_method_9_code (7 : Nat) (Option.some Jvm.ClassFile.FieldType.int)) ∈ sf_tbl := sf_in (List.mem_append_right _ (List.mem_of_getElem? (i := 438) rfl)) rfl
theorem tm_439 : (Jvm.Cond.methodLinkNest "SaddleFit$Scale" (51 : Nat) ({ cls := "SaddleFit", name := "has", desc := "(II)Z" } : Jvm.MethodName) "SaddleFit") ∈ lw_tbl := List.mem_append_right _ (List.mem_of_getElem? (i := 439) (by decide +kernel))
theorem tm_440 : (Jvm.Cond.static ({ cls := "SaddleFit", name := "has", desc := "(II)Z" } : Jvm.MethodName)) ∈ sf_tbl := sf_in (List.mem_append_right _ (List.mem_of_getElem? (i := 440) (by decide +kernel))) rfl
set_option maxRecDepth 100000 in
theorem tm_441 : (Jvm.Cond.code ({ cls := "SaddleFit", name := "has", desc := "(II)Z" } : Jvm.MethodName) prog_1_method_37_code (2 : Nat) (Option.some Jvm.ClassFile.FieldType.boolean)) ∈ sf_tbl := sf_in (List.mem_append_right _ (List.mem_of_getElem? (i := 441) rfl)) rfl
theorem tm_442 : (Jvm.Cond.methodLink "SaddleFit$Scale" (54 : Nat) ({ cls := "SaddleFit$Scale", name := "partOf", desc := "(II)I" } : Jvm.MethodName)) ∈ sf_tbl := sf_in (List.mem_append_right _ (List.mem_of_getElem? (i := 442) (by decide +kernel))) rfl
theorem tm_443 : (Jvm.Cond.instanceMethod ({ cls := "SaddleFit$Scale", name := "partOf", desc := "(II)I" } : Jvm.MethodName)) ∈ sf_tbl := sf_in (List.mem_append_right _ (List.mem_of_getElem? (i := 443) (by decide +kernel))) rfl
theorem tm_444 : (Jvm.Cond.selects "SaddleFit$Scale" ({ cls := "SaddleFit$Scale", name := "partOf", desc := "(II)I" } : Jvm.MethodName) ({ cls := "SaddleFit$Scale", name := "partOf", desc := "(II)I" } : Jvm.MethodName)) ∈ sf_tbl := sf_in (List.mem_append_right _ (List.mem_of_getElem? (i := 444) (by decide +kernel))) rfl
set_option maxRecDepth 100000 in
theorem tm_445 : (Jvm.Cond.code ({ cls := "SaddleFit$Scale", name := "partOf", desc := "(II)I" } : Jvm.MethodName) prog_8_method_5_code (4 : Nat) (Option.some Jvm.ClassFile.FieldType.int)) ∈ sf_tbl := sf_in (List.mem_append_right _ (List.mem_of_getElem? (i := 445) rfl)) rfl
theorem tm_446 : (Jvm.Cond.methodLink "SaddleFit$Scale" (37 : Nat) ({ cls := "SaddleFit$Load", name := "isShared", desc := "(I)Z" } : Jvm.MethodName)) ∈ sf_tbl := sf_in (List.mem_append_right _ (List.mem_of_getElem? (i := 446) (by decide +kernel))) rfl
theorem tm_447 : (Jvm.Cond.instanceMethod ({ cls := "SaddleFit$Load", name := "isShared", desc := "(I)Z" } : Jvm.MethodName)) ∈ sf_tbl := sf_in (List.mem_append_right _ (List.mem_of_getElem? (i := 447) (by decide +kernel))) rfl
theorem tm_448 : (Jvm.Cond.selects "SaddleFit$Load" ({ cls := "SaddleFit$Load", name := "isShared", desc := "(I)Z" } : Jvm.MethodName) ({ cls := "SaddleFit$Load", name := "isShared", desc := "(I)Z" } : Jvm.MethodName)) ∈ sf_tbl := sf_in (List.mem_append_right _ (List.mem_of_getElem? (i := 448) (by decide +kernel))) rfl
set_option maxRecDepth 100000 in
theorem tm_449 : (Jvm.Cond.code ({ cls := "SaddleFit$Load", name := "isShared", desc := "(I)Z" } : Jvm.MethodName) prog_5_method_5_code (2 : Nat) (Option.some Jvm.ClassFile.FieldType.boolean)) ∈ sf_tbl := sf_in (List.mem_append_right _ (List.mem_of_getElem? (i := 449) rfl)) rfl
theorem tm_450 : (Jvm.Cond.methodLink "SaddleFit$Scale" (84 : Nat) ({ cls := "SaddleFit$Scale", name := "rubOf", desc := "(IIZI)I" } : Jvm.MethodName)) ∈ sf_tbl := sf_in (List.mem_append_right _ (List.mem_of_getElem? (i := 450) (by decide +kernel))) rfl
theorem tm_451 : (Jvm.Cond.instanceMethod ({ cls := "SaddleFit$Scale", name := "rubOf", desc := "(IIZI)I" } : Jvm.MethodName)) ∈ sf_tbl := sf_in (List.mem_append_right _ (List.mem_of_getElem? (i := 451) (by decide +kernel))) rfl
theorem tm_452 : (Jvm.Cond.selects "SaddleFit$Scale" ({ cls := "SaddleFit$Scale", name := "rubOf", desc := "(IIZI)I" } : Jvm.MethodName) ({ cls := "SaddleFit$Scale", name := "rubOf", desc := "(IIZI)I" } : Jvm.MethodName)) ∈ sf_tbl := sf_in (List.mem_append_right _ (List.mem_of_getElem? (i := 452) (by decide +kernel))) rfl
set_option maxRecDepth 100000 in
theorem tm_453 : (Jvm.Cond.code ({ cls := "SaddleFit$Scale", name := "rubOf", desc := "(IIZI)I" } : Jvm.MethodName) prog_8_method_8_code (6 : Nat) (Option.some Jvm.ClassFile.FieldType.int)) ∈ sf_tbl := sf_in (List.mem_append_right _ (List.mem_of_getElem? (i := 453) rfl)) rfl
theorem tm_454 : (Jvm.Cond.methodLink "SaddleFit$Scale" (70 : Nat) ({ cls := "java/lang/Math", name := "max", desc := "(II)I" } : Jvm.MethodName)) ∈ sf_tbl := sf_in (List.mem_append_right _ (List.mem_of_getElem? (i := 454) (by decide +kernel))) rfl
theorem tm_455 : (Jvm.Cond.static ({ cls := "java/lang/Math", name := "max", desc := "(II)I" } : Jvm.MethodName)) ∈ sf_tbl := sf_in (List.mem_append_right _ (List.mem_of_getElem? (i := 455) (by decide +kernel))) rfl
set_option maxRecDepth 100000 in
theorem tm_456 : (Jvm.Cond.code ({ cls := "java/lang/Math", name := "max", desc := "(II)I" } : Jvm.MethodName) prog_13_method_65_code (2 : Nat) (Option.some Jvm.ClassFile.FieldType.int)) ∈ sf_tbl := sf_in (List.mem_append_right _ (List.mem_of_getElem? (i := 456) rfl)) rfl
theorem tm_457 : (Jvm.Cond.methodLinkNest "SaddleFit$Scale" (81 : Nat) ({ cls := "SaddleFit", name := "isAugust", desc := "(I)Z" } : Jvm.MethodName) "SaddleFit") ∈ lw_tbl := List.mem_append_right _ (List.mem_of_getElem? (i := 457) (by decide +kernel))
theorem tm_458 : (Jvm.Cond.static ({ cls := "SaddleFit", name := "isAugust", desc := "(I)Z" } : Jvm.MethodName)) ∈ sf_tbl := sf_in (List.mem_append_right _ (List.mem_of_getElem? (i := 458) (by decide +kernel))) rfl
set_option maxRecDepth 100000 in
theorem tm_459 : (Jvm.Cond.code ({ cls := "SaddleFit", name := "isAugust", desc := "(I)Z" } : Jvm.MethodName) prog_1_method_36_code (1 : Nat) (Option.some Jvm.ClassFile.FieldType.boolean)) ∈ sf_tbl := sf_in (List.mem_append_right _ (List.mem_of_getElem? (i := 459) rfl)) rfl
theorem tm_460 : (Jvm.Cond.methodLink "SaddleFit" (142 : Nat) ({ cls := "SaddleFit$Scale", name := "carriedByNobody", desc := "()I" } : Jvm.MethodName)) ∈ sf_tbl := sf_in (List.mem_append_right _ (List.mem_of_getElem? (i := 460) (by decide +kernel))) rfl
theorem tm_461 : (Jvm.Cond.instanceMethod ({ cls := "SaddleFit$Scale", name := "carriedByNobody", desc := "()I" } : Jvm.MethodName)) ∈ sf_tbl := sf_in (List.mem_append_right _ (List.mem_of_getElem? (i := 461) (by decide +kernel))) rfl
theorem tm_462 : (Jvm.Cond.selects "SaddleFit$Scale" ({ cls := "SaddleFit$Scale", name := "carriedByNobody", desc := "()I" } : Jvm.MethodName) ({ cls := "SaddleFit$Scale", name := "carriedByNobody", desc := "()I" } : Jvm.MethodName)) ∈ sf_tbl := sf_in (List.mem_append_right _ (List.mem_of_getElem? (i := 462) (by decide +kernel))) rfl
set_option maxRecDepth 100000 in
theorem tm_463 : (Jvm.Cond.code ({ cls := "SaddleFit$Scale", name := "carriedByNobody", desc := "()I" } : Jvm.MethodName) prog_8_method_3_code (3 : Nat) (Option.some Jvm.ClassFile.FieldType.int)) ∈ sf_tbl := sf_in (List.mem_append_right _ (List.mem_of_getElem? (i := 463) rfl)) rfl
theorem tm_464 : (Jvm.Cond.methodLink "SaddleFit$Scale" (33 : Nat) ({ cls := "SaddleFit$Load", name := "isCarried", desc := "(I)Z" } : Jvm.MethodName)) ∈ sf_tbl := sf_in (List.mem_append_right _ (List.mem_of_getElem? (i := 464) (by decide +kernel))) rfl
theorem tm_465 : (Jvm.Cond.instanceMethod ({ cls := "SaddleFit$Load", name := "isCarried", desc := "(I)Z" } : Jvm.MethodName)) ∈ sf_tbl := sf_in (List.mem_append_right _ (List.mem_of_getElem? (i := 465) (by decide +kernel))) rfl
theorem tm_466 : (Jvm.Cond.selects "SaddleFit$Load" ({ cls := "SaddleFit$Load", name := "isCarried", desc := "(I)Z" } : Jvm.MethodName) ({ cls := "SaddleFit$Load", name := "isCarried", desc := "(I)Z" } : Jvm.MethodName)) ∈ sf_tbl := sf_in (List.mem_append_right _ (List.mem_of_getElem? (i := 466) (by decide +kernel))) rfl
set_option maxRecDepth 100000 in
theorem tm_467 : (Jvm.Cond.code ({ cls := "SaddleFit$Load", name := "isCarried", desc := "(I)Z" } : Jvm.MethodName) prog_5_method_4_code (2 : Nat) (Option.some Jvm.ClassFile.FieldType.boolean)) ∈ sf_tbl := sf_in (List.mem_append_right _ (List.mem_of_getElem? (i := 467) rfl)) rfl
theorem tm_468 : (Jvm.Cond.methodLink "SaddleFit" (145 : Nat) ({ cls := "SaddleFit$Scale", name := "sharedOnes", desc := "()I" } : Jvm.MethodName)) ∈ sf_tbl := sf_in (List.mem_append_right _ (List.mem_of_getElem? (i := 468) (by decide +kernel))) rfl
theorem tm_469 : (Jvm.Cond.instanceMethod ({ cls := "SaddleFit$Scale", name := "sharedOnes", desc := "()I" } : Jvm.MethodName)) ∈ sf_tbl := sf_in (List.mem_append_right _ (List.mem_of_getElem? (i := 469) (by decide +kernel))) rfl
theorem tm_470 : (Jvm.Cond.selects "SaddleFit$Scale" ({ cls := "SaddleFit$Scale", name := "sharedOnes", desc := "()I" } : Jvm.MethodName) ({ cls := "SaddleFit$Scale", name := "sharedOnes", desc := "()I" } : Jvm.MethodName)) ∈ sf_tbl := sf_in (List.mem_append_right _ (List.mem_of_getElem? (i := 470) (by decide +kernel))) rfl
set_option maxRecDepth 100000 in
theorem tm_471 : (Jvm.Cond.code ({ cls := "SaddleFit$Scale", name := "sharedOnes", desc := "()I" } : Jvm.MethodName) prog_8_method_4_code (3 : Nat) (Option.some Jvm.ClassFile.FieldType.int)) ∈ sf_tbl := sf_in (List.mem_append_right _ (List.mem_of_getElem? (i := 471) rfl)) rfl
theorem tm_472 : (Jvm.Cond.methodLink "SaddleFit" (148 : Nat) ({ cls := "SaddleFit$Scale", name := "mostLaden", desc := "()I" } : Jvm.MethodName)) ∈ sf_tbl := sf_in (List.mem_append_right _ (List.mem_of_getElem? (i := 472) (by decide +kernel))) rfl
theorem tm_473 : (Jvm.Cond.instanceMethod ({ cls := "SaddleFit$Scale", name := "mostLaden", desc := "()I" } : Jvm.MethodName)) ∈ sf_tbl := sf_in (List.mem_append_right _ (List.mem_of_getElem? (i := 473) (by decide +kernel))) rfl
theorem tm_474 : (Jvm.Cond.selects "SaddleFit$Scale" ({ cls := "SaddleFit$Scale", name := "mostLaden", desc := "()I" } : Jvm.MethodName) ({ cls := "SaddleFit$Scale", name := "mostLaden", desc := "()I" } : Jvm.MethodName)) ∈ sf_tbl := sf_in (List.mem_append_right _ (List.mem_of_getElem? (i := 474) (by decide +kernel))) rfl
set_option maxRecDepth 100000 in
theorem tm_475 : (Jvm.Cond.code ({ cls := "SaddleFit$Scale", name := "mostLaden", desc := "()I" } : Jvm.MethodName) prog_8_method_7_code (5 : Nat) (Option.some Jvm.ClassFile.FieldType.int)) ∈ sf_tbl := sf_in (List.mem_append_right _ (List.mem_of_getElem? (i := 475) rfl)) rfl
theorem tm_476 : (Jvm.Cond.methodLink "SaddleFit$Scale" (61 : Nat) ({ cls := "SaddleFit$Scale", name := "partsOn", desc := "(I)I" } : Jvm.MethodName)) ∈ sf_tbl := sf_in (List.mem_append_right _ (List.mem_of_getElem? (i := 476) (by decide +kernel))) rfl
theorem tm_477 : (Jvm.Cond.instanceMethod ({ cls := "SaddleFit$Scale", name := "partsOn", desc := "(I)I" } : Jvm.MethodName)) ∈ sf_tbl := sf_in (List.mem_append_right _ (List.mem_of_getElem? (i := 477) (by decide +kernel))) rfl
theorem tm_478 : (Jvm.Cond.selects "SaddleFit$Scale" ({ cls := "SaddleFit$Scale", name := "partsOn", desc := "(I)I" } : Jvm.MethodName) ({ cls := "SaddleFit$Scale", name := "partsOn", desc := "(I)I" } : Jvm.MethodName)) ∈ sf_tbl := sf_in (List.mem_append_right _ (List.mem_of_getElem? (i := 478) (by decide +kernel))) rfl
set_option maxRecDepth 100000 in
theorem tm_479 : (Jvm.Cond.code ({ cls := "SaddleFit$Scale", name := "partsOn", desc := "(I)I" } : Jvm.MethodName) prog_8_method_6_code (5 : Nat) (Option.some Jvm.ClassFile.FieldType.int)) ∈ sf_tbl := sf_in (List.mem_append_right _ (List.mem_of_getElem? (i := 479) rfl)) rfl
theorem tm_480 : (Jvm.Cond.methodLink "SaddleFit" (151 : Nat) ({ cls := "SaddleFit", name := "isAugust", desc := "(I)Z" } : Jvm.MethodName)) ∈ sf_tbl := sf_in (List.mem_append_right _ (List.mem_of_getElem? (i := 480) (by decide +kernel))) rfl
theorem tm_481 : (Jvm.Cond.methodLink "SaddleFit" (159 : Nat) ({ cls := "SaddleFit$Scale", name := "flockForAll", desc := "()I" } : Jvm.MethodName)) ∈ sf_tbl := sf_in (List.mem_append_right _ (List.mem_of_getElem? (i := 481) (by decide +kernel))) rfl
theorem tm_482 : (Jvm.Cond.instanceMethod ({ cls := "SaddleFit$Scale", name := "flockForAll", desc := "()I" } : Jvm.MethodName)) ∈ sf_tbl := sf_in (List.mem_append_right _ (List.mem_of_getElem? (i := 482) (by decide +kernel))) rfl
theorem tm_483 : (Jvm.Cond.selects "SaddleFit$Scale" ({ cls := "SaddleFit$Scale", name := "flockForAll", desc := "()I" } : Jvm.MethodName) ({ cls := "SaddleFit$Scale", name := "flockForAll", desc := "()I" } : Jvm.MethodName)) ∈ sf_tbl := sf_in (List.mem_append_right _ (List.mem_of_getElem? (i := 483) (by decide +kernel))) rfl
set_option maxRecDepth 100000 in
theorem tm_484 : (Jvm.Cond.code ({ cls := "SaddleFit$Scale", name := "flockForAll", desc := "()I" } : Jvm.MethodName) prog_8_method_22_code (3 : Nat) (Option.some Jvm.ClassFile.FieldType.int)) ∈ sf_tbl := sf_in (List.mem_append_right _ (List.mem_of_getElem? (i := 484) rfl)) rfl
theorem tm_485 : (Jvm.Cond.methodLink "SaddleFit$Scale" (114 : Nat) ({ cls := "SaddleFit$Scale", name := "flockForBurdens", desc := "(I)I" } : Jvm.MethodName)) ∈ sf_tbl := sf_in (List.mem_append_right _ (List.mem_of_getElem? (i := 485) (by decide +kernel))) rfl
theorem tm_487 : (Jvm.Cond.instanceMethod ({ cls := "SaddleFit$Scale", name := "flockForBurdens", desc := "(I)I" } : Jvm.MethodName)) ∈ sf_tbl := sf_in (List.mem_append_right _ (List.mem_of_getElem? (i := 487) (by decide +kernel))) rfl
set_option maxRecDepth 100000 in
theorem tm_488 : (Jvm.Cond.code ({ cls := "SaddleFit$Scale", name := "flockForBurdens", desc := "(I)I" } : Jvm.MethodName) prog_8_method_20_code (5 : Nat) (Option.some Jvm.ClassFile.FieldType.int)) ∈ sf_tbl := sf_in (List.mem_append_right _ (List.mem_of_getElem? (i := 488) rfl)) rfl
theorem tm_489 : (Jvm.Cond.methodLink "SaddleFit$Scale" (111 : Nat) ({ cls := "SaddleFit$Scale", name := "flockForBurden", desc := "(I)I" } : Jvm.MethodName)) ∈ sf_tbl := sf_in (List.mem_append_right _ (List.mem_of_getElem? (i := 489) (by decide +kernel))) rfl
theorem tm_491 : (Jvm.Cond.instanceMethod ({ cls := "SaddleFit$Scale", name := "flockForBurden", desc := "(I)I" } : Jvm.MethodName)) ∈ sf_tbl := sf_in (List.mem_append_right _ (List.mem_of_getElem? (i := 491) (by decide +kernel))) rfl
set_option maxRecDepth 100000 in
theorem tm_492 : (Jvm.Cond.code ({ cls := "SaddleFit$Scale", name := "flockForBurden", desc := "(I)I" } : Jvm.MethodName) prog_8_method_19_code (4 : Nat) (Option.some Jvm.ClassFile.FieldType.int)) ∈ sf_tbl := sf_in (List.mem_append_right _ (List.mem_of_getElem? (i := 492) rfl)) rfl
theorem tm_497 : (Jvm.Cond.methodLink "SaddleFit" (162 : Nat) ({ cls := "SaddleFit$Shop", name := "hasBurden", desc := "(I)Z" } : Jvm.MethodName)) ∈ sf_tbl := sf_in (List.mem_append_right _ (List.mem_of_getElem? (i := 497) (by decide +kernel))) rfl
theorem tm_498 : (Jvm.Cond.instanceMethod ({ cls := "SaddleFit$Shop", name := "hasBurden", desc := "(I)Z" } : Jvm.MethodName)) ∈ sf_tbl := sf_in (List.mem_append_right _ (List.mem_of_getElem? (i := 498) (by decide +kernel))) rfl
theorem tm_499 : (Jvm.Cond.selects "SaddleFit$Shop" ({ cls := "SaddleFit$Shop", name := "hasBurden", desc := "(I)Z" } : Jvm.MethodName) ({ cls := "SaddleFit$Shop", name := "hasBurden", desc := "(I)Z" } : Jvm.MethodName)) ∈ sf_tbl := sf_in (List.mem_append_right _ (List.mem_of_getElem? (i := 499) (by decide +kernel))) rfl
set_option maxRecDepth 100000 in
theorem tm_500 : (Jvm.Cond.code ({ cls := "SaddleFit$Shop", name := "hasBurden", desc := "(I)Z" } : Jvm.MethodName) prog_9_method_2_code (2 : Nat) (Option.some Jvm.ClassFile.FieldType.boolean)) ∈ sf_tbl := sf_in (List.mem_append_right _ (List.mem_of_getElem? (i := 500) rfl)) rfl
theorem tm_501 : (Jvm.Cond.constant "SaddleFit" (165 : Nat) (-1000000001 : Int32)) ∈ sf_tbl := sf_in (List.mem_append_right _ (List.mem_of_getElem? (i := 501) (by decide +kernel))) rfl
theorem tm_506 : (Jvm.Cond.methodLink "SaddleFit" (184 : Nat) ({ cls := "SaddleFit$Shop", name := "hasBack", desc := "(I)Z" } : Jvm.MethodName)) ∈ sf_tbl := sf_in (List.mem_append_right _ (List.mem_of_getElem? (i := 506) (by decide +kernel))) rfl
theorem tm_507 : (Jvm.Cond.instanceMethod ({ cls := "SaddleFit$Shop", name := "hasBack", desc := "(I)Z" } : Jvm.MethodName)) ∈ sf_tbl := sf_in (List.mem_append_right _ (List.mem_of_getElem? (i := 507) (by decide +kernel))) rfl
theorem tm_508 : (Jvm.Cond.selects "SaddleFit$Shop" ({ cls := "SaddleFit$Shop", name := "hasBack", desc := "(I)Z" } : Jvm.MethodName) ({ cls := "SaddleFit$Shop", name := "hasBack", desc := "(I)Z" } : Jvm.MethodName)) ∈ sf_tbl := sf_in (List.mem_append_right _ (List.mem_of_getElem? (i := 508) (by decide +kernel))) rfl
set_option maxRecDepth 100000 in
theorem tm_509 : (Jvm.Cond.code ({ cls := "SaddleFit$Shop", name := "hasBack", desc := "(I)Z" } : Jvm.MethodName) prog_9_method_3_code (2 : Nat) (Option.some Jvm.ClassFile.FieldType.boolean)) ∈ sf_tbl := sf_in (List.mem_append_right _ (List.mem_of_getElem? (i := 509) rfl)) rfl
theorem tm_510 : (Jvm.Cond.methodLink "SaddleFit" (196 : Nat) ({ cls := "SaddleFit$Scale", name := "gallingToday", desc := "(I)I" } : Jvm.MethodName)) ∈ sf_tbl := sf_in (List.mem_append_right _ (List.mem_of_getElem? (i := 510) (by decide +kernel))) rfl
theorem tm_511 : (Jvm.Cond.instanceMethod ({ cls := "SaddleFit$Scale", name := "gallingToday", desc := "(I)I" } : Jvm.MethodName)) ∈ sf_tbl := sf_in (List.mem_append_right _ (List.mem_of_getElem? (i := 511) (by decide +kernel))) rfl
theorem tm_512 : (Jvm.Cond.selects "SaddleFit$Scale" ({ cls := "SaddleFit$Scale", name := "gallingToday", desc := "(I)I" } : Jvm.MethodName) ({ cls := "SaddleFit$Scale", name := "gallingToday", desc := "(I)I" } : Jvm.MethodName)) ∈ sf_tbl := sf_in (List.mem_append_right _ (List.mem_of_getElem? (i := 512) (by decide +kernel))) rfl
set_option maxRecDepth 100000 in
theorem tm_513 : (Jvm.Cond.code ({ cls := "SaddleFit$Scale", name := "gallingToday", desc := "(I)I" } : Jvm.MethodName) prog_8_method_10_code (2 : Nat) (Option.some Jvm.ClassFile.FieldType.int)) ∈ sf_tbl := sf_in (List.mem_append_right _ (List.mem_of_getElem? (i := 513) rfl)) rfl
theorem tm_514 : (Jvm.Cond.methodLink "SaddleFit" (199 : Nat) ({ cls := "SaddleFit$Scale", name := "carriedBy", desc := "(I)I" } : Jvm.MethodName)) ∈ sf_tbl := sf_in (List.mem_append_right _ (List.mem_of_getElem? (i := 514) (by decide +kernel))) rfl
theorem tm_515 : (Jvm.Cond.methodLink "SaddleFit" (202 : Nat) ({ cls := "SaddleFit$Scale", name := "partsOn", desc := "(I)I" } : Jvm.MethodName)) ∈ sf_tbl := sf_in (List.mem_append_right _ (List.mem_of_getElem? (i := 515) (by decide +kernel))) rfl
theorem tm_516 : (Jvm.Cond.methodLink "SaddleFit" (205 : Nat) ({ cls := "SaddleFit$Scale", name := "flockForBack", desc := "(I)I" } : Jvm.MethodName)) ∈ sf_tbl := sf_in (List.mem_append_right _ (List.mem_of_getElem? (i := 516) (by decide +kernel))) rfl
theorem tm_517 : (Jvm.Cond.instanceMethod ({ cls := "SaddleFit$Scale", name := "flockForBack", desc := "(I)I" } : Jvm.MethodName)) ∈ sf_tbl := sf_in (List.mem_append_right _ (List.mem_of_getElem? (i := 517) (by decide +kernel))) rfl
theorem tm_518 : (Jvm.Cond.selects "SaddleFit$Scale" ({ cls := "SaddleFit$Scale", name := "flockForBack", desc := "(I)I" } : Jvm.MethodName) ({ cls := "SaddleFit$Scale", name := "flockForBack", desc := "(I)I" } : Jvm.MethodName)) ∈ sf_tbl := sf_in (List.mem_append_right _ (List.mem_of_getElem? (i := 518) (by decide +kernel))) rfl
set_option maxRecDepth 100000 in
theorem tm_519 : (Jvm.Cond.code ({ cls := "SaddleFit$Scale", name := "flockForBack", desc := "(I)I" } : Jvm.MethodName) prog_8_method_21_code (2 : Nat) (Option.some Jvm.ClassFile.FieldType.int)) ∈ sf_tbl := sf_in (List.mem_append_right _ (List.mem_of_getElem? (i := 519) rfl)) rfl
theorem tm_520 : (Jvm.Cond.methodLink "SaddleFit" (208 : Nat) ({ cls := "SaddleFit$Scale", name := "ringOf", desc := "(I)I" } : Jvm.MethodName)) ∈ sf_tbl := sf_in (List.mem_append_right _ (List.mem_of_getElem? (i := 520) (by decide +kernel))) rfl
theorem tm_521 : (Jvm.Cond.instanceMethod ({ cls := "SaddleFit$Scale", name := "ringOf", desc := "(I)I" } : Jvm.MethodName)) ∈ sf_tbl := sf_in (List.mem_append_right _ (List.mem_of_getElem? (i := 521) (by decide +kernel))) rfl
theorem tm_522 : (Jvm.Cond.selects "SaddleFit$Scale" ({ cls := "SaddleFit$Scale", name := "ringOf", desc := "(I)I" } : Jvm.MethodName) ({ cls := "SaddleFit$Scale", name := "ringOf", desc := "(I)I" } : Jvm.MethodName)) ∈ sf_tbl := sf_in (List.mem_append_right _ (List.mem_of_getElem? (i := 522) (by decide +kernel))) rfl
set_option maxRecDepth 100000 in
theorem tm_523 : (Jvm.Cond.code ({ cls := "SaddleFit$Scale", name := "ringOf", desc := "(I)I" } : Jvm.MethodName) prog_8_method_23_code (6 : Nat) (Option.some Jvm.ClassFile.FieldType.int)) ∈ sf_tbl := sf_in (List.mem_append_right _ (List.mem_of_getElem? (i := 523) rfl)) rfl
theorem tm_528 : (Jvm.Cond.methodLink "SaddleFit" (211 : Nat) ({ cls := "SaddleFit", name := "refusalOfDays", desc := "(I)I" } : Jvm.MethodName)) ∈ sf_tbl := sf_in (List.mem_append_right _ (List.mem_of_getElem? (i := 528) (by decide +kernel))) rfl
theorem tm_530 : (Jvm.Cond.instanceMethod ({ cls := "SaddleFit", name := "refusalOfDays", desc := "(I)I" } : Jvm.MethodName)) ∈ sf_tbl := sf_in (List.mem_append_right _ (List.mem_of_getElem? (i := 530) (by decide +kernel))) rfl
set_option maxRecDepth 100000 in
theorem tm_531 : (Jvm.Cond.code ({ cls := "SaddleFit", name := "refusalOfDays", desc := "(I)I" } : Jvm.MethodName) prog_1_method_38_code (2 : Nat) (Option.some Jvm.ClassFile.FieldType.int)) ∈ sf_tbl := sf_in (List.mem_append_right _ (List.mem_of_getElem? (i := 531) rfl)) rfl
theorem tm_532 : (Jvm.Cond.constant "SaddleFit" (223 : Nat) (-1000000003 : Int32)) ∈ sf_tbl := sf_in (List.mem_append_right _ (List.mem_of_getElem? (i := 532) (by decide +kernel))) rfl
theorem tm_533 : (Jvm.Cond.methodLink "SaddleFit" (214 : Nat) ({ cls := "SaddleFit$Past", name := "add", desc := "(LSaddleFit$Load;)V" } : Jvm.MethodName)) ∈ sf_tbl := sf_in (List.mem_append_right _ (List.mem_of_getElem? (i := 533) (by decide +kernel))) rfl
theorem tm_534 : (Jvm.Cond.instanceMethod ({ cls := "SaddleFit$Past", name := "add", desc := "(LSaddleFit$Load;)V" } : Jvm.MethodName)) ∈ sf_tbl := sf_in (List.mem_append_right _ (List.mem_of_getElem? (i := 534) (by decide +kernel))) rfl
theorem tm_535 : (Jvm.Cond.selects "SaddleFit$Past" ({ cls := "SaddleFit$Past", name := "add", desc := "(LSaddleFit$Load;)V" } : Jvm.MethodName) ({ cls := "SaddleFit$Past", name := "add", desc := "(LSaddleFit$Load;)V" } : Jvm.MethodName)) ∈ sf_tbl := sf_in (List.mem_append_right _ (List.mem_of_getElem? (i := 535) (by decide +kernel))) rfl
set_option maxRecDepth 100000 in
theorem tm_536 : (Jvm.Cond.code ({ cls := "SaddleFit$Past", name := "add", desc := "(LSaddleFit$Load;)V" } : Jvm.MethodName) prog_6_method_3_code (2 : Nat) (Option.none : Option Jvm.ClassFile.FieldType)) ∈ sf_tbl := sf_in (List.mem_append_right _ (List.mem_of_getElem? (i := 536) rfl)) rfl
theorem tm_537 : (Jvm.Cond.methodLink "SaddleFit$Past" (25 : Nat) ({ cls := "SaddleFit$Load", name := "copyFrom", desc := "(LSaddleFit$Load;)V" } : Jvm.MethodName)) ∈ sf_tbl := sf_in (List.mem_append_right _ (List.mem_of_getElem? (i := 537) (by decide +kernel))) rfl
theorem tm_538 : (Jvm.Cond.instanceMethod ({ cls := "SaddleFit$Load", name := "copyFrom", desc := "(LSaddleFit$Load;)V" } : Jvm.MethodName)) ∈ sf_tbl := sf_in (List.mem_append_right _ (List.mem_of_getElem? (i := 538) (by decide +kernel))) rfl
theorem tm_539 : (Jvm.Cond.selects "SaddleFit$Load" ({ cls := "SaddleFit$Load", name := "copyFrom", desc := "(LSaddleFit$Load;)V" } : Jvm.MethodName) ({ cls := "SaddleFit$Load", name := "copyFrom", desc := "(LSaddleFit$Load;)V" } : Jvm.MethodName)) ∈ sf_tbl := sf_in (List.mem_append_right _ (List.mem_of_getElem? (i := 539) (by decide +kernel))) rfl
set_option maxRecDepth 100000 in
theorem tm_540 : (Jvm.Cond.code ({ cls := "SaddleFit$Load", name := "copyFrom", desc := "(LSaddleFit$Load;)V" } : Jvm.MethodName) prog_5_method_3_code (3 : Nat) (Option.none : Option Jvm.ClassFile.FieldType)) ∈ sf_tbl := sf_in (List.mem_append_right _ (List.mem_of_getElem? (i := 540) rfl)) rfl
theorem tm_541 : (Jvm.Cond.methodLink "SaddleFit$Past" (29 : Nat) ({ cls := "java/lang/Math", name := "min", desc := "(II)I" } : Jvm.MethodName)) ∈ sf_tbl := sf_in (List.mem_append_right _ (List.mem_of_getElem? (i := 541) (by decide +kernel))) rfl
theorem tm_542 : (Jvm.Cond.static ({ cls := "java/lang/Math", name := "min", desc := "(II)I" } : Jvm.MethodName)) ∈ sf_tbl := sf_in (List.mem_append_right _ (List.mem_of_getElem? (i := 542) (by decide +kernel))) rfl
set_option maxRecDepth 100000 in
theorem tm_543 : (Jvm.Cond.code ({ cls := "java/lang/Math", name := "min", desc := "(II)I" } : Jvm.MethodName) prog_13_method_69_code (2 : Nat) (Option.some Jvm.ClassFile.FieldType.int)) ∈ sf_tbl := sf_in (List.mem_append_right _ (List.mem_of_getElem? (i := 543) rfl)) rfl
theorem tm_544 : (Jvm.Cond.methodLink "SaddleFit" (217 : Nat) ({ cls := "SaddleFit$Scale", name := "passDay", desc := "()V" } : Jvm.MethodName)) ∈ sf_tbl := sf_in (List.mem_append_right _ (List.mem_of_getElem? (i := 544) (by decide +kernel))) rfl
theorem tm_545 : (Jvm.Cond.instanceMethod ({ cls := "SaddleFit$Scale", name := "passDay", desc := "()V" } : Jvm.MethodName)) ∈ sf_tbl := sf_in (List.mem_append_right _ (List.mem_of_getElem? (i := 545) (by decide +kernel))) rfl
theorem tm_546 : (Jvm.Cond.selects "SaddleFit$Scale" ({ cls := "SaddleFit$Scale", name := "passDay", desc := "()V" } : Jvm.MethodName) ({ cls := "SaddleFit$Scale", name := "passDay", desc := "()V" } : Jvm.MethodName)) ∈ sf_tbl := sf_in (List.mem_append_right _ (List.mem_of_getElem? (i := 546) (by decide +kernel))) rfl
set_option maxRecDepth 100000 in
theorem tm_547 : (Jvm.Cond.code ({ cls := "SaddleFit$Scale", name := "passDay", desc := "()V" } : Jvm.MethodName) prog_8_method_14_code (2 : Nat) (Option.none : Option Jvm.ClassFile.FieldType)) ∈ sf_tbl := sf_in (List.mem_append_right _ (List.mem_of_getElem? (i := 547) rfl)) rfl
theorem tm_548 : (Jvm.Cond.methodLink "SaddleFit$Scale" (104 : Nat) ({ cls := "SaddleFit$Scale", name := "soreBehindDay", desc := "(IIII)I" } : Jvm.MethodName)) ∈ sf_tbl := sf_in (List.mem_append_right _ (List.mem_of_getElem? (i := 548) (by decide +kernel))) rfl
theorem tm_549 : (Jvm.Cond.instanceMethod ({ cls := "SaddleFit$Scale", name := "soreBehindDay", desc := "(IIII)I" } : Jvm.MethodName)) ∈ sf_tbl := sf_in (List.mem_append_right _ (List.mem_of_getElem? (i := 549) (by decide +kernel))) rfl
theorem tm_550 : (Jvm.Cond.selects "SaddleFit$Scale" ({ cls := "SaddleFit$Scale", name := "soreBehindDay", desc := "(IIII)I" } : Jvm.MethodName) ({ cls := "SaddleFit$Scale", name := "soreBehindDay", desc := "(IIII)I" } : Jvm.MethodName)) ∈ sf_tbl := sf_in (List.mem_append_right _ (List.mem_of_getElem? (i := 550) (by decide +kernel))) rfl
set_option maxRecDepth 100000 in
theorem tm_551 : (Jvm.Cond.code ({ cls := "SaddleFit$Scale", name := "soreBehindDay", desc := "(IIII)I" } : Jvm.MethodName) prog_8_method_13_code (5 : Nat) (Option.some Jvm.ClassFile.FieldType.int)) ∈ sf_tbl := sf_in (List.mem_append_right _ (List.mem_of_getElem? (i := 551) rfl)) rfl
theorem tm_552 : (Jvm.Cond.methodLink "SaddleFit$Scale" (101 : Nat) ({ cls := "java/lang/Math", name := "min", desc := "(II)I" } : Jvm.MethodName)) ∈ sf_tbl := sf_in (List.mem_append_right _ (List.mem_of_getElem? (i := 552) (by decide +kernel))) rfl
theorem tm_557 : (Jvm.Cond.methodLink "SaddleFit" (220 : Nat) ({ cls := "SaddleFit$Load", name := "isCarried", desc := "(I)Z" } : Jvm.MethodName)) ∈ sf_tbl := sf_in (List.mem_append_right _ (List.mem_of_getElem? (i := 557) (by decide +kernel))) rfl
theorem tm_558 : (Jvm.Cond.methodLink "SaddleFit" (224 : Nat) ({ cls := "SaddleFit$Load", name := "putOn", desc := "(II)V" } : Jvm.MethodName)) ∈ sf_tbl := sf_in (List.mem_append_right _ (List.mem_of_getElem? (i := 558) (by decide +kernel))) rfl
theorem tm_559 : (Jvm.Cond.instanceMethod ({ cls := "SaddleFit$Load", name := "putOn", desc := "(II)V" } : Jvm.MethodName)) ∈ sf_tbl := sf_in (List.mem_append_right _ (List.mem_of_getElem? (i := 559) (by decide +kernel))) rfl
theorem tm_560 : (Jvm.Cond.selects "SaddleFit$Load" ({ cls := "SaddleFit$Load", name := "putOn", desc := "(II)V" } : Jvm.MethodName) ({ cls := "SaddleFit$Load", name := "putOn", desc := "(II)V" } : Jvm.MethodName)) ∈ sf_tbl := sf_in (List.mem_append_right _ (List.mem_of_getElem? (i := 560) (by decide +kernel))) rfl
set_option maxRecDepth 100000 in
theorem tm_561 : (Jvm.Cond.code ({ cls := "SaddleFit$Load", name := "putOn", desc := "(II)V" } : Jvm.MethodName) prog_5_method_8_code (3 : Nat) (Option.none : Option Jvm.ClassFile.FieldType)) ∈ sf_tbl := sf_in (List.mem_append_right _ (List.mem_of_getElem? (i := 561) rfl)) rfl
theorem tm_566 : (Jvm.Cond.methodLink "SaddleFit" (228 : Nat) ({ cls := "SaddleFit$Load", name := "canJoin", desc := "(II)Z" } : Jvm.MethodName)) ∈ sf_tbl := sf_in (List.mem_append_right _ (List.mem_of_getElem? (i := 566) (by decide +kernel))) rfl
theorem tm_567 : (Jvm.Cond.instanceMethod ({ cls := "SaddleFit$Load", name := "canJoin", desc := "(II)Z" } : Jvm.MethodName)) ∈ sf_tbl := sf_in (List.mem_append_right _ (List.mem_of_getElem? (i := 567) (by decide +kernel))) rfl
theorem tm_568 : (Jvm.Cond.selects "SaddleFit$Load" ({ cls := "SaddleFit$Load", name := "canJoin", desc := "(II)Z" } : Jvm.MethodName) ({ cls := "SaddleFit$Load", name := "canJoin", desc := "(II)Z" } : Jvm.MethodName)) ∈ sf_tbl := sf_in (List.mem_append_right _ (List.mem_of_getElem? (i := 568) (by decide +kernel))) rfl
set_option maxRecDepth 100000 in
theorem tm_569 : (Jvm.Cond.code ({ cls := "SaddleFit$Load", name := "canJoin", desc := "(II)Z" } : Jvm.MethodName) prog_5_method_7_code (3 : Nat) (Option.some Jvm.ClassFile.FieldType.boolean)) ∈ sf_tbl := sf_in (List.mem_append_right _ (List.mem_of_getElem? (i := 569) rfl)) rfl
theorem tm_570 : (Jvm.Cond.methodLink "SaddleFit$Load" (42 : Nat) ({ cls := "SaddleFit$Load", name := "isCarried", desc := "(I)Z" } : Jvm.MethodName)) ∈ sf_tbl := sf_in (List.mem_append_right _ (List.mem_of_getElem? (i := 570) (by decide +kernel))) rfl
theorem tm_571 : (Jvm.Cond.methodLink "SaddleFit$Load" (46 : Nat) ({ cls := "SaddleFit$Load", name := "isShared", desc := "(I)Z" } : Jvm.MethodName)) ∈ sf_tbl := sf_in (List.mem_append_right _ (List.mem_of_getElem? (i := 571) (by decide +kernel))) rfl
theorem tm_572 : (Jvm.Cond.methodLink "SaddleFit" (232 : Nat) ({ cls := "SaddleFit$Load", name := "join", desc := "(II)V" } : Jvm.MethodName)) ∈ sf_tbl := sf_in (List.mem_append_right _ (List.mem_of_getElem? (i := 572) (by decide +kernel))) rfl
theorem tm_573 : (Jvm.Cond.instanceMethod ({ cls := "SaddleFit$Load", name := "join", desc := "(II)V" } : Jvm.MethodName)) ∈ sf_tbl := sf_in (List.mem_append_right _ (List.mem_of_getElem? (i := 573) (by decide +kernel))) rfl
theorem tm_574 : (Jvm.Cond.selects "SaddleFit$Load" ({ cls := "SaddleFit$Load", name := "join", desc := "(II)V" } : Jvm.MethodName) ({ cls := "SaddleFit$Load", name := "join", desc := "(II)V" } : Jvm.MethodName)) ∈ sf_tbl := sf_in (List.mem_append_right _ (List.mem_of_getElem? (i := 574) (by decide +kernel))) rfl
set_option maxRecDepth 100000 in
theorem tm_575 : (Jvm.Cond.code ({ cls := "SaddleFit$Load", name := "join", desc := "(II)V" } : Jvm.MethodName) prog_5_method_9_code (3 : Nat) (Option.none : Option Jvm.ClassFile.FieldType)) ∈ sf_tbl := sf_in (List.mem_append_right _ (List.mem_of_getElem? (i := 575) rfl)) rfl
theorem tm_580 : (Jvm.Cond.methodLink "SaddleFit" (235 : Nat) ({ cls := "SaddleFit$Load", name := "isOn", desc := "(II)Z" } : Jvm.MethodName)) ∈ sf_tbl := sf_in (List.mem_append_right _ (List.mem_of_getElem? (i := 580) (by decide +kernel))) rfl
theorem tm_581 : (Jvm.Cond.methodLink "SaddleFit" (238 : Nat) ({ cls := "SaddleFit$Load", name := "putDown", desc := "(II)V" } : Jvm.MethodName)) ∈ sf_tbl := sf_in (List.mem_append_right _ (List.mem_of_getElem? (i := 581) (by decide +kernel))) rfl
theorem tm_582 : (Jvm.Cond.instanceMethod ({ cls := "SaddleFit$Load", name := "putDown", desc := "(II)V" } : Jvm.MethodName)) ∈ sf_tbl := sf_in (List.mem_append_right _ (List.mem_of_getElem? (i := 582) (by decide +kernel))) rfl
theorem tm_583 : (Jvm.Cond.selects "SaddleFit$Load" ({ cls := "SaddleFit$Load", name := "putDown", desc := "(II)V" } : Jvm.MethodName) ({ cls := "SaddleFit$Load", name := "putDown", desc := "(II)V" } : Jvm.MethodName)) ∈ sf_tbl := sf_in (List.mem_append_right _ (List.mem_of_getElem? (i := 583) (by decide +kernel))) rfl
set_option maxRecDepth 100000 in
theorem tm_584 : (Jvm.Cond.code ({ cls := "SaddleFit$Load", name := "putDown", desc := "(II)V" } : Jvm.MethodName) prog_5_method_10_code (3 : Nat) (Option.none : Option Jvm.ClassFile.FieldType)) ∈ sf_tbl := sf_in (List.mem_append_right _ (List.mem_of_getElem? (i := 584) rfl)) rfl
theorem tm_589 : (Jvm.Cond.methodLink "SaddleFit" (241 : Nat) ({ cls := "SaddleFit$Shop", name := "hasTwoBacks", desc := "(II)Z" } : Jvm.MethodName)) ∈ sf_tbl := sf_in (List.mem_append_right _ (List.mem_of_getElem? (i := 589) (by decide +kernel))) rfl
theorem tm_590 : (Jvm.Cond.instanceMethod ({ cls := "SaddleFit$Shop", name := "hasTwoBacks", desc := "(II)Z" } : Jvm.MethodName)) ∈ sf_tbl := sf_in (List.mem_append_right _ (List.mem_of_getElem? (i := 590) (by decide +kernel))) rfl
theorem tm_591 : (Jvm.Cond.selects "SaddleFit$Shop" ({ cls := "SaddleFit$Shop", name := "hasTwoBacks", desc := "(II)Z" } : Jvm.MethodName) ({ cls := "SaddleFit$Shop", name := "hasTwoBacks", desc := "(II)Z" } : Jvm.MethodName)) ∈ sf_tbl := sf_in (List.mem_append_right _ (List.mem_of_getElem? (i := 591) (by decide +kernel))) rfl
set_option maxRecDepth 100000 in
theorem tm_592 : (Jvm.Cond.code ({ cls := "SaddleFit$Shop", name := "hasTwoBacks", desc := "(II)Z" } : Jvm.MethodName) prog_9_method_4_code (3 : Nat) (Option.some Jvm.ClassFile.FieldType.boolean)) ∈ sf_tbl := sf_in (List.mem_append_right _ (List.mem_of_getElem? (i := 592) rfl)) rfl
theorem tm_593 : (Jvm.Cond.methodLink "SaddleFit$Shop" (34 : Nat) ({ cls := "SaddleFit$Shop", name := "hasBack", desc := "(I)Z" } : Jvm.MethodName)) ∈ sf_tbl := sf_in (List.mem_append_right _ (List.mem_of_getElem? (i := 593) (by decide +kernel))) rfl
theorem tm_594 : (Jvm.Cond.methodLink "SaddleFit" (244 : Nat) ({ cls := "SaddleFit$Load", name := "handOn", desc := "(III)V" } : Jvm.MethodName)) ∈ sf_tbl := sf_in (List.mem_append_right _ (List.mem_of_getElem? (i := 594) (by decide +kernel))) rfl
theorem tm_595 : (Jvm.Cond.instanceMethod ({ cls := "SaddleFit$Load", name := "handOn", desc := "(III)V" } : Jvm.MethodName)) ∈ sf_tbl := sf_in (List.mem_append_right _ (List.mem_of_getElem? (i := 595) (by decide +kernel))) rfl
theorem tm_596 : (Jvm.Cond.selects "SaddleFit$Load" ({ cls := "SaddleFit$Load", name := "handOn", desc := "(III)V" } : Jvm.MethodName) ({ cls := "SaddleFit$Load", name := "handOn", desc := "(III)V" } : Jvm.MethodName)) ∈ sf_tbl := sf_in (List.mem_append_right _ (List.mem_of_getElem? (i := 596) (by decide +kernel))) rfl
set_option maxRecDepth 100000 in
theorem tm_597 : (Jvm.Cond.code ({ cls := "SaddleFit$Load", name := "handOn", desc := "(III)V" } : Jvm.MethodName) prog_5_method_11_code (4 : Nat) (Option.none : Option Jvm.ClassFile.FieldType)) ∈ sf_tbl := sf_in (List.mem_append_right _ (List.mem_of_getElem? (i := 597) rfl)) rfl
theorem tm_610 : (Jvm.Cond.methodLink "SaddleFit" (248 : Nat) ({ cls := "SaddleFit", name := "doByDraws", desc := "()V" } : Jvm.MethodName)) ∈ sf_tbl := sf_in (List.mem_append_right _ (List.mem_of_getElem? (i := 610) (by decide +kernel))) rfl
theorem tm_612 : (Jvm.Cond.instanceMethod ({ cls := "SaddleFit", name := "doByDraws", desc := "()V" } : Jvm.MethodName)) ∈ sf_tbl := sf_in (List.mem_append_right _ (List.mem_of_getElem? (i := 612) (by decide +kernel))) rfl
set_option maxRecDepth 100000 in
theorem tm_613 : (Jvm.Cond.code ({ cls := "SaddleFit", name := "doByDraws", desc := "()V" } : Jvm.MethodName) prog_1_method_40_code (4 : Nat) (Option.none : Option Jvm.ClassFile.FieldType)) ∈ sf_tbl := sf_in (List.mem_append_right _ (List.mem_of_getElem? (i := 613) rfl)) rfl
theorem tm_614 : (Jvm.Cond.methodLink "SaddleFit" (337 : Nat) ({ cls := "SaddleFit", name := "draw", desc := "(I)I" } : Jvm.MethodName)) ∈ sf_tbl := sf_in (List.mem_append_right _ (List.mem_of_getElem? (i := 614) (by decide +kernel))) rfl
theorem tm_616 : (Jvm.Cond.instanceMethod ({ cls := "SaddleFit", name := "draw", desc := "(I)I" } : Jvm.MethodName)) ∈ sf_tbl := sf_in (List.mem_append_right _ (List.mem_of_getElem? (i := 616) (by decide +kernel))) rfl
set_option maxRecDepth 100000 in
theorem tm_617 : (Jvm.Cond.code ({ cls := "SaddleFit", name := "draw", desc := "(I)I" } : Jvm.MethodName) prog_1_method_39_code (2 : Nat) (Option.some Jvm.ClassFile.FieldType.int)) ∈ sf_tbl := sf_in (List.mem_append_right _ (List.mem_of_getElem? (i := 617) rfl)) rfl
theorem tm_618 : (Jvm.Cond.constantLong "SaddleFit" (330 : Nat) (1103515245 : Int64)) ∈ sf_tbl := sf_in (List.mem_append_right _ (List.mem_of_getElem? (i := 618) (by decide +kernel))) rfl
theorem tm_619 : (Jvm.Cond.constantLong "SaddleFit" (332 : Nat) (12345 : Int64)) ∈ sf_tbl := sf_in (List.mem_append_right _ (List.mem_of_getElem? (i := 619) (by decide +kernel))) rfl
theorem tm_620 : (Jvm.Cond.constantLong "SaddleFit" (334 : Nat) (2147483647 : Int64)) ∈ sf_tbl := sf_in (List.mem_append_right _ (List.mem_of_getElem? (i := 620) (by decide +kernel))) rfl
theorem tm_621 : (Jvm.Cond.constant "SaddleFit" (336 : Nat) (65536 : Int32)) ∈ sf_tbl := sf_in (List.mem_append_right _ (List.mem_of_getElem? (i := 621) (by decide +kernel))) rfl
theorem tm_626 : (Jvm.Cond.methodLink "SaddleFit" (251 : Nat) ({ cls := "SaddleFit$Past", name := "takeBackInto", desc := "(LSaddleFit$Load;)Z" } : Jvm.MethodName)) ∈ sf_tbl := sf_in (List.mem_append_right _ (List.mem_of_getElem? (i := 626) (by decide +kernel))) rfl
theorem tm_627 : (Jvm.Cond.instanceMethod ({ cls := "SaddleFit$Past", name := "takeBackInto", desc := "(LSaddleFit$Load;)Z" } : Jvm.MethodName)) ∈ sf_tbl := sf_in (List.mem_append_right _ (List.mem_of_getElem? (i := 627) (by decide +kernel))) rfl
theorem tm_628 : (Jvm.Cond.selects "SaddleFit$Past" ({ cls := "SaddleFit$Past", name := "takeBackInto", desc := "(LSaddleFit$Load;)Z" } : Jvm.MethodName) ({ cls := "SaddleFit$Past", name := "takeBackInto", desc := "(LSaddleFit$Load;)Z" } : Jvm.MethodName)) ∈ sf_tbl := sf_in (List.mem_append_right _ (List.mem_of_getElem? (i := 628) (by decide +kernel))) rfl
set_option maxRecDepth 100000 in
theorem tm_629 : (Jvm.Cond.code ({ cls := "SaddleFit$Past", name := "takeBackInto", desc := "(LSaddleFit$Load;)Z" } : Jvm.MethodName) prog_6_method_4_code (2 : Nat) (Option.some Jvm.ClassFile.FieldType.boolean)) ∈ sf_tbl := sf_in (List.mem_append_right _ (List.mem_of_getElem? (i := 629) rfl)) rfl
theorem tm_634 : (Jvm.Cond.methodLink "SaddleFit" (255 : Nat) ({ cls := "SaddleFit$Scale", name := "soreBehind", desc := "(II)I" } : Jvm.MethodName)) ∈ sf_tbl := sf_in (List.mem_append_right _ (List.mem_of_getElem? (i := 634) (by decide +kernel))) rfl
theorem tm_635 : (Jvm.Cond.instanceMethod ({ cls := "SaddleFit$Scale", name := "soreBehind", desc := "(II)I" } : Jvm.MethodName)) ∈ sf_tbl := sf_in (List.mem_append_right _ (List.mem_of_getElem? (i := 635) (by decide +kernel))) rfl
theorem tm_636 : (Jvm.Cond.selects "SaddleFit$Scale" ({ cls := "SaddleFit$Scale", name := "soreBehind", desc := "(II)I" } : Jvm.MethodName) ({ cls := "SaddleFit$Scale", name := "soreBehind", desc := "(II)I" } : Jvm.MethodName)) ∈ sf_tbl := sf_in (List.mem_append_right _ (List.mem_of_getElem? (i := 636) (by decide +kernel))) rfl
set_option maxRecDepth 100000 in
theorem tm_637 : (Jvm.Cond.code ({ cls := "SaddleFit$Scale", name := "soreBehind", desc := "(II)I" } : Jvm.MethodName) prog_8_method_15_code (6 : Nat) (Option.some Jvm.ClassFile.FieldType.int)) ∈ sf_tbl := sf_in (List.mem_append_right _ (List.mem_of_getElem? (i := 637) rfl)) rfl
theorem tm_642 : (Jvm.Cond.methodLink "SaddleFit" (259 : Nat) ({ cls := "SaddleFit$Scale", name := "firstGalledBehind", desc := "(I)I" } : Jvm.MethodName)) ∈ sf_tbl := sf_in (List.mem_append_right _ (List.mem_of_getElem? (i := 642) (by decide +kernel))) rfl
theorem tm_643 : (Jvm.Cond.instanceMethod ({ cls := "SaddleFit$Scale", name := "firstGalledBehind", desc := "(I)I" } : Jvm.MethodName)) ∈ sf_tbl := sf_in (List.mem_append_right _ (List.mem_of_getElem? (i := 643) (by decide +kernel))) rfl
theorem tm_644 : (Jvm.Cond.selects "SaddleFit$Scale" ({ cls := "SaddleFit$Scale", name := "firstGalledBehind", desc := "(I)I" } : Jvm.MethodName) ({ cls := "SaddleFit$Scale", name := "firstGalledBehind", desc := "(I)I" } : Jvm.MethodName)) ∈ sf_tbl := sf_in (List.mem_append_right _ (List.mem_of_getElem? (i := 644) (by decide +kernel))) rfl
set_option maxRecDepth 100000 in
theorem tm_645 : (Jvm.Cond.code ({ cls := "SaddleFit$Scale", name := "firstGalledBehind", desc := "(I)I" } : Jvm.MethodName) prog_8_method_16_code (5 : Nat) (Option.some Jvm.ClassFile.FieldType.int)) ∈ sf_tbl := sf_in (List.mem_append_right _ (List.mem_of_getElem? (i := 645) rfl)) rfl
theorem tm_650 : (Jvm.Cond.methodLink "SaddleFit" (266 : Nat) ({ cls := "SaddleFit$Scale", name := "worstBehind", desc := "(I)I" } : Jvm.MethodName)) ∈ sf_tbl := sf_in (List.mem_append_right _ (List.mem_of_getElem? (i := 650) (by decide +kernel))) rfl
theorem tm_651 : (Jvm.Cond.instanceMethod ({ cls := "SaddleFit$Scale", name := "worstBehind", desc := "(I)I" } : Jvm.MethodName)) ∈ sf_tbl := sf_in (List.mem_append_right _ (List.mem_of_getElem? (i := 651) (by decide +kernel))) rfl
theorem tm_652 : (Jvm.Cond.selects "SaddleFit$Scale" ({ cls := "SaddleFit$Scale", name := "worstBehind", desc := "(I)I" } : Jvm.MethodName) ({ cls := "SaddleFit$Scale", name := "worstBehind", desc := "(I)I" } : Jvm.MethodName)) ∈ sf_tbl := sf_in (List.mem_append_right _ (List.mem_of_getElem? (i := 652) (by decide +kernel))) rfl
set_option maxRecDepth 100000 in
theorem tm_653 : (Jvm.Cond.code ({ cls := "SaddleFit$Scale", name := "worstBehind", desc := "(I)I" } : Jvm.MethodName) prog_8_method_17_code (6 : Nat) (Option.some Jvm.ClassFile.FieldType.int)) ∈ sf_tbl := sf_in (List.mem_append_right _ (List.mem_of_getElem? (i := 653) rfl)) rfl
theorem tm_654 : (Jvm.Cond.methodLink "SaddleFit$Scale" (108 : Nat) ({ cls := "SaddleFit$Scale", name := "gallingOfAll", desc := "(I)I" } : Jvm.MethodName)) ∈ sf_tbl := sf_in (List.mem_append_right _ (List.mem_of_getElem? (i := 654) (by decide +kernel))) rfl
theorem tm_659 : (Jvm.Cond.methodLink "SaddleFit" (269 : Nat) ({ cls := "SaddleFit$Fitting", name := "layAlone", desc := "(LSaddleFit$Scale;)V" } : Jvm.MethodName)) ∈ sf_tbl := sf_in (List.mem_append_right _ (List.mem_of_getElem? (i := 659) (by decide +kernel))) rfl
theorem tm_660 : (Jvm.Cond.instanceMethod ({ cls := "SaddleFit$Fitting", name := "layAlone", desc := "(LSaddleFit$Scale;)V" } : Jvm.MethodName)) ∈ sf_tbl := sf_in (List.mem_append_right _ (List.mem_of_getElem? (i := 660) (by decide +kernel))) rfl
theorem tm_661 : (Jvm.Cond.selects "SaddleFit$Fitting" ({ cls := "SaddleFit$Fitting", name := "layAlone", desc := "(LSaddleFit$Scale;)V" } : Jvm.MethodName) ({ cls := "SaddleFit$Fitting", name := "layAlone", desc := "(LSaddleFit$Scale;)V" } : Jvm.MethodName)) ∈ sf_tbl := sf_in (List.mem_append_right _ (List.mem_of_getElem? (i := 661) (by decide +kernel))) rfl
set_option maxRecDepth 100000 in
theorem tm_662 : (Jvm.Cond.code ({ cls := "SaddleFit$Fitting", name := "layAlone", desc := "(LSaddleFit$Scale;)V" } : Jvm.MethodName) prog_4_method_2_code (2 : Nat) (Option.none : Option Jvm.ClassFile.FieldType)) ∈ sf_tbl := sf_in (List.mem_append_right _ (List.mem_of_getElem? (i := 662) rfl)) rfl
theorem tm_663 : (Jvm.Cond.methodLink "SaddleFit$Fitting" (21 : Nat) ({ cls := "SaddleFit$Fitting", name := "begin", desc := "()V" } : Jvm.MethodName)) ∈ sf_tbl := sf_in (List.mem_append_right _ (List.mem_of_getElem? (i := 663) (by decide +kernel))) rfl
theorem tm_665 : (Jvm.Cond.instanceMethod ({ cls := "SaddleFit$Fitting", name := "begin", desc := "()V" } : Jvm.MethodName)) ∈ sf_tbl := sf_in (List.mem_append_right _ (List.mem_of_getElem? (i := 665) (by decide +kernel))) rfl
set_option maxRecDepth 100000 in
theorem tm_666 : (Jvm.Cond.code ({ cls := "SaddleFit$Fitting", name := "begin", desc := "()V" } : Jvm.MethodName) prog_4_method_4_code (2 : Nat) (Option.none : Option Jvm.ClassFile.FieldType)) ∈ sf_tbl := sf_in (List.mem_append_right _ (List.mem_of_getElem? (i := 666) rfl)) rfl
theorem tm_667 : (Jvm.Cond.constant "SaddleFit$Fitting" (63 : Nat) (2147483647 : Int32)) ∈ sf_tbl := sf_in (List.mem_append_right _ (List.mem_of_getElem? (i := 667) (by decide +kernel))) rfl
theorem tm_668 : (Jvm.Cond.methodLink "SaddleFit$Fitting" (24 : Nat) ({ cls := "SaddleFit$Fitting", name := "lay", desc := "(LSaddleFit$Scale;III)V" } : Jvm.MethodName)) ∈ sf_tbl := sf_in (List.mem_append_right _ (List.mem_of_getElem? (i := 668) (by decide +kernel))) rfl
theorem tm_670 : (Jvm.Cond.instanceMethod ({ cls := "SaddleFit$Fitting", name := "lay", desc := "(LSaddleFit$Scale;III)V" } : Jvm.MethodName)) ∈ sf_tbl := sf_in (List.mem_append_right _ (List.mem_of_getElem? (i := 670) (by decide +kernel))) rfl
set_option maxRecDepth 100000 in
theorem tm_671 : (Jvm.Cond.code ({ cls := "SaddleFit$Fitting", name := "lay", desc := "(LSaddleFit$Scale;III)V" } : Jvm.MethodName) prog_4_method_6_code (8 : Nat) (Option.none : Option Jvm.ClassFile.FieldType)) ∈ sf_tbl := sf_in (List.mem_append_right _ (List.mem_of_getElem? (i := 671) rfl)) rfl
theorem tm_672 : (Jvm.Cond.methodLink "SaddleFit$Fitting" (82 : Nat) ({ cls := "java/lang/System", name := "arraycopy", desc := "(Ljava/lang/Object;ILjava/lang/Object;II)V" } : Jvm.MethodName)) ∈ sf_tbl := sf_in (List.mem_append_right _ (List.mem_of_getElem? (i := 672) (by decide +kernel))) rfl
theorem tm_673 : (Jvm.Cond.static ({ cls := "java/lang/System", name := "arraycopy", desc := "(Ljava/lang/Object;ILjava/lang/Object;II)V" } : Jvm.MethodName)) ∈ sf_tbl := sf_in (List.mem_append_right _ (List.mem_of_getElem? (i := 673) (by decide +kernel))) rfl
theorem tm_674 : (Jvm.Cond.native ({ cls := "java/lang/System", name := "arraycopy", desc := "(Ljava/lang/Object;ILjava/lang/Object;II)V" } : Jvm.MethodName)) ∈ sf_tbl := sf_in (List.mem_append_right _ (List.mem_of_getElem? (i := 674) (by decide +kernel))) rfl
theorem tm_675 : (Jvm.Cond.methodLink "SaddleFit$Fitting" (55 : Nat) ({ cls := "SaddleFit$Fitting", name := "putOn", desc := "(LSaddleFit$Scale;II)I" } : Jvm.MethodName)) ∈ sf_tbl := sf_in (List.mem_append_right _ (List.mem_of_getElem? (i := 675) (by decide +kernel))) rfl
theorem tm_677 : (Jvm.Cond.instanceMethod ({ cls := "SaddleFit$Fitting", name := "putOn", desc := "(LSaddleFit$Scale;II)I" } : Jvm.MethodName)) ∈ sf_tbl := sf_in (List.mem_append_right _ (List.mem_of_getElem? (i := 677) (by decide +kernel))) rfl
set_option maxRecDepth 100000 in
theorem tm_678 : (Jvm.Cond.code ({ cls := "SaddleFit$Fitting", name := "putOn", desc := "(LSaddleFit$Scale;II)I" } : Jvm.MethodName) prog_4_method_5_code (6 : Nat) (Option.some Jvm.ClassFile.FieldType.int)) ∈ sf_tbl := sf_in (List.mem_append_right _ (List.mem_of_getElem? (i := 678) rfl)) rfl
theorem tm_679 : (Jvm.Cond.methodLink "SaddleFit$Fitting" (73 : Nat) ({ cls := "java/lang/Math", name := "max", desc := "(II)I" } : Jvm.MethodName)) ∈ sf_tbl := sf_in (List.mem_append_right _ (List.mem_of_getElem? (i := 679) (by decide +kernel))) rfl
theorem tm_680 : (Jvm.Cond.methodLink "SaddleFit$Fitting" (59 : Nat) ({ cls := "SaddleFit$Scale", name := "rubOf", desc := "(IIZI)I" } : Jvm.MethodName)) ∈ sf_tbl := sf_in (List.mem_append_right _ (List.mem_of_getElem? (i := 680) (by decide +kernel))) rfl
theorem tm_685 : (Jvm.Cond.methodLink "SaddleFit" (279 : Nat) ({ cls := "SaddleFit$Fitting", name := "layByTwo", desc := "(LSaddleFit$Scale;I)V" } : Jvm.MethodName)) ∈ sf_tbl := sf_in (List.mem_append_right _ (List.mem_of_getElem? (i := 685) (by decide +kernel))) rfl
theorem tm_686 : (Jvm.Cond.instanceMethod ({ cls := "SaddleFit$Fitting", name := "layByTwo", desc := "(LSaddleFit$Scale;I)V" } : Jvm.MethodName)) ∈ sf_tbl := sf_in (List.mem_append_right _ (List.mem_of_getElem? (i := 686) (by decide +kernel))) rfl
theorem tm_687 : (Jvm.Cond.selects "SaddleFit$Fitting" ({ cls := "SaddleFit$Fitting", name := "layByTwo", desc := "(LSaddleFit$Scale;I)V" } : Jvm.MethodName) ({ cls := "SaddleFit$Fitting", name := "layByTwo", desc := "(LSaddleFit$Scale;I)V" } : Jvm.MethodName)) ∈ sf_tbl := sf_in (List.mem_append_right _ (List.mem_of_getElem? (i := 687) (by decide +kernel))) rfl
set_option maxRecDepth 100000 in
theorem tm_688 : (Jvm.Cond.code ({ cls := "SaddleFit$Fitting", name := "layByTwo", desc := "(LSaddleFit$Scale;I)V" } : Jvm.MethodName) prog_4_method_3_code (10 : Nat) (Option.none : Option Jvm.ClassFile.FieldType)) ∈ sf_tbl := sf_in (List.mem_append_right _ (List.mem_of_getElem? (i := 688) rfl)) rfl
theorem tm_693 : (Jvm.Cond.methodLink "SaddleFit" (286 : Nat) ({ cls := "SaddleFit$Unloading", name := "search", desc := "(LSaddleFit$Scale;I)V" } : Jvm.MethodName)) ∈ sf_tbl := sf_in (List.mem_append_right _ (List.mem_of_getElem? (i := 693) (by decide +kernel))) rfl
theorem tm_694 : (Jvm.Cond.instanceMethod ({ cls := "SaddleFit$Unloading", name := "search", desc := "(LSaddleFit$Scale;I)V" } : Jvm.MethodName)) ∈ sf_tbl := sf_in (List.mem_append_right _ (List.mem_of_getElem? (i := 694) (by decide +kernel))) rfl
theorem tm_695 : (Jvm.Cond.selects "SaddleFit$Unloading" ({ cls := "SaddleFit$Unloading", name := "search", desc := "(LSaddleFit$Scale;I)V" } : Jvm.MethodName) ({ cls := "SaddleFit$Unloading", name := "search", desc := "(LSaddleFit$Scale;I)V" } : Jvm.MethodName)) ∈ sf_tbl := sf_in (List.mem_append_right _ (List.mem_of_getElem? (i := 695) (by decide +kernel))) rfl
set_option maxRecDepth 100000 in
theorem tm_696 : (Jvm.Cond.code ({ cls := "SaddleFit$Unloading", name := "search", desc := "(LSaddleFit$Scale;I)V" } : Jvm.MethodName) prog_10_method_2_code (3 : Nat) (Option.none : Option Jvm.ClassFile.FieldType)) ∈ sf_tbl := sf_in (List.mem_append_right _ (List.mem_of_getElem? (i := 696) rfl)) rfl
theorem tm_697 : (Jvm.Cond.constant "SaddleFit$Unloading" (9 : Nat) (2147483647 : Int32)) ∈ sf_tbl := sf_in (List.mem_append_right _ (List.mem_of_getElem? (i := 697) (by decide +kernel))) rfl
theorem tm_698 : (Jvm.Cond.methodLink "SaddleFit$Unloading" (19 : Nat) ({ cls := "SaddleFit$Scale", name := "carriedBy", desc := "(I)I" } : Jvm.MethodName)) ∈ sf_tbl := sf_in (List.mem_append_right _ (List.mem_of_getElem? (i := 698) (by decide +kernel))) rfl
theorem tm_699 : (Jvm.Cond.methodLink "SaddleFit$Unloading" (35 : Nat) ({ cls := "SaddleFit$Unloading", name := "putDownNext", desc := "(LSaddleFit$Scale;IIIII)V" } : Jvm.MethodName)) ∈ sf_tbl := sf_in (List.mem_append_right _ (List.mem_of_getElem? (i := 699) (by decide +kernel))) rfl
theorem tm_701 : (Jvm.Cond.instanceMethod ({ cls := "SaddleFit$Unloading", name := "putDownNext", desc := "(LSaddleFit$Scale;IIIII)V" } : Jvm.MethodName)) ∈ sf_tbl := sf_in (List.mem_append_right _ (List.mem_of_getElem? (i := 701) (by decide +kernel))) rfl
set_option maxRecDepth 100000 in
theorem tm_702 : (Jvm.Cond.code ({ cls := "SaddleFit$Unloading", name := "putDownNext", desc := "(LSaddleFit$Scale;IIIII)V" } : Jvm.MethodName) prog_10_method_3_code (10 : Nat) (Option.none : Option Jvm.ClassFile.FieldType)) ∈ sf_tbl := sf_in (List.mem_append_right _ (List.mem_of_getElem? (i := 702) rfl)) rfl
theorem tm_703 : (Jvm.Cond.methodLinkNest "SaddleFit$Unloading" (48 : Nat) ({ cls := "SaddleFit", name := "has", desc := "(II)Z" } : Jvm.MethodName) "SaddleFit") ∈ lw_tbl := List.mem_append_right _ (List.mem_of_getElem? (i := 703) (by decide +kernel))
theorem tm_704 : (Jvm.Cond.methodLink "SaddleFit$Unloading" (55 : Nat) ({ cls := "SaddleFit$Scale", name := "soreBehindDay", desc := "(IIII)I" } : Jvm.MethodName)) ∈ sf_tbl := sf_in (List.mem_append_right _ (List.mem_of_getElem? (i := 704) (by decide +kernel))) rfl
theorem tm_709 : (Jvm.Cond.methodLink "SaddleFit" (295 : Nat) ({ cls := "SaddleFit$Scale", name := "ableToTake", desc := "(I)I" } : Jvm.MethodName)) ∈ sf_tbl := sf_in (List.mem_append_right _ (List.mem_of_getElem? (i := 709) (by decide +kernel))) rfl
theorem tm_710 : (Jvm.Cond.instanceMethod ({ cls := "SaddleFit$Scale", name := "ableToTake", desc := "(I)I" } : Jvm.MethodName)) ∈ sf_tbl := sf_in (List.mem_append_right _ (List.mem_of_getElem? (i := 710) (by decide +kernel))) rfl
theorem tm_711 : (Jvm.Cond.selects "SaddleFit$Scale" ({ cls := "SaddleFit$Scale", name := "ableToTake", desc := "(I)I" } : Jvm.MethodName) ({ cls := "SaddleFit$Scale", name := "ableToTake", desc := "(I)I" } : Jvm.MethodName)) ∈ sf_tbl := sf_in (List.mem_append_right _ (List.mem_of_getElem? (i := 711) (by decide +kernel))) rfl
set_option maxRecDepth 100000 in
theorem tm_712 : (Jvm.Cond.code ({ cls := "SaddleFit$Scale", name := "ableToTake", desc := "(I)I" } : Jvm.MethodName) prog_8_method_18_code (5 : Nat) (Option.some Jvm.ClassFile.FieldType.int)) ∈ sf_tbl := sf_in (List.mem_append_right _ (List.mem_of_getElem? (i := 712) rfl)) rfl
theorem tm_721 : (Jvm.Cond.constantLong "SaddleFit" (298 : Nat) (1000000000 : Int64)) ∈ sf_tbl := sf_in (List.mem_append_right _ (List.mem_of_getElem? (i := 721) (by decide +kernel))) rfl
theorem tm_722 : (Jvm.Cond.constantLong "SaddleFit" (300 : Nat) (100 : Int64)) ∈ sf_tbl := sf_in (List.mem_append_right _ (List.mem_of_getElem? (i := 722) (by decide +kernel))) rfl
theorem tm_727 : (Jvm.Cond.methodLink "SaddleFit" (302 : Nat) ({ cls := "SaddleFit$Feelings", name := "add", desc := "(III)Z" } : Jvm.MethodName)) ∈ sf_tbl := sf_in (List.mem_append_right _ (List.mem_of_getElem? (i := 727) (by decide +kernel))) rfl
theorem tm_728 : (Jvm.Cond.instanceMethod ({ cls := "SaddleFit$Feelings", name := "add", desc := "(III)Z" } : Jvm.MethodName)) ∈ sf_tbl := sf_in (List.mem_append_right _ (List.mem_of_getElem? (i := 728) (by decide +kernel))) rfl
theorem tm_729 : (Jvm.Cond.selects "SaddleFit$Feelings" ({ cls := "SaddleFit$Feelings", name := "add", desc := "(III)Z" } : Jvm.MethodName) ({ cls := "SaddleFit$Feelings", name := "add", desc := "(III)Z" } : Jvm.MethodName)) ∈ sf_tbl := sf_in (List.mem_append_right _ (List.mem_of_getElem? (i := 729) (by decide +kernel))) rfl
set_option maxRecDepth 100000 in
theorem tm_730 : (Jvm.Cond.code ({ cls := "SaddleFit$Feelings", name := "add", desc := "(III)Z" } : Jvm.MethodName) prog_3_method_3_code (4 : Nat) (Option.some Jvm.ClassFile.FieldType.boolean)) ∈ sf_tbl := sf_in (List.mem_append_right _ (List.mem_of_getElem? (i := 730) rfl)) rfl
theorem tm_735 : (Jvm.Cond.methodLink "SaddleFit" (304 : Nat) ({ cls := "SaddleFit$Feelings", name := "findPairs", desc := "()V" } : Jvm.MethodName)) ∈ sf_tbl := sf_in (List.mem_append_right _ (List.mem_of_getElem? (i := 735) (by decide +kernel))) rfl
theorem tm_736 : (Jvm.Cond.instanceMethod ({ cls := "SaddleFit$Feelings", name := "findPairs", desc := "()V" } : Jvm.MethodName)) ∈ sf_tbl := sf_in (List.mem_append_right _ (List.mem_of_getElem? (i := 736) (by decide +kernel))) rfl
theorem tm_737 : (Jvm.Cond.selects "SaddleFit$Feelings" ({ cls := "SaddleFit$Feelings", name := "findPairs", desc := "()V" } : Jvm.MethodName) ({ cls := "SaddleFit$Feelings", name := "findPairs", desc := "()V" } : Jvm.MethodName)) ∈ sf_tbl := sf_in (List.mem_append_right _ (List.mem_of_getElem? (i := 737) (by decide +kernel))) rfl
set_option maxRecDepth 100000 in
theorem tm_738 : (Jvm.Cond.code ({ cls := "SaddleFit$Feelings", name := "findPairs", desc := "()V" } : Jvm.MethodName) prog_3_method_4_code (4 : Nat) (Option.none : Option Jvm.ClassFile.FieldType)) ∈ sf_tbl := sf_in (List.mem_append_right _ (List.mem_of_getElem? (i := 738) rfl)) rfl
theorem tm_739 : (Jvm.Cond.methodLink "SaddleFit$Feelings" (34 : Nat) ({ cls := "SaddleFit$Feelings", name := "agrees", desc := "(II)Z" } : Jvm.MethodName)) ∈ sf_tbl := sf_in (List.mem_append_right _ (List.mem_of_getElem? (i := 739) (by decide +kernel))) rfl
theorem tm_741 : (Jvm.Cond.instanceMethod ({ cls := "SaddleFit$Feelings", name := "agrees", desc := "(II)Z" } : Jvm.MethodName)) ∈ sf_tbl := sf_in (List.mem_append_right _ (List.mem_of_getElem? (i := 741) (by decide +kernel))) rfl
set_option maxRecDepth 100000 in
theorem tm_742 : (Jvm.Cond.code ({ cls := "SaddleFit$Feelings", name := "agrees", desc := "(II)Z" } : Jvm.MethodName) prog_3_method_5_code (4 : Nat) (Option.some Jvm.ClassFile.FieldType.boolean)) ∈ sf_tbl := sf_in (List.mem_append_right _ (List.mem_of_getElem? (i := 742) rfl)) rfl
theorem tm_743 : (Jvm.Cond.methodLink "SaddleFit$Feelings" (38 : Nat) ({ cls := "java/lang/Math", name := "max", desc := "(II)I" } : Jvm.MethodName)) ∈ sf_tbl := sf_in (List.mem_append_right _ (List.mem_of_getElem? (i := 743) (by decide +kernel))) rfl
theorem tm_744 : (Jvm.Cond.methodLink "SaddleFit" (310 : Nat) ({ cls := "SaddleFit$Feelings", name := "leastWeight", desc := "()I" } : Jvm.MethodName)) ∈ sf_tbl := sf_in (List.mem_append_right _ (List.mem_of_getElem? (i := 744) (by decide +kernel))) rfl
theorem tm_745 : (Jvm.Cond.instanceMethod ({ cls := "SaddleFit$Feelings", name := "leastWeight", desc := "()I" } : Jvm.MethodName)) ∈ sf_tbl := sf_in (List.mem_append_right _ (List.mem_of_getElem? (i := 745) (by decide +kernel))) rfl
theorem tm_746 : (Jvm.Cond.selects "SaddleFit$Feelings" ({ cls := "SaddleFit$Feelings", name := "leastWeight", desc := "()I" } : Jvm.MethodName) ({ cls := "SaddleFit$Feelings", name := "leastWeight", desc := "()I" } : Jvm.MethodName)) ∈ sf_tbl := sf_in (List.mem_append_right _ (List.mem_of_getElem? (i := 746) (by decide +kernel))) rfl
set_option maxRecDepth 100000 in
theorem tm_747 : (Jvm.Cond.code ({ cls := "SaddleFit$Feelings", name := "leastWeight", desc := "()I" } : Jvm.MethodName) prog_3_method_6_code (2 : Nat) (Option.some Jvm.ClassFile.FieldType.int)) ∈ sf_tbl := sf_in (List.mem_append_right _ (List.mem_of_getElem? (i := 747) rfl)) rfl
theorem tm_748 : (Jvm.Cond.methodLink "SaddleFit" (313 : Nat) ({ cls := "SaddleFit$Feelings", name := "leastEdge", desc := "()I" } : Jvm.MethodName)) ∈ sf_tbl := sf_in (List.mem_append_right _ (List.mem_of_getElem? (i := 748) (by decide +kernel))) rfl
theorem tm_749 : (Jvm.Cond.instanceMethod ({ cls := "SaddleFit$Feelings", name := "leastEdge", desc := "()I" } : Jvm.MethodName)) ∈ sf_tbl := sf_in (List.mem_append_right _ (List.mem_of_getElem? (i := 749) (by decide +kernel))) rfl
theorem tm_750 : (Jvm.Cond.selects "SaddleFit$Feelings" ({ cls := "SaddleFit$Feelings", name := "leastEdge", desc := "()I" } : Jvm.MethodName) ({ cls := "SaddleFit$Feelings", name := "leastEdge", desc := "()I" } : Jvm.MethodName)) ∈ sf_tbl := sf_in (List.mem_append_right _ (List.mem_of_getElem? (i := 750) (by decide +kernel))) rfl
set_option maxRecDepth 100000 in
theorem tm_751 : (Jvm.Cond.code ({ cls := "SaddleFit$Feelings", name := "leastEdge", desc := "()I" } : Jvm.MethodName) prog_3_method_7_code (3 : Nat) (Option.some Jvm.ClassFile.FieldType.int)) ∈ sf_tbl := sf_in (List.mem_append_right _ (List.mem_of_getElem? (i := 751) rfl)) rfl
theorem tm_752 : (Jvm.Cond.methodLink "SaddleFit$Feelings" (44 : Nat) ({ cls := "SaddleFit$Feelings", name := "leastWeight", desc := "()I" } : Jvm.MethodName)) ∈ sf_tbl := sf_in (List.mem_append_right _ (List.mem_of_getElem? (i := 752) (by decide +kernel))) rfl
theorem tm_753 : (Jvm.Cond.methodLinkNest "SaddleFit$Feelings" (48 : Nat) ({ cls := "SaddleFit", name := "has", desc := "(II)Z" } : Jvm.MethodName) "SaddleFit") ∈ lw_tbl := List.mem_append_right _ (List.mem_of_getElem? (i := 753) (by decide +kernel))
theorem tm_758 : (Jvm.Cond.methodLink "SaddleFit" (316 : Nat) ({ cls := "SaddleFit$Feelings", name := "bestStrength", desc := "()I" } : Jvm.MethodName)) ∈ sf_tbl := sf_in (List.mem_append_right _ (List.mem_of_getElem? (i := 758) (by decide +kernel))) rfl
theorem tm_759 : (Jvm.Cond.instanceMethod ({ cls := "SaddleFit$Feelings", name := "bestStrength", desc := "()I" } : Jvm.MethodName)) ∈ sf_tbl := sf_in (List.mem_append_right _ (List.mem_of_getElem? (i := 759) (by decide +kernel))) rfl
theorem tm_760 : (Jvm.Cond.selects "SaddleFit$Feelings" ({ cls := "SaddleFit$Feelings", name := "bestStrength", desc := "()I" } : Jvm.MethodName) ({ cls := "SaddleFit$Feelings", name := "bestStrength", desc := "()I" } : Jvm.MethodName)) ∈ sf_tbl := sf_in (List.mem_append_right _ (List.mem_of_getElem? (i := 760) (by decide +kernel))) rfl
set_option maxRecDepth 100000 in
theorem tm_761 : (Jvm.Cond.code ({ cls := "SaddleFit$Feelings", name := "bestStrength", desc := "()I" } : Jvm.MethodName) prog_3_method_8_code (5 : Nat) (Option.some Jvm.ClassFile.FieldType.int)) ∈ sf_tbl := sf_in (List.mem_append_right _ (List.mem_of_getElem? (i := 761) rfl)) rfl
theorem tm_762 : (Jvm.Cond.methodLink "SaddleFit$Feelings" (51 : Nat) ({ cls := "SaddleFit$Feelings", name := "greatestPart", desc := "(II)I" } : Jvm.MethodName)) ∈ sf_tbl := sf_in (List.mem_append_right _ (List.mem_of_getElem? (i := 762) (by decide +kernel))) rfl
theorem tm_764 : (Jvm.Cond.instanceMethod ({ cls := "SaddleFit$Feelings", name := "greatestPart", desc := "(II)I" } : Jvm.MethodName)) ∈ sf_tbl := sf_in (List.mem_append_right _ (List.mem_of_getElem? (i := 764) (by decide +kernel))) rfl
set_option maxRecDepth 100000 in
theorem tm_765 : (Jvm.Cond.code ({ cls := "SaddleFit$Feelings", name := "greatestPart", desc := "(II)I" } : Jvm.MethodName) prog_3_method_9_code (7 : Nat) (Option.some Jvm.ClassFile.FieldType.int)) ∈ sf_tbl := sf_in (List.mem_append_right _ (List.mem_of_getElem? (i := 765) rfl)) rfl
theorem tm_770 : (Jvm.Cond.methodLink "SaddleFit" (319 : Nat) ({ cls := "SaddleFit$Book", name := "add", desc := "(II)Z" } : Jvm.MethodName)) ∈ sf_tbl := sf_in (List.mem_append_right _ (List.mem_of_getElem? (i := 770) (by decide +kernel))) rfl
theorem tm_771 : (Jvm.Cond.instanceMethod ({ cls := "SaddleFit$Book", name := "add", desc := "(II)Z" } : Jvm.MethodName)) ∈ sf_tbl := sf_in (List.mem_append_right _ (List.mem_of_getElem? (i := 771) (by decide +kernel))) rfl
theorem tm_772 : (Jvm.Cond.selects "SaddleFit$Book" ({ cls := "SaddleFit$Book", name := "add", desc := "(II)Z" } : Jvm.MethodName) ({ cls := "SaddleFit$Book", name := "add", desc := "(II)Z" } : Jvm.MethodName)) ∈ sf_tbl := sf_in (List.mem_append_right _ (List.mem_of_getElem? (i := 772) (by decide +kernel))) rfl
set_option maxRecDepth 100000 in
theorem tm_773 : (Jvm.Cond.code ({ cls := "SaddleFit$Book", name := "add", desc := "(II)Z" } : Jvm.MethodName) prog_2_method_3_code (3 : Nat) (Option.some Jvm.ClassFile.FieldType.boolean)) ∈ sf_tbl := sf_in (List.mem_append_right _ (List.mem_of_getElem? (i := 773) rfl)) rfl
theorem tm_782 : (Jvm.Cond.methodLink "SaddleFit" (321 : Nat) ({ cls := "SaddleFit$Book", name := "firstWrong", desc := "(LSaddleFit$Load;)I" } : Jvm.MethodName)) ∈ sf_tbl := sf_in (List.mem_append_right _ (List.mem_of_getElem? (i := 782) (by decide +kernel))) rfl
theorem tm_783 : (Jvm.Cond.instanceMethod ({ cls := "SaddleFit$Book", name := "firstWrong", desc := "(LSaddleFit$Load;)I" } : Jvm.MethodName)) ∈ sf_tbl := sf_in (List.mem_append_right _ (List.mem_of_getElem? (i := 783) (by decide +kernel))) rfl
theorem tm_784 : (Jvm.Cond.selects "SaddleFit$Book" ({ cls := "SaddleFit$Book", name := "firstWrong", desc := "(LSaddleFit$Load;)I" } : Jvm.MethodName) ({ cls := "SaddleFit$Book", name := "firstWrong", desc := "(LSaddleFit$Load;)I" } : Jvm.MethodName)) ∈ sf_tbl := sf_in (List.mem_append_right _ (List.mem_of_getElem? (i := 784) (by decide +kernel))) rfl
set_option maxRecDepth 100000 in
theorem tm_785 : (Jvm.Cond.code ({ cls := "SaddleFit$Book", name := "firstWrong", desc := "(LSaddleFit$Load;)I" } : Jvm.MethodName) prog_2_method_4_code (3 : Nat) (Option.some Jvm.ClassFile.FieldType.int)) ∈ sf_tbl := sf_in (List.mem_append_right _ (List.mem_of_getElem? (i := 785) rfl)) rfl
theorem tm_794 : (Jvm.Cond.methodLink "SaddleFit" (328 : Nat) ({ cls := "SaddleFit$Load", name := "copyFrom", desc := "(LSaddleFit$Load;)V" } : Jvm.MethodName)) ∈ sf_tbl := sf_in (List.mem_append_right _ (List.mem_of_getElem? (i := 794) (by decide +kernel))) rfl
theorem tm_805 : (Jvm.Cond.fieldLink "SaddleFitModel" (84 : Nat) "SaddleFitModel" "isShop" "Z") ∈ sf_tbl := sf_in (List.mem_append_right _ (List.mem_of_getElem? (i := 805) (by decide +kernel))) rfl
theorem tm_806 : (Jvm.Cond.fieldLink "SaddleFitModel" (154 : Nat) "SaddleFitModel" "stockTold" "I") ∈ sf_tbl := sf_in (List.mem_append_right _ (List.mem_of_getElem? (i := 806) (by decide +kernel))) rfl
theorem tm_807 : (Jvm.Cond.fieldLink "SaddleFitModel" (88 : Nat) "SaddleFitModel" "burdens" "I") ∈ sf_tbl := sf_in (List.mem_append_right _ (List.mem_of_getElem? (i := 807) (by decide +kernel))) rfl
theorem tm_808 : (Jvm.Cond.fieldLink "SaddleFitModel" (7 : Nat) "SaddleFitModel" "kind" "[I") ∈ sf_tbl := sf_in (List.mem_append_right _ (List.mem_of_getElem? (i := 808) (by decide +kernel))) rfl
theorem tm_809 : (Jvm.Cond.fieldLink "SaddleFitModel" (13 : Nat) "SaddleFitModel" "weightTold" "[I") ∈ sf_tbl := sf_in (List.mem_append_right _ (List.mem_of_getElem? (i := 809) (by decide +kernel))) rfl
theorem tm_810 : (Jvm.Cond.fieldLink "SaddleFitModel" (16 : Nat) "SaddleFitModel" "edge" "[I") ∈ sf_tbl := sf_in (List.mem_append_right _ (List.mem_of_getElem? (i := 810) (by decide +kernel))) rfl
theorem tm_811 : (Jvm.Cond.fieldLink "SaddleFitModel" (95 : Nat) "SaddleFitModel" "backs" "I") ∈ sf_tbl := sf_in (List.mem_append_right _ (List.mem_of_getElem? (i := 811) (by decide +kernel))) rfl
theorem tm_812 : (Jvm.Cond.fieldLink "SaddleFitModel" (19 : Nat) "SaddleFitModel" "strength" "[I") ∈ sf_tbl := sf_in (List.mem_append_right _ (List.mem_of_getElem? (i := 812) (by decide +kernel))) rfl
theorem tm_813 : (Jvm.Cond.fieldLink "SaddleFitModel" (22 : Nat) "SaddleFitModel" "spine" "[I") ∈ sf_tbl := sf_in (List.mem_append_right _ (List.mem_of_getElem? (i := 813) (by decide +kernel))) rfl
theorem tm_814 : (Jvm.Cond.fieldLink "SaddleFitModel" (25 : Nat) "SaddleFitModel" "now" "[I") ∈ sf_tbl := sf_in (List.mem_append_right _ (List.mem_of_getElem? (i := 814) (by decide +kernel))) rfl
theorem tm_815 : (Jvm.Cond.fieldLink "SaddleFitModel" (272 : Nat) "SaddleFitModel" "seed" "I") ∈ sf_tbl := sf_in (List.mem_append_right _ (List.mem_of_getElem? (i := 815) (by decide +kernel))) rfl
theorem tm_816 : (Jvm.Cond.fieldLink "SaddleFitModel" (28 : Nat) "SaddleFitModel" "text" "[I") ∈ sf_tbl := sf_in (List.mem_append_right _ (List.mem_of_getElem? (i := 816) (by decide +kernel))) rfl
theorem tm_817 : (Jvm.Cond.fieldLink "SaddleFitModel" (101 : Nat) "SaddleFitModel" "texted" "I") ∈ sf_tbl := sf_in (List.mem_append_right _ (List.mem_of_getElem? (i := 817) (by decide +kernel))) rfl
theorem tm_818 : (Jvm.Cond.fieldLink "SaddleFitModel" (31 : Nat) "SaddleFitModel" "faultPlace" "I") ∈ sf_tbl := sf_in (List.mem_append_right _ (List.mem_of_getElem? (i := 818) (by decide +kernel))) rfl
theorem tm_819 : (Jvm.Cond.fieldLink "SaddleFitModel" (105 : Nat) "SaddleFitModel" "at0" "I") ∈ sf_tbl := sf_in (List.mem_append_right _ (List.mem_of_getElem? (i := 819) (by decide +kernel))) rfl
theorem tm_820 : (Jvm.Cond.fieldLink "SaddleFitModel" (123 : Nat) "SaddleFitModel" "number" "I") ∈ sf_tbl := sf_in (List.mem_append_right _ (List.mem_of_getElem? (i := 820) (by decide +kernel))) rfl
theorem tm_821 : (Jvm.Cond.fieldLink "SaddleFitModel" (120 : Nat) "SaddleFitModel" "numberAt" "I") ∈ sf_tbl := sf_in (List.mem_append_right _ (List.mem_of_getElem? (i := 821) (by decide +kernel))) rfl
theorem tm_822 : (Jvm.Cond.fieldLink "SaddleFitModel" (129 : Nat) "SaddleFitModel" "hasShop" "Z") ∈ sf_tbl := sf_in (List.mem_append_right _ (List.mem_of_getElem? (i := 822) (by decide +kernel))) rfl
theorem tm_823 : (Jvm.Cond.fieldLink "SaddleFitModel" (132 : Nat) "SaddleFitModel" "readStock" "I") ∈ sf_tbl := sf_in (List.mem_append_right _ (List.mem_of_getElem? (i := 823) (by decide +kernel))) rfl
theorem tm_824 : (Jvm.Cond.fieldLink "SaddleFitModel" (135 : Nat) "SaddleFitModel" "readBurdens" "I") ∈ sf_tbl := sf_in (List.mem_append_right _ (List.mem_of_getElem? (i := 824) (by decide +kernel))) rfl
theorem tm_825 : (Jvm.Cond.fieldLink "SaddleFitModel" (35 : Nat) "SaddleFitModel" "readKind" "[I") ∈ sf_tbl := sf_in (List.mem_append_right _ (List.mem_of_getElem? (i := 825) (by decide +kernel))) rfl
theorem tm_826 : (Jvm.Cond.fieldLink "SaddleFitModel" (38 : Nat) "SaddleFitModel" "readWeight" "[I") ∈ sf_tbl := sf_in (List.mem_append_right _ (List.mem_of_getElem? (i := 826) (by decide +kernel))) rfl
theorem tm_827 : (Jvm.Cond.fieldLink "SaddleFitModel" (41 : Nat) "SaddleFitModel" "readEdge" "[I") ∈ sf_tbl := sf_in (List.mem_append_right _ (List.mem_of_getElem? (i := 827) (by decide +kernel))) rfl
theorem tm_828 : (Jvm.Cond.fieldLink "SaddleFitModel" (142 : Nat) "SaddleFitModel" "readBacks" "I") ∈ sf_tbl := sf_in (List.mem_append_right _ (List.mem_of_getElem? (i := 828) (by decide +kernel))) rfl
theorem tm_829 : (Jvm.Cond.fieldLink "SaddleFitModel" (44 : Nat) "SaddleFitModel" "readStrength" "[I") ∈ sf_tbl := sf_in (List.mem_append_right _ (List.mem_of_getElem? (i := 829) (by decide +kernel))) rfl
theorem tm_830 : (Jvm.Cond.fieldLink "SaddleFitModel" (47 : Nat) "SaddleFitModel" "readSpine" "[I") ∈ sf_tbl := sf_in (List.mem_append_right _ (List.mem_of_getElem? (i := 830) (by decide +kernel))) rfl
theorem tm_831 : (Jvm.Cond.fieldLink "SaddleFitModel" (177 : Nat) "SaddleFitModel" "undos" "I") ∈ sf_tbl := sf_in (List.mem_append_right _ (List.mem_of_getElem? (i := 831) (by decide +kernel))) rfl
theorem tm_832 : (Jvm.Cond.fieldLink "SaddleFitModel" (50 : Nat) "SaddleFitModel" "past" "[I") ∈ sf_tbl := sf_in (List.mem_append_right _ (List.mem_of_getElem? (i := 832) (by decide +kernel))) rfl
theorem tm_833 : (Jvm.Cond.fieldLink "SaddleFitModel" (53 : Nat) "SaddleFitModel" "before" "[I") ∈ sf_tbl := sf_in (List.mem_append_right _ (List.mem_of_getElem? (i := 833) (by decide +kernel))) rfl
theorem tm_834 : (Jvm.Cond.fieldLink "SaddleFitModel" (290 : Nat) "SaddleFitModel" "leastGalling" "I") ∈ sf_tbl := sf_in (List.mem_append_right _ (List.mem_of_getElem? (i := 834) (by decide +kernel))) rfl
theorem tm_835 : (Jvm.Cond.fieldLink "SaddleFitModel" (300 : Nat) "SaddleFitModel" "leastWay" "I") ∈ sf_tbl := sf_in (List.mem_append_right _ (List.mem_of_getElem? (i := 835) (by decide +kernel))) rfl
theorem tm_836 : (Jvm.Cond.fieldLink "SaddleFitModel" (56 : Nat) "SaddleFitModel" "fitBack" "[I") ∈ sf_tbl := sf_in (List.mem_append_right _ (List.mem_of_getElem? (i := 836) (by decide +kernel))) rfl
theorem tm_837 : (Jvm.Cond.fieldLink "SaddleFitModel" (171 : Nat) "SaddleFitModel" "felt" "I") ∈ sf_tbl := sf_in (List.mem_append_right _ (List.mem_of_getElem? (i := 837) (by decide +kernel))) rfl
theorem tm_838 : (Jvm.Cond.fieldLink "SaddleFitModel" (59 : Nat) "SaddleFitModel" "feltBy" "[I") ∈ sf_tbl := sf_in (List.mem_append_right _ (List.mem_of_getElem? (i := 838) (by decide +kernel))) rfl
theorem tm_839 : (Jvm.Cond.fieldLink "SaddleFitModel" (62 : Nat) "SaddleFitModel" "feltPad" "[I") ∈ sf_tbl := sf_in (List.mem_append_right _ (List.mem_of_getElem? (i := 839) (by decide +kernel))) rfl
theorem tm_840 : (Jvm.Cond.fieldLink "SaddleFitModel" (65 : Nat) "SaddleFitModel" "feltIs" "[I") ∈ sf_tbl := sf_in (List.mem_append_right _ (List.mem_of_getElem? (i := 840) (by decide +kernel))) rfl
theorem tm_841 : (Jvm.Cond.fieldLink "SaddleFitModel" (68 : Nat) "SaddleFitModel" "counts" "[I") ∈ sf_tbl := sf_in (List.mem_append_right _ (List.mem_of_getElem? (i := 841) (by decide +kernel))) rfl
theorem tm_842 : (Jvm.Cond.fieldLink "SaddleFitModel" (174 : Nat) "SaddleFitModel" "booked" "I") ∈ sf_tbl := sf_in (List.mem_append_right _ (List.mem_of_getElem? (i := 842) (by decide +kernel))) rfl
theorem tm_843 : (Jvm.Cond.fieldLink "SaddleFitModel" (71 : Nat) "SaddleFitModel" "bookOf" "[I") ∈ sf_tbl := sf_in (List.mem_append_right _ (List.mem_of_getElem? (i := 843) (by decide +kernel))) rfl
theorem tm_844 : (Jvm.Cond.fieldLink "SaddleFitModel" (74 : Nat) "SaddleFitModel" "bookIs" "[I") ∈ sf_tbl := sf_in (List.mem_append_right _ (List.mem_of_getElem? (i := 844) (by decide +kernel))) rfl
theorem tm_845 : (Jvm.Cond.fieldLink "SaddleFitModel" (77 : Nat) "SaddleFitModel" "images" "[I") ∈ sf_tbl := sf_in (List.mem_append_right _ (List.mem_of_getElem? (i := 845) (by decide +kernel))) rfl
theorem tm_846 : (Jvm.Cond.fieldLink "SaddleFitModel" (80 : Nat) "SaddleFitModel" "isKept" "[Z") ∈ sf_tbl := sf_in (List.mem_append_right _ (List.mem_of_getElem? (i := 846) (by decide +kernel))) rfl
theorem tm_936 : (Jvm.Cond.constantLong "SaddleFitModel" (98 : Nat) (255 : Int64)) ∈ sf_tbl := sf_in (List.mem_append_right _ (List.mem_of_getElem? (i := 936) (by decide +kernel))) rfl
theorem tm_937 : (Jvm.Cond.methodLink "SaddleFitModel" (91 : Nat) ({ cls := "SaddleFitModel", name := "in", desc := "(JJJ)Z" } : Jvm.MethodName)) ∈ sf_tbl := sf_in (List.mem_append_right _ (List.mem_of_getElem? (i := 937) (by decide +kernel))) rfl
theorem tm_938 : (Jvm.Cond.static ({ cls := "SaddleFitModel", name := "in", desc := "(JJJ)Z" } : Jvm.MethodName)) ∈ sf_tbl := sf_in (List.mem_append_right _ (List.mem_of_getElem? (i := 938) (by decide +kernel))) rfl
set_option maxRecDepth 100000 in
theorem tm_939 : (Jvm.Cond.code ({ cls := "SaddleFitModel", name := "in", desc := "(JJJ)Z" } : Jvm.MethodName) prog_12_method_3_code (6 : Nat) (Option.some Jvm.ClassFile.FieldType.boolean)) ∈ sf_tbl := sf_in (List.mem_append_right _ (List.mem_of_getElem? (i := 939) rfl)) rfl
theorem tm_940 : (Jvm.Cond.constant "SaddleFitModel" (100 : Nat) (-1000000002 : Int32)) ∈ sf_tbl := sf_in (List.mem_append_right _ (List.mem_of_getElem? (i := 940) (by decide +kernel))) rfl
theorem tm_941 : (Jvm.Cond.constant "SaddleFitModel" (104 : Nat) (-1000000004 : Int32)) ∈ sf_tbl := sf_in (List.mem_append_right _ (List.mem_of_getElem? (i := 941) (by decide +kernel))) rfl
theorem tm_946 : (Jvm.Cond.methodLink "SaddleFitModel" (108 : Nat) ({ cls := "SaddleFitModel", name := "here", desc := "()I" } : Jvm.MethodName)) ∈ sf_tbl := sf_in (List.mem_append_right _ (List.mem_of_getElem? (i := 946) (by decide +kernel))) rfl
theorem tm_948 : (Jvm.Cond.instanceMethod ({ cls := "SaddleFitModel", name := "here", desc := "()I" } : Jvm.MethodName)) ∈ sf_tbl := sf_in (List.mem_append_right _ (List.mem_of_getElem? (i := 948) (by decide +kernel))) rfl
set_option maxRecDepth 100000 in
theorem tm_949 : (Jvm.Cond.code ({ cls := "SaddleFitModel", name := "here", desc := "()I" } : Jvm.MethodName) prog_12_method_7_code (1 : Nat) (Option.some Jvm.ClassFile.FieldType.int)) ∈ sf_tbl := sf_in (List.mem_append_right _ (List.mem_of_getElem? (i := 949) rfl)) rfl
theorem tm_950 : (Jvm.Cond.methodLink "SaddleFitModel" (165 : Nat) ({ cls := "SaddleFitModel", name := "takeClause", desc := "()I" } : Jvm.MethodName)) ∈ sf_tbl := sf_in (List.mem_append_right _ (List.mem_of_getElem? (i := 950) (by decide +kernel))) rfl
theorem tm_952 : (Jvm.Cond.instanceMethod ({ cls := "SaddleFitModel", name := "takeClause", desc := "()I" } : Jvm.MethodName)) ∈ sf_tbl := sf_in (List.mem_append_right _ (List.mem_of_getElem? (i := 952) (by decide +kernel))) rfl
set_option maxRecDepth 100000 in
theorem tm_953 : (Jvm.Cond.code ({ cls := "SaddleFitModel", name := "takeClause", desc := "()I" } : Jvm.MethodName) prog_12_method_14_code (5 : Nat) (Option.some Jvm.ClassFile.FieldType.int)) ∈ sf_tbl := sf_in (List.mem_append_right _ (List.mem_of_getElem? (i := 953) rfl)) rfl
theorem tm_954 : (Jvm.Cond.methodLink "SaddleFitModel" (116 : Nat) ({ cls := "SaddleFitModel", name := "fails", desc := "(II)I" } : Jvm.MethodName)) ∈ sf_tbl := sf_in (List.mem_append_right _ (List.mem_of_getElem? (i := 954) (by decide +kernel))) rfl
theorem tm_956 : (Jvm.Cond.instanceMethod ({ cls := "SaddleFitModel", name := "fails", desc := "(II)I" } : Jvm.MethodName)) ∈ sf_tbl := sf_in (List.mem_append_right _ (List.mem_of_getElem? (i := 956) (by decide +kernel))) rfl
set_option maxRecDepth 100000 in
theorem tm_957 : (Jvm.Cond.code ({ cls := "SaddleFitModel", name := "fails", desc := "(II)I" } : Jvm.MethodName) prog_12_method_8_code (3 : Nat) (Option.some Jvm.ClassFile.FieldType.int)) ∈ sf_tbl := sf_in (List.mem_append_right _ (List.mem_of_getElem? (i := 957) rfl)) rfl
theorem tm_958 : (Jvm.Cond.methodLink "SaddleFitModel" (145 : Nat) ({ cls := "SaddleFitModel", name := "takeShop", desc := "()I" } : Jvm.MethodName)) ∈ sf_tbl := sf_in (List.mem_append_right _ (List.mem_of_getElem? (i := 958) (by decide +kernel))) rfl
theorem tm_960 : (Jvm.Cond.instanceMethod ({ cls := "SaddleFitModel", name := "takeShop", desc := "()I" } : Jvm.MethodName)) ∈ sf_tbl := sf_in (List.mem_append_right _ (List.mem_of_getElem? (i := 960) (by decide +kernel))) rfl
set_option maxRecDepth 100000 in
theorem tm_961 : (Jvm.Cond.code ({ cls := "SaddleFitModel", name := "takeShop", desc := "()I" } : Jvm.MethodName) prog_12_method_11_code (2 : Nat) (Option.some Jvm.ClassFile.FieldType.int)) ∈ sf_tbl := sf_in (List.mem_append_right _ (List.mem_of_getElem? (i := 961) rfl)) rfl
theorem tm_962 : (Jvm.Cond.methodLink "SaddleFitModel" (126 : Nat) ({ cls := "SaddleFitModel", name := "takeNumber", desc := "(II)I" } : Jvm.MethodName)) ∈ sf_tbl := sf_in (List.mem_append_right _ (List.mem_of_getElem? (i := 962) (by decide +kernel))) rfl
theorem tm_964 : (Jvm.Cond.instanceMethod ({ cls := "SaddleFitModel", name := "takeNumber", desc := "(II)I" } : Jvm.MethodName)) ∈ sf_tbl := sf_in (List.mem_append_right _ (List.mem_of_getElem? (i := 964) (by decide +kernel))) rfl
set_option maxRecDepth 100000 in
theorem tm_965 : (Jvm.Cond.code ({ cls := "SaddleFitModel", name := "takeNumber", desc := "(II)I" } : Jvm.MethodName) prog_12_method_9_code (4 : Nat) (Option.some Jvm.ClassFile.FieldType.int)) ∈ sf_tbl := sf_in (List.mem_append_right _ (List.mem_of_getElem? (i := 965) rfl)) rfl
theorem tm_966 : (Jvm.Cond.constantLong "SaddleFitModel" (112 : Nat) (48 : Int64)) ∈ sf_tbl := sf_in (List.mem_append_right _ (List.mem_of_getElem? (i := 966) (by decide +kernel))) rfl
theorem tm_967 : (Jvm.Cond.constantLong "SaddleFitModel" (114 : Nat) (57 : Int64)) ∈ sf_tbl := sf_in (List.mem_append_right _ (List.mem_of_getElem? (i := 967) (by decide +kernel))) rfl
theorem tm_968 : (Jvm.Cond.methodLink "SaddleFitModel" (148 : Nat) ({ cls := "SaddleFitModel", name := "takeBurden", desc := "()I" } : Jvm.MethodName)) ∈ sf_tbl := sf_in (List.mem_append_right _ (List.mem_of_getElem? (i := 968) (by decide +kernel))) rfl
theorem tm_970 : (Jvm.Cond.instanceMethod ({ cls := "SaddleFitModel", name := "takeBurden", desc := "()I" } : Jvm.MethodName)) ∈ sf_tbl := sf_in (List.mem_append_right _ (List.mem_of_getElem? (i := 970) (by decide +kernel))) rfl
set_option maxRecDepth 100000 in
theorem tm_971 : (Jvm.Cond.code ({ cls := "SaddleFitModel", name := "takeBurden", desc := "()I" } : Jvm.MethodName) prog_12_method_12_code (3 : Nat) (Option.some Jvm.ClassFile.FieldType.int)) ∈ sf_tbl := sf_in (List.mem_append_right _ (List.mem_of_getElem? (i := 971) rfl)) rfl
theorem tm_972 : (Jvm.Cond.methodLink "SaddleFitModel" (138 : Nat) ({ cls := "SaddleFitModel", name := "into", desc := "([IIII)I" } : Jvm.MethodName)) ∈ sf_tbl := sf_in (List.mem_append_right _ (List.mem_of_getElem? (i := 972) (by decide +kernel))) rfl
theorem tm_974 : (Jvm.Cond.instanceMethod ({ cls := "SaddleFitModel", name := "into", desc := "([IIII)I" } : Jvm.MethodName)) ∈ sf_tbl := sf_in (List.mem_append_right _ (List.mem_of_getElem? (i := 974) (by decide +kernel))) rfl
set_option maxRecDepth 100000 in
theorem tm_975 : (Jvm.Cond.code ({ cls := "SaddleFitModel", name := "into", desc := "([IIII)I" } : Jvm.MethodName) prog_12_method_10_code (6 : Nat) (Option.some Jvm.ClassFile.FieldType.int)) ∈ sf_tbl := sf_in (List.mem_append_right _ (List.mem_of_getElem? (i := 975) rfl)) rfl
theorem tm_976 : (Jvm.Cond.methodLink "SaddleFitModel" (151 : Nat) ({ cls := "SaddleFitModel", name := "takeBack", desc := "()I" } : Jvm.MethodName)) ∈ sf_tbl := sf_in (List.mem_append_right _ (List.mem_of_getElem? (i := 976) (by decide +kernel))) rfl
theorem tm_978 : (Jvm.Cond.instanceMethod ({ cls := "SaddleFitModel", name := "takeBack", desc := "()I" } : Jvm.MethodName)) ∈ sf_tbl := sf_in (List.mem_append_right _ (List.mem_of_getElem? (i := 978) (by decide +kernel))) rfl
set_option maxRecDepth 100000 in
theorem tm_979 : (Jvm.Cond.code ({ cls := "SaddleFitModel", name := "takeBack", desc := "()I" } : Jvm.MethodName) prog_12_method_13_code (3 : Nat) (Option.some Jvm.ClassFile.FieldType.int)) ∈ sf_tbl := sf_in (List.mem_append_right _ (List.mem_of_getElem? (i := 979) rfl)) rfl
theorem tm_980 : (Jvm.Cond.methodLink "SaddleFitModel" (168 : Nat) ({ cls := "SaddleFitModel", name := "takeRead", desc := "()V" } : Jvm.MethodName)) ∈ sf_tbl := sf_in (List.mem_append_right _ (List.mem_of_getElem? (i := 980) (by decide +kernel))) rfl
theorem tm_982 : (Jvm.Cond.instanceMethod ({ cls := "SaddleFitModel", name := "takeRead", desc := "()V" } : Jvm.MethodName)) ∈ sf_tbl := sf_in (List.mem_append_right _ (List.mem_of_getElem? (i := 982) (by decide +kernel))) rfl
set_option maxRecDepth 100000 in
theorem tm_983 : (Jvm.Cond.code ({ cls := "SaddleFitModel", name := "takeRead", desc := "()V" } : Jvm.MethodName) prog_12_method_16_code (2 : Nat) (Option.none : Option Jvm.ClassFile.FieldType)) ∈ sf_tbl := sf_in (List.mem_append_right _ (List.mem_of_getElem? (i := 983) rfl)) rfl
theorem tm_984 : (Jvm.Cond.methodLink "SaddleFitModel" (157 : Nat) ({ cls := "SaddleFitModel", name := "copyRow", desc := "([I[II)V" } : Jvm.MethodName)) ∈ sf_tbl := sf_in (List.mem_append_right _ (List.mem_of_getElem? (i := 984) (by decide +kernel))) rfl
theorem tm_985 : (Jvm.Cond.static ({ cls := "SaddleFitModel", name := "copyRow", desc := "([I[II)V" } : Jvm.MethodName)) ∈ sf_tbl := sf_in (List.mem_append_right _ (List.mem_of_getElem? (i := 985) (by decide +kernel))) rfl
set_option maxRecDepth 100000 in
theorem tm_986 : (Jvm.Cond.code ({ cls := "SaddleFitModel", name := "copyRow", desc := "([I[II)V" } : Jvm.MethodName) prog_12_method_15_code (4 : Nat) (Option.none : Option Jvm.ClassFile.FieldType)) ∈ sf_tbl := sf_in (List.mem_append_right _ (List.mem_of_getElem? (i := 986) rfl)) rfl
theorem tm_987 : (Jvm.Cond.constantLong "SaddleFitModel" (161 : Nat) (12 : Int64)) ∈ sf_tbl := sf_in (List.mem_append_right _ (List.mem_of_getElem? (i := 987) (by decide +kernel))) rfl
theorem tm_988 : (Jvm.Cond.constantLong "SaddleFitModel" (163 : Nat) (23 : Int64)) ∈ sf_tbl := sf_in (List.mem_append_right _ (List.mem_of_getElem? (i := 988) (by decide +kernel))) rfl
theorem tm_997 : (Jvm.Cond.methodLink "SaddleFitModel" (215 : Nat) ({ cls := "SaddleFitModel", name := "galledOnes", desc := "()I" } : Jvm.MethodName)) ∈ sf_tbl := sf_in (List.mem_append_right _ (List.mem_of_getElem? (i := 997) (by decide +kernel))) rfl
theorem tm_999 : (Jvm.Cond.instanceMethod ({ cls := "SaddleFitModel", name := "galledOnes", desc := "()I" } : Jvm.MethodName)) ∈ sf_tbl := sf_in (List.mem_append_right _ (List.mem_of_getElem? (i := 999) (by decide +kernel))) rfl
set_option maxRecDepth 100000 in
theorem tm_1000 : (Jvm.Cond.code ({ cls := "SaddleFitModel", name := "galledOnes", desc := "()I" } : Jvm.MethodName) prog_12_method_30_code (3 : Nat) (Option.some Jvm.ClassFile.FieldType.int)) ∈ sf_tbl := sf_in (List.mem_append_right _ (List.mem_of_getElem? (i := 1000) rfl)) rfl
theorem tm_1001 : (Jvm.Cond.methodLink "SaddleFitModel" (218 : Nat) ({ cls := "SaddleFitModel", name := "allGalling", desc := "()I" } : Jvm.MethodName)) ∈ sf_tbl := sf_in (List.mem_append_right _ (List.mem_of_getElem? (i := 1001) (by decide +kernel))) rfl
theorem tm_1003 : (Jvm.Cond.instanceMethod ({ cls := "SaddleFitModel", name := "allGalling", desc := "()I" } : Jvm.MethodName)) ∈ sf_tbl := sf_in (List.mem_append_right _ (List.mem_of_getElem? (i := 1003) (by decide +kernel))) rfl
set_option maxRecDepth 100000 in
theorem tm_1004 : (Jvm.Cond.code ({ cls := "SaddleFitModel", name := "allGalling", desc := "()I" } : Jvm.MethodName) prog_12_method_28_code (3 : Nat) (Option.some Jvm.ClassFile.FieldType.int)) ∈ sf_tbl := sf_in (List.mem_append_right _ (List.mem_of_getElem? (i := 1004) rfl)) rfl
theorem tm_1005 : (Jvm.Cond.methodLink "SaddleFitModel" (208 : Nat) ({ cls := "SaddleFitModel", name := "gallingOf", desc := "(I)I" } : Jvm.MethodName)) ∈ sf_tbl := sf_in (List.mem_append_right _ (List.mem_of_getElem? (i := 1005) (by decide +kernel))) rfl
theorem tm_1007 : (Jvm.Cond.instanceMethod ({ cls := "SaddleFitModel", name := "gallingOf", desc := "(I)I" } : Jvm.MethodName)) ∈ sf_tbl := sf_in (List.mem_append_right _ (List.mem_of_getElem? (i := 1007) (by decide +kernel))) rfl
set_option maxRecDepth 100000 in
theorem tm_1008 : (Jvm.Cond.code ({ cls := "SaddleFitModel", name := "gallingOf", desc := "(I)I" } : Jvm.MethodName) prog_12_method_27_code (4 : Nat) (Option.some Jvm.ClassFile.FieldType.int)) ∈ sf_tbl := sf_in (List.mem_append_right _ (List.mem_of_getElem? (i := 1008) rfl)) rfl
theorem tm_1009 : (Jvm.Cond.methodLink "SaddleFitModel" (202 : Nat) ({ cls := "SaddleFitModel", name := "partsOf", desc := "(I)I" } : Jvm.MethodName)) ∈ sf_tbl := sf_in (List.mem_append_right _ (List.mem_of_getElem? (i := 1009) (by decide +kernel))) rfl
theorem tm_1011 : (Jvm.Cond.instanceMethod ({ cls := "SaddleFitModel", name := "partsOf", desc := "(I)I" } : Jvm.MethodName)) ∈ sf_tbl := sf_in (List.mem_append_right _ (List.mem_of_getElem? (i := 1011) (by decide +kernel))) rfl
set_option maxRecDepth 100000 in
theorem tm_1012 : (Jvm.Cond.code ({ cls := "SaddleFitModel", name := "partsOf", desc := "(I)I" } : Jvm.MethodName) prog_12_method_26_code (4 : Nat) (Option.some Jvm.ClassFile.FieldType.int)) ∈ sf_tbl := sf_in (List.mem_append_right _ (List.mem_of_getElem? (i := 1012) rfl)) rfl
theorem tm_1013 : (Jvm.Cond.methodLink "SaddleFitModel" (199 : Nat) ({ cls := "SaddleFitModel", name := "partOf", desc := "(II)I" } : Jvm.MethodName)) ∈ sf_tbl := sf_in (List.mem_append_right _ (List.mem_of_getElem? (i := 1013) (by decide +kernel))) rfl
theorem tm_1015 : (Jvm.Cond.instanceMethod ({ cls := "SaddleFitModel", name := "partOf", desc := "(II)I" } : Jvm.MethodName)) ∈ sf_tbl := sf_in (List.mem_append_right _ (List.mem_of_getElem? (i := 1015) (by decide +kernel))) rfl
set_option maxRecDepth 100000 in
theorem tm_1016 : (Jvm.Cond.code ({ cls := "SaddleFitModel", name := "partOf", desc := "(II)I" } : Jvm.MethodName) prog_12_method_22_code (3 : Nat) (Option.some Jvm.ClassFile.FieldType.int)) ∈ sf_tbl := sf_in (List.mem_append_right _ (List.mem_of_getElem? (i := 1016) rfl)) rfl
theorem tm_1017 : (Jvm.Cond.methodLink "SaddleFitModel" (180 : Nat) ({ cls := "SaddleFitModel", name := "bears", desc := "(II)Z" } : Jvm.MethodName)) ∈ sf_tbl := sf_in (List.mem_append_right _ (List.mem_of_getElem? (i := 1017) (by decide +kernel))) rfl
theorem tm_1019 : (Jvm.Cond.instanceMethod ({ cls := "SaddleFitModel", name := "bears", desc := "(II)Z" } : Jvm.MethodName)) ∈ sf_tbl := sf_in (List.mem_append_right _ (List.mem_of_getElem? (i := 1019) (by decide +kernel))) rfl
set_option maxRecDepth 100000 in
theorem tm_1020 : (Jvm.Cond.code ({ cls := "SaddleFitModel", name := "bears", desc := "(II)Z" } : Jvm.MethodName) prog_12_method_20_code (3 : Nat) (Option.some Jvm.ClassFile.FieldType.boolean)) ∈ sf_tbl := sf_in (List.mem_append_right _ (List.mem_of_getElem? (i := 1020) rfl)) rfl
theorem tm_1021 : (Jvm.Cond.methodLink "SaddleFitModel" (184 : Nat) ({ cls := "SaddleFitModel", name := "isShared", desc := "(I)Z" } : Jvm.MethodName)) ∈ sf_tbl := sf_in (List.mem_append_right _ (List.mem_of_getElem? (i := 1021) (by decide +kernel))) rfl
theorem tm_1023 : (Jvm.Cond.instanceMethod ({ cls := "SaddleFitModel", name := "isShared", desc := "(I)Z" } : Jvm.MethodName)) ∈ sf_tbl := sf_in (List.mem_append_right _ (List.mem_of_getElem? (i := 1023) (by decide +kernel))) rfl
set_option maxRecDepth 100000 in
theorem tm_1024 : (Jvm.Cond.code ({ cls := "SaddleFitModel", name := "isShared", desc := "(I)Z" } : Jvm.MethodName) prog_12_method_21_code (2 : Nat) (Option.some Jvm.ClassFile.FieldType.boolean)) ∈ sf_tbl := sf_in (List.mem_append_right _ (List.mem_of_getElem? (i := 1024) rfl)) rfl
theorem tm_1025 : (Jvm.Cond.methodLink "SaddleFitModel" (188 : Nat) ({ cls := "SaddleFitModel", name := "notBelow", desc := "(I)I" } : Jvm.MethodName)) ∈ sf_tbl := sf_in (List.mem_append_right _ (List.mem_of_getElem? (i := 1025) (by decide +kernel))) rfl
theorem tm_1026 : (Jvm.Cond.static ({ cls := "SaddleFitModel", name := "notBelow", desc := "(I)I" } : Jvm.MethodName)) ∈ sf_tbl := sf_in (List.mem_append_right _ (List.mem_of_getElem? (i := 1026) (by decide +kernel))) rfl
set_option maxRecDepth 100000 in
theorem tm_1027 : (Jvm.Cond.code ({ cls := "SaddleFitModel", name := "notBelow", desc := "(I)I" } : Jvm.MethodName) prog_12_method_19_code (1 : Nat) (Option.some Jvm.ClassFile.FieldType.int)) ∈ sf_tbl := sf_in (List.mem_append_right _ (List.mem_of_getElem? (i := 1027) rfl)) rfl
theorem tm_1028 : (Jvm.Cond.methodLink "SaddleFitModel" (205 : Nat) ({ cls := "SaddleFitModel", name := "rubsOn", desc := "(II)I" } : Jvm.MethodName)) ∈ sf_tbl := sf_in (List.mem_append_right _ (List.mem_of_getElem? (i := 1028) (by decide +kernel))) rfl
theorem tm_1030 : (Jvm.Cond.instanceMethod ({ cls := "SaddleFitModel", name := "rubsOn", desc := "(II)I" } : Jvm.MethodName)) ∈ sf_tbl := sf_in (List.mem_append_right _ (List.mem_of_getElem? (i := 1030) (by decide +kernel))) rfl
set_option maxRecDepth 100000 in
theorem tm_1031 : (Jvm.Cond.code ({ cls := "SaddleFitModel", name := "rubsOn", desc := "(II)I" } : Jvm.MethodName) prog_12_method_25_code (4 : Nat) (Option.some Jvm.ClassFile.FieldType.int)) ∈ sf_tbl := sf_in (List.mem_append_right _ (List.mem_of_getElem? (i := 1031) rfl)) rfl
theorem tm_1032 : (Jvm.Cond.methodLink "SaddleFitModel" (192 : Nat) ({ cls := "SaddleFitModel", name := "restOf", desc := "(I)I" } : Jvm.MethodName)) ∈ sf_tbl := sf_in (List.mem_append_right _ (List.mem_of_getElem? (i := 1032) (by decide +kernel))) rfl
theorem tm_1034 : (Jvm.Cond.instanceMethod ({ cls := "SaddleFitModel", name := "restOf", desc := "(I)I" } : Jvm.MethodName)) ∈ sf_tbl := sf_in (List.mem_append_right _ (List.mem_of_getElem? (i := 1034) (by decide +kernel))) rfl
set_option maxRecDepth 100000 in
theorem tm_1035 : (Jvm.Cond.code ({ cls := "SaddleFitModel", name := "restOf", desc := "(I)I" } : Jvm.MethodName) prog_12_method_24_code (2 : Nat) (Option.some Jvm.ClassFile.FieldType.int)) ∈ sf_tbl := sf_in (List.mem_append_right _ (List.mem_of_getElem? (i := 1035) rfl)) rfl
theorem tm_1036 : (Jvm.Cond.methodLink "SaddleFitModel" (195 : Nat) ({ cls := "SaddleFitModel", name := "isAugust", desc := "()Z" } : Jvm.MethodName)) ∈ sf_tbl := sf_in (List.mem_append_right _ (List.mem_of_getElem? (i := 1036) (by decide +kernel))) rfl
theorem tm_1038 : (Jvm.Cond.instanceMethod ({ cls := "SaddleFitModel", name := "isAugust", desc := "()Z" } : Jvm.MethodName)) ∈ sf_tbl := sf_in (List.mem_append_right _ (List.mem_of_getElem? (i := 1038) (by decide +kernel))) rfl
set_option maxRecDepth 100000 in
theorem tm_1039 : (Jvm.Cond.code ({ cls := "SaddleFitModel", name := "isAugust", desc := "()Z" } : Jvm.MethodName) prog_12_method_23_code (1 : Nat) (Option.some Jvm.ClassFile.FieldType.boolean)) ∈ sf_tbl := sf_in (List.mem_append_right _ (List.mem_of_getElem? (i := 1039) rfl)) rfl
theorem tm_1040 : (Jvm.Cond.methodLink "SaddleFitModel" (221 : Nat) ({ cls := "SaddleFitModel", name := "freeOnes", desc := "()I" } : Jvm.MethodName)) ∈ sf_tbl := sf_in (List.mem_append_right _ (List.mem_of_getElem? (i := 1040) (by decide +kernel))) rfl
theorem tm_1042 : (Jvm.Cond.instanceMethod ({ cls := "SaddleFitModel", name := "freeOnes", desc := "()I" } : Jvm.MethodName)) ∈ sf_tbl := sf_in (List.mem_append_right _ (List.mem_of_getElem? (i := 1042) (by decide +kernel))) rfl
set_option maxRecDepth 100000 in
theorem tm_1043 : (Jvm.Cond.code ({ cls := "SaddleFitModel", name := "freeOnes", desc := "()I" } : Jvm.MethodName) prog_12_method_31_code (3 : Nat) (Option.some Jvm.ClassFile.FieldType.int)) ∈ sf_tbl := sf_in (List.mem_append_right _ (List.mem_of_getElem? (i := 1043) rfl)) rfl
theorem tm_1044 : (Jvm.Cond.methodLink "SaddleFitModel" (224 : Nat) ({ cls := "SaddleFitModel", name := "sharedOnes", desc := "()I" } : Jvm.MethodName)) ∈ sf_tbl := sf_in (List.mem_append_right _ (List.mem_of_getElem? (i := 1044) (by decide +kernel))) rfl
theorem tm_1046 : (Jvm.Cond.instanceMethod ({ cls := "SaddleFitModel", name := "sharedOnes", desc := "()I" } : Jvm.MethodName)) ∈ sf_tbl := sf_in (List.mem_append_right _ (List.mem_of_getElem? (i := 1046) (by decide +kernel))) rfl
set_option maxRecDepth 100000 in
theorem tm_1047 : (Jvm.Cond.code ({ cls := "SaddleFitModel", name := "sharedOnes", desc := "()I" } : Jvm.MethodName) prog_12_method_32_code (3 : Nat) (Option.some Jvm.ClassFile.FieldType.int)) ∈ sf_tbl := sf_in (List.mem_append_right _ (List.mem_of_getElem? (i := 1047) rfl)) rfl
theorem tm_1048 : (Jvm.Cond.methodLink "SaddleFitModel" (227 : Nat) ({ cls := "SaddleFitModel", name := "most", desc := "()I" } : Jvm.MethodName)) ∈ sf_tbl := sf_in (List.mem_append_right _ (List.mem_of_getElem? (i := 1048) (by decide +kernel))) rfl
theorem tm_1050 : (Jvm.Cond.instanceMethod ({ cls := "SaddleFitModel", name := "most", desc := "()I" } : Jvm.MethodName)) ∈ sf_tbl := sf_in (List.mem_append_right _ (List.mem_of_getElem? (i := 1050) (by decide +kernel))) rfl
set_option maxRecDepth 100000 in
theorem tm_1051 : (Jvm.Cond.code ({ cls := "SaddleFitModel", name := "most", desc := "()I" } : Jvm.MethodName) prog_12_method_33_code (3 : Nat) (Option.some Jvm.ClassFile.FieldType.int)) ∈ sf_tbl := sf_in (List.mem_append_right _ (List.mem_of_getElem? (i := 1051) rfl)) rfl
theorem tm_1052 : (Jvm.Cond.methodLink "SaddleFitModel" (230 : Nat) ({ cls := "SaddleFitModel", name := "stuffForAll", desc := "()I" } : Jvm.MethodName)) ∈ sf_tbl := sf_in (List.mem_append_right _ (List.mem_of_getElem? (i := 1052) (by decide +kernel))) rfl
theorem tm_1054 : (Jvm.Cond.instanceMethod ({ cls := "SaddleFitModel", name := "stuffForAll", desc := "()I" } : Jvm.MethodName)) ∈ sf_tbl := sf_in (List.mem_append_right _ (List.mem_of_getElem? (i := 1054) (by decide +kernel))) rfl
set_option maxRecDepth 100000 in
theorem tm_1055 : (Jvm.Cond.code ({ cls := "SaddleFitModel", name := "stuffForAll", desc := "()I" } : Jvm.MethodName) prog_12_method_36_code (3 : Nat) (Option.some Jvm.ClassFile.FieldType.int)) ∈ sf_tbl := sf_in (List.mem_append_right _ (List.mem_of_getElem? (i := 1055) rfl)) rfl
theorem tm_1056 : (Jvm.Cond.constant "SaddleFitModel" (211 : Nat) (1000000 : Int32)) ∈ sf_tbl := sf_in (List.mem_append_right _ (List.mem_of_getElem? (i := 1056) (by decide +kernel))) rfl
theorem tm_1057 : (Jvm.Cond.methodLink "SaddleFitModel" (212 : Nat) ({ cls := "SaddleFitModel", name := "needOf", desc := "(I)I" } : Jvm.MethodName)) ∈ sf_tbl := sf_in (List.mem_append_right _ (List.mem_of_getElem? (i := 1057) (by decide +kernel))) rfl
theorem tm_1059 : (Jvm.Cond.instanceMethod ({ cls := "SaddleFitModel", name := "needOf", desc := "(I)I" } : Jvm.MethodName)) ∈ sf_tbl := sf_in (List.mem_append_right _ (List.mem_of_getElem? (i := 1059) (by decide +kernel))) rfl
set_option maxRecDepth 100000 in
theorem tm_1060 : (Jvm.Cond.code ({ cls := "SaddleFitModel", name := "needOf", desc := "(I)I" } : Jvm.MethodName) prog_12_method_34_code (3 : Nat) (Option.some Jvm.ClassFile.FieldType.int)) ∈ sf_tbl := sf_in (List.mem_append_right _ (List.mem_of_getElem? (i := 1060) rfl)) rfl
theorem tm_1065 : (Jvm.Cond.methodLink "SaddleFitModel" (233 : Nat) ({ cls := "SaddleFitModel", name := "isBurden", desc := "(I)Z" } : Jvm.MethodName)) ∈ sf_tbl := sf_in (List.mem_append_right _ (List.mem_of_getElem? (i := 1065) (by decide +kernel))) rfl
theorem tm_1067 : (Jvm.Cond.instanceMethod ({ cls := "SaddleFitModel", name := "isBurden", desc := "(I)Z" } : Jvm.MethodName)) ∈ sf_tbl := sf_in (List.mem_append_right _ (List.mem_of_getElem? (i := 1067) (by decide +kernel))) rfl
set_option maxRecDepth 100000 in
theorem tm_1068 : (Jvm.Cond.code ({ cls := "SaddleFitModel", name := "isBurden", desc := "(I)Z" } : Jvm.MethodName) prog_12_method_4_code (2 : Nat) (Option.some Jvm.ClassFile.FieldType.boolean)) ∈ sf_tbl := sf_in (List.mem_append_right _ (List.mem_of_getElem? (i := 1068) rfl)) rfl
theorem tm_1069 : (Jvm.Cond.constant "SaddleFitModel" (236 : Nat) (-1000000001 : Int32)) ∈ sf_tbl := sf_in (List.mem_append_right _ (List.mem_of_getElem? (i := 1069) (by decide +kernel))) rfl
theorem tm_1074 : (Jvm.Cond.methodLink "SaddleFitModel" (237 : Nat) ({ cls := "SaddleFitModel", name := "isBack", desc := "(I)Z" } : Jvm.MethodName)) ∈ sf_tbl := sf_in (List.mem_append_right _ (List.mem_of_getElem? (i := 1074) (by decide +kernel))) rfl
theorem tm_1076 : (Jvm.Cond.instanceMethod ({ cls := "SaddleFitModel", name := "isBack", desc := "(I)Z" } : Jvm.MethodName)) ∈ sf_tbl := sf_in (List.mem_append_right _ (List.mem_of_getElem? (i := 1076) (by decide +kernel))) rfl
set_option maxRecDepth 100000 in
theorem tm_1077 : (Jvm.Cond.code ({ cls := "SaddleFitModel", name := "isBack", desc := "(I)Z" } : Jvm.MethodName) prog_12_method_5_code (2 : Nat) (Option.some Jvm.ClassFile.FieldType.boolean)) ∈ sf_tbl := sf_in (List.mem_append_right _ (List.mem_of_getElem? (i := 1077) rfl)) rfl
theorem tm_1078 : (Jvm.Cond.methodLink "SaddleFitModel" (240 : Nat) ({ cls := "SaddleFitModel", name := "carriedBy", desc := "(I)I" } : Jvm.MethodName)) ∈ sf_tbl := sf_in (List.mem_append_right _ (List.mem_of_getElem? (i := 1078) (by decide +kernel))) rfl
theorem tm_1080 : (Jvm.Cond.instanceMethod ({ cls := "SaddleFitModel", name := "carriedBy", desc := "(I)I" } : Jvm.MethodName)) ∈ sf_tbl := sf_in (List.mem_append_right _ (List.mem_of_getElem? (i := 1080) (by decide +kernel))) rfl
set_option maxRecDepth 100000 in
theorem tm_1081 : (Jvm.Cond.code ({ cls := "SaddleFitModel", name := "carriedBy", desc := "(I)I" } : Jvm.MethodName) prog_12_method_29_code (4 : Nat) (Option.some Jvm.ClassFile.FieldType.int)) ∈ sf_tbl := sf_in (List.mem_append_right _ (List.mem_of_getElem? (i := 1081) rfl)) rfl
theorem tm_1082 : (Jvm.Cond.methodLink "SaddleFitModel" (243 : Nat) ({ cls := "SaddleFitModel", name := "stuffFor", desc := "(I)I" } : Jvm.MethodName)) ∈ sf_tbl := sf_in (List.mem_append_right _ (List.mem_of_getElem? (i := 1082) (by decide +kernel))) rfl
theorem tm_1084 : (Jvm.Cond.instanceMethod ({ cls := "SaddleFitModel", name := "stuffFor", desc := "(I)I" } : Jvm.MethodName)) ∈ sf_tbl := sf_in (List.mem_append_right _ (List.mem_of_getElem? (i := 1084) (by decide +kernel))) rfl
set_option maxRecDepth 100000 in
theorem tm_1085 : (Jvm.Cond.code ({ cls := "SaddleFitModel", name := "stuffFor", desc := "(I)I" } : Jvm.MethodName) prog_12_method_35_code (4 : Nat) (Option.some Jvm.ClassFile.FieldType.int)) ∈ sf_tbl := sf_in (List.mem_append_right _ (List.mem_of_getElem? (i := 1085) rfl)) rfl
theorem tm_1086 : (Jvm.Cond.methodLink "SaddleFitModel" (246 : Nat) ({ cls := "SaddleFitModel", name := "ringOf", desc := "(I)I" } : Jvm.MethodName)) ∈ sf_tbl := sf_in (List.mem_append_right _ (List.mem_of_getElem? (i := 1086) (by decide +kernel))) rfl
theorem tm_1088 : (Jvm.Cond.instanceMethod ({ cls := "SaddleFitModel", name := "ringOf", desc := "(I)I" } : Jvm.MethodName)) ∈ sf_tbl := sf_in (List.mem_append_right _ (List.mem_of_getElem? (i := 1088) (by decide +kernel))) rfl
set_option maxRecDepth 100000 in
theorem tm_1089 : (Jvm.Cond.code ({ cls := "SaddleFitModel", name := "ringOf", desc := "(I)I" } : Jvm.MethodName) prog_12_method_37_code (6 : Nat) (Option.some Jvm.ClassFile.FieldType.int)) ∈ sf_tbl := sf_in (List.mem_append_right _ (List.mem_of_getElem? (i := 1089) rfl)) rfl
theorem tm_1094 : (Jvm.Cond.methodLink "SaddleFitModel" (252 : Nat) ({ cls := "SaddleFitModel", name := "daysRefused", desc := "(I)I" } : Jvm.MethodName)) ∈ sf_tbl := sf_in (List.mem_append_right _ (List.mem_of_getElem? (i := 1094) (by decide +kernel))) rfl
theorem tm_1096 : (Jvm.Cond.instanceMethod ({ cls := "SaddleFitModel", name := "daysRefused", desc := "(I)I" } : Jvm.MethodName)) ∈ sf_tbl := sf_in (List.mem_append_right _ (List.mem_of_getElem? (i := 1096) (by decide +kernel))) rfl
set_option maxRecDepth 100000 in
theorem tm_1097 : (Jvm.Cond.code ({ cls := "SaddleFitModel", name := "daysRefused", desc := "(I)I" } : Jvm.MethodName) prog_12_method_43_code (2 : Nat) (Option.some Jvm.ClassFile.FieldType.int)) ∈ sf_tbl := sf_in (List.mem_append_right _ (List.mem_of_getElem? (i := 1097) rfl)) rfl
theorem tm_1098 : (Jvm.Cond.constantLong "SaddleFitModel" (249 : Nat) (60 : Int64)) ∈ sf_tbl := sf_in (List.mem_append_right _ (List.mem_of_getElem? (i := 1098) (by decide +kernel))) rfl
theorem tm_1099 : (Jvm.Cond.constant "SaddleFitModel" (251 : Nat) (-1000000003 : Int32)) ∈ sf_tbl := sf_in (List.mem_append_right _ (List.mem_of_getElem? (i := 1099) (by decide +kernel))) rfl
theorem tm_1100 : (Jvm.Cond.methodLink "SaddleFitModel" (255 : Nat) ({ cls := "SaddleFitModel", name := "remember", desc := "()V" } : Jvm.MethodName)) ∈ sf_tbl := sf_in (List.mem_append_right _ (List.mem_of_getElem? (i := 1100) (by decide +kernel))) rfl
theorem tm_1102 : (Jvm.Cond.instanceMethod ({ cls := "SaddleFitModel", name := "remember", desc := "()V" } : Jvm.MethodName)) ∈ sf_tbl := sf_in (List.mem_append_right _ (List.mem_of_getElem? (i := 1102) (by decide +kernel))) rfl
set_option maxRecDepth 100000 in
theorem tm_1103 : (Jvm.Cond.code ({ cls := "SaddleFitModel", name := "remember", desc := "()V" } : Jvm.MethodName) prog_12_method_41_code (2 : Nat) (Option.none : Option Jvm.ClassFile.FieldType)) ∈ sf_tbl := sf_in (List.mem_append_right _ (List.mem_of_getElem? (i := 1103) rfl)) rfl
theorem tm_1104 : (Jvm.Cond.methodLink "SaddleFitModel" (258 : Nat) ({ cls := "SaddleFitModel", name := "pass", desc := "()V" } : Jvm.MethodName)) ∈ sf_tbl := sf_in (List.mem_append_right _ (List.mem_of_getElem? (i := 1104) (by decide +kernel))) rfl
theorem tm_1106 : (Jvm.Cond.instanceMethod ({ cls := "SaddleFitModel", name := "pass", desc := "()V" } : Jvm.MethodName)) ∈ sf_tbl := sf_in (List.mem_append_right _ (List.mem_of_getElem? (i := 1106) (by decide +kernel))) rfl
set_option maxRecDepth 100000 in
theorem tm_1107 : (Jvm.Cond.code ({ cls := "SaddleFitModel", name := "pass", desc := "()V" } : Jvm.MethodName) prog_12_method_42_code (3 : Nat) (Option.none : Option Jvm.ClassFile.FieldType)) ∈ sf_tbl := sf_in (List.mem_append_right _ (List.mem_of_getElem? (i := 1107) rfl)) rfl
theorem tm_1116 : (Jvm.Cond.methodLink "SaddleFitModel" (261 : Nat) ({ cls := "SaddleFitModel", name := "canShare", desc := "(II)Z" } : Jvm.MethodName)) ∈ sf_tbl := sf_in (List.mem_append_right _ (List.mem_of_getElem? (i := 1116) (by decide +kernel))) rfl
theorem tm_1118 : (Jvm.Cond.instanceMethod ({ cls := "SaddleFitModel", name := "canShare", desc := "(II)Z" } : Jvm.MethodName)) ∈ sf_tbl := sf_in (List.mem_append_right _ (List.mem_of_getElem? (i := 1118) (by decide +kernel))) rfl
set_option maxRecDepth 100000 in
theorem tm_1119 : (Jvm.Cond.code ({ cls := "SaddleFitModel", name := "canShare", desc := "(II)Z" } : Jvm.MethodName) prog_12_method_46_code (3 : Nat) (Option.some Jvm.ClassFile.FieldType.boolean)) ∈ sf_tbl := sf_in (List.mem_append_right _ (List.mem_of_getElem? (i := 1119) rfl)) rfl
theorem tm_1124 : (Jvm.Cond.methodLink "SaddleFitModel" (264 : Nat) ({ cls := "SaddleFitModel", name := "downNow", desc := "(II)V" } : Jvm.MethodName)) ∈ sf_tbl := sf_in (List.mem_append_right _ (List.mem_of_getElem? (i := 1124) (by decide +kernel))) rfl
theorem tm_1126 : (Jvm.Cond.instanceMethod ({ cls := "SaddleFitModel", name := "downNow", desc := "(II)V" } : Jvm.MethodName)) ∈ sf_tbl := sf_in (List.mem_append_right _ (List.mem_of_getElem? (i := 1126) (by decide +kernel))) rfl
set_option maxRecDepth 100000 in
theorem tm_1127 : (Jvm.Cond.code ({ cls := "SaddleFitModel", name := "downNow", desc := "(II)V" } : Jvm.MethodName) prog_12_method_48_code (3 : Nat) (Option.none : Option Jvm.ClassFile.FieldType)) ∈ sf_tbl := sf_in (List.mem_append_right _ (List.mem_of_getElem? (i := 1127) rfl)) rfl
theorem tm_1136 : (Jvm.Cond.constantLong "SaddleFitModel" (268 : Nat) (-30 : Int64)) ∈ sf_tbl := sf_in (List.mem_append_right _ (List.mem_of_getElem? (i := 1136) (by decide +kernel))) rfl
theorem tm_1137 : (Jvm.Cond.constantLong "SaddleFitModel" (270 : Nat) (30 : Int64)) ∈ sf_tbl := sf_in (List.mem_append_right _ (List.mem_of_getElem? (i := 1137) (by decide +kernel))) rfl
theorem tm_1146 : (Jvm.Cond.methodLink "SaddleFitModel" (285 : Nat) ({ cls := "SaddleFitModel", name := "chance", desc := "()V" } : Jvm.MethodName)) ∈ sf_tbl := sf_in (List.mem_append_right _ (List.mem_of_getElem? (i := 1146) (by decide +kernel))) rfl
theorem tm_1148 : (Jvm.Cond.instanceMethod ({ cls := "SaddleFitModel", name := "chance", desc := "()V" } : Jvm.MethodName)) ∈ sf_tbl := sf_in (List.mem_append_right _ (List.mem_of_getElem? (i := 1148) (by decide +kernel))) rfl
set_option maxRecDepth 100000 in
theorem tm_1149 : (Jvm.Cond.code ({ cls := "SaddleFitModel", name := "chance", desc := "()V" } : Jvm.MethodName) prog_12_method_54_code (4 : Nat) (Option.none : Option Jvm.ClassFile.FieldType)) ∈ sf_tbl := sf_in (List.mem_append_right _ (List.mem_of_getElem? (i := 1149) rfl)) rfl
theorem tm_1150 : (Jvm.Cond.methodLink "SaddleFitModel" (282 : Nat) ({ cls := "SaddleFitModel", name := "draw", desc := "(I)I" } : Jvm.MethodName)) ∈ sf_tbl := sf_in (List.mem_append_right _ (List.mem_of_getElem? (i := 1150) (by decide +kernel))) rfl
theorem tm_1152 : (Jvm.Cond.instanceMethod ({ cls := "SaddleFitModel", name := "draw", desc := "(I)I" } : Jvm.MethodName)) ∈ sf_tbl := sf_in (List.mem_append_right _ (List.mem_of_getElem? (i := 1152) (by decide +kernel))) rfl
set_option maxRecDepth 100000 in
theorem tm_1153 : (Jvm.Cond.code ({ cls := "SaddleFitModel", name := "draw", desc := "(I)I" } : Jvm.MethodName) prog_12_method_53_code (2 : Nat) (Option.some Jvm.ClassFile.FieldType.int)) ∈ sf_tbl := sf_in (List.mem_append_right _ (List.mem_of_getElem? (i := 1153) rfl)) rfl
theorem tm_1154 : (Jvm.Cond.constantLong "SaddleFitModel" (275 : Nat) (1103515245 : Int64)) ∈ sf_tbl := sf_in (List.mem_append_right _ (List.mem_of_getElem? (i := 1154) (by decide +kernel))) rfl
theorem tm_1155 : (Jvm.Cond.constantLong "SaddleFitModel" (277 : Nat) (12345 : Int64)) ∈ sf_tbl := sf_in (List.mem_append_right _ (List.mem_of_getElem? (i := 1155) (by decide +kernel))) rfl
theorem tm_1156 : (Jvm.Cond.constantLong "SaddleFitModel" (279 : Nat) (2147483648 : Int64)) ∈ sf_tbl := sf_in (List.mem_append_right _ (List.mem_of_getElem? (i := 1156) (by decide +kernel))) rfl
theorem tm_1157 : (Jvm.Cond.constant "SaddleFitModel" (281 : Nat) (65536 : Int32)) ∈ sf_tbl := sf_in (List.mem_append_right _ (List.mem_of_getElem? (i := 1157) (by decide +kernel))) rfl
theorem tm_1166 : (Jvm.Cond.constantLong "SaddleFitModel" (288 : Nat) (200 : Int64)) ∈ sf_tbl := sf_in (List.mem_append_right _ (List.mem_of_getElem? (i := 1166) (by decide +kernel))) rfl
theorem tm_1179 : (Jvm.Cond.methodLink "SaddleFitModel" (303 : Nat) ({ cls := "SaddleFitModel", name := "findFit", desc := "()V" } : Jvm.MethodName)) ∈ sf_tbl := sf_in (List.mem_append_right _ (List.mem_of_getElem? (i := 1179) (by decide +kernel))) rfl
theorem tm_1181 : (Jvm.Cond.instanceMethod ({ cls := "SaddleFitModel", name := "findFit", desc := "()V" } : Jvm.MethodName)) ∈ sf_tbl := sf_in (List.mem_append_right _ (List.mem_of_getElem? (i := 1181) (by decide +kernel))) rfl
set_option maxRecDepth 100000 in
theorem tm_1182 : (Jvm.Cond.code ({ cls := "SaddleFitModel", name := "findFit", desc := "()V" } : Jvm.MethodName) prog_12_method_62_code (3 : Nat) (Option.none : Option Jvm.ClassFile.FieldType)) ∈ sf_tbl := sf_in (List.mem_append_right _ (List.mem_of_getElem? (i := 1182) rfl)) rfl
theorem tm_1183 : (Jvm.Cond.methodLink "SaddleFitModel" (293 : Nat) ({ cls := "SaddleFitModel", name := "ways", desc := "()I" } : Jvm.MethodName)) ∈ sf_tbl := sf_in (List.mem_append_right _ (List.mem_of_getElem? (i := 1183) (by decide +kernel))) rfl
theorem tm_1185 : (Jvm.Cond.instanceMethod ({ cls := "SaddleFitModel", name := "ways", desc := "()I" } : Jvm.MethodName)) ∈ sf_tbl := sf_in (List.mem_append_right _ (List.mem_of_getElem? (i := 1185) (by decide +kernel))) rfl
set_option maxRecDepth 100000 in
theorem tm_1186 : (Jvm.Cond.code ({ cls := "SaddleFitModel", name := "ways", desc := "()I" } : Jvm.MethodName) prog_12_method_60_code (3 : Nat) (Option.some Jvm.ClassFile.FieldType.int)) ∈ sf_tbl := sf_in (List.mem_append_right _ (List.mem_of_getElem? (i := 1186) rfl)) rfl
theorem tm_1187 : (Jvm.Cond.methodLink "SaddleFitModel" (296 : Nat) ({ cls := "SaddleFitModel", name := "carryBy", desc := "(I)V" } : Jvm.MethodName)) ∈ sf_tbl := sf_in (List.mem_append_right _ (List.mem_of_getElem? (i := 1187) (by decide +kernel))) rfl
theorem tm_1189 : (Jvm.Cond.instanceMethod ({ cls := "SaddleFitModel", name := "carryBy", desc := "(I)V" } : Jvm.MethodName)) ∈ sf_tbl := sf_in (List.mem_append_right _ (List.mem_of_getElem? (i := 1189) (by decide +kernel))) rfl
set_option maxRecDepth 100000 in
theorem tm_1190 : (Jvm.Cond.code ({ cls := "SaddleFitModel", name := "carryBy", desc := "(I)V" } : Jvm.MethodName) prog_12_method_61_code (4 : Nat) (Option.none : Option Jvm.ClassFile.FieldType)) ∈ sf_tbl := sf_in (List.mem_append_right _ (List.mem_of_getElem? (i := 1190) rfl)) rfl
theorem tm_1199 : (Jvm.Cond.methodLink "SaddleFitModel" (306 : Nat) ({ cls := "SaddleFitModel", name := "soreBy", desc := "(III)I" } : Jvm.MethodName)) ∈ sf_tbl := sf_in (List.mem_append_right _ (List.mem_of_getElem? (i := 1199) (by decide +kernel))) rfl
theorem tm_1201 : (Jvm.Cond.instanceMethod ({ cls := "SaddleFitModel", name := "soreBy", desc := "(III)I" } : Jvm.MethodName)) ∈ sf_tbl := sf_in (List.mem_append_right _ (List.mem_of_getElem? (i := 1201) (by decide +kernel))) rfl
set_option maxRecDepth 100000 in
theorem tm_1202 : (Jvm.Cond.code ({ cls := "SaddleFitModel", name := "soreBy", desc := "(III)I" } : Jvm.MethodName) prog_12_method_65_code (8 : Nat) (Option.some Jvm.ClassFile.FieldType.int)) ∈ sf_tbl := sf_in (List.mem_append_right _ (List.mem_of_getElem? (i := 1202) rfl)) rfl
theorem tm_1215 : (Jvm.Cond.constantLong "SaddleFitModel" (310 : Nat) (100 : Int64)) ∈ sf_tbl := sf_in (List.mem_append_right _ (List.mem_of_getElem? (i := 1215) (by decide +kernel))) rfl
theorem tm_1216 : (Jvm.Cond.constantLong "SaddleFitModel" (312 : Nat) (1000000000 : Int64)) ∈ sf_tbl := sf_in (List.mem_append_right _ (List.mem_of_getElem? (i := 1216) (by decide +kernel))) rfl
theorem tm_1221 : (Jvm.Cond.constantLong "SaddleFitModel" (314 : Nat) (99 : Int64)) ∈ sf_tbl := sf_in (List.mem_append_right _ (List.mem_of_getElem? (i := 1221) (by decide +kernel))) rfl
theorem tm_1223 : (Jvm.Cond.instanceMethod ({ cls := "SaddleFitModel", name := "carries", desc := "(I)I" } : Jvm.MethodName)) ∈ sf_tbl := sf_in (List.mem_append_right _ (List.mem_of_getElem? (i := 1223) (by decide +kernel))) rfl
theorem tm_1224 : (Jvm.Cond.selects "SaddleFitModel" ({ cls := "SaddleFitModel", name := "carries", desc := "(I)I" } : Jvm.MethodName) ({ cls := "SaddleFitModel", name := "carries", desc := "(I)I" } : Jvm.MethodName)) ∈ sf_tbl := sf_in (List.mem_append_right _ (List.mem_of_getElem? (i := 1224) (by decide +kernel))) rfl
set_option maxRecDepth 100000 in
theorem tm_1225 : (Jvm.Cond.code ({ cls := "SaddleFitModel", name := "carries", desc := "(I)I" } : Jvm.MethodName) prog_12_method_73_code (5 : Nat) (Option.some Jvm.ClassFile.FieldType.int)) ∈ sf_tbl := sf_in (List.mem_append_right _ (List.mem_of_getElem? (i := 1225) rfl)) rfl
theorem tm_1226 : (Jvm.Cond.constantLong "SaddleFitModel" (319 : Nat) (2 : Int64)) ∈ sf_tbl := sf_in (List.mem_append_right _ (List.mem_of_getElem? (i := 1226) (by decide +kernel))) rfl
theorem tm_1227 : (Jvm.Cond.methodLink "SaddleFitModel" (321 : Nat) ({ cls := "SaddleFitModel", name := "couldBe", desc := "(I)Z" } : Jvm.MethodName)) ∈ sf_tbl := sf_in (List.mem_append_right _ (List.mem_of_getElem? (i := 1227) (by decide +kernel))) rfl
theorem tm_1229 : (Jvm.Cond.instanceMethod ({ cls := "SaddleFitModel", name := "couldBe", desc := "(I)Z" } : Jvm.MethodName)) ∈ sf_tbl := sf_in (List.mem_append_right _ (List.mem_of_getElem? (i := 1229) (by decide +kernel))) rfl
set_option maxRecDepth 100000 in
theorem tm_1230 : (Jvm.Cond.code ({ cls := "SaddleFitModel", name := "couldBe", desc := "(I)Z" } : Jvm.MethodName) prog_12_method_72_code (4 : Nat) (Option.some Jvm.ClassFile.FieldType.boolean)) ∈ sf_tbl := sf_in (List.mem_append_right _ (List.mem_of_getElem? (i := 1230) rfl)) rfl
theorem tm_1231 : (Jvm.Cond.methodLink "SaddleFitModel" (316 : Nat) ({ cls := "SaddleFitModel", name := "gallsBy", desc := "(III)I" } : Jvm.MethodName)) ∈ sf_tbl := sf_in (List.mem_append_right _ (List.mem_of_getElem? (i := 1231) (by decide +kernel))) rfl
theorem tm_1232 : (Jvm.Cond.static ({ cls := "SaddleFitModel", name := "gallsBy", desc := "(III)I" } : Jvm.MethodName)) ∈ sf_tbl := sf_in (List.mem_append_right _ (List.mem_of_getElem? (i := 1232) (by decide +kernel))) rfl
set_option maxRecDepth 100000 in
theorem tm_1233 : (Jvm.Cond.code ({ cls := "SaddleFitModel", name := "gallsBy", desc := "(III)I" } : Jvm.MethodName) prog_12_method_71_code (3 : Nat) (Option.some Jvm.ClassFile.FieldType.int)) ∈ sf_tbl := sf_in (List.mem_append_right _ (List.mem_of_getElem? (i := 1233) rfl)) rfl
theorem tm_1238 : (Jvm.Cond.methodLink "SaddleFitModel" (324 : Nat) ({ cls := "SaddleFitModel", name := "carries", desc := "(I)I" } : Jvm.MethodName)) ∈ sf_tbl := sf_in (List.mem_append_right _ (List.mem_of_getElem? (i := 1238) (by decide +kernel))) rfl
theorem tm_1239 : (Jvm.Cond.methodLink "SaddleFitModel" (327 : Nat) ({ cls := "SaddleFitModel", name := "greatestPart", desc := "(I)I" } : Jvm.MethodName)) ∈ sf_tbl := sf_in (List.mem_append_right _ (List.mem_of_getElem? (i := 1239) (by decide +kernel))) rfl
theorem tm_1241 : (Jvm.Cond.instanceMethod ({ cls := "SaddleFitModel", name := "greatestPart", desc := "(I)I" } : Jvm.MethodName)) ∈ sf_tbl := sf_in (List.mem_append_right _ (List.mem_of_getElem? (i := 1241) (by decide +kernel))) rfl
set_option maxRecDepth 100000 in
theorem tm_1242 : (Jvm.Cond.code ({ cls := "SaddleFitModel", name := "greatestPart", desc := "(I)I" } : Jvm.MethodName) prog_12_method_74_code (5 : Nat) (Option.some Jvm.ClassFile.FieldType.int)) ∈ sf_tbl := sf_in (List.mem_append_right _ (List.mem_of_getElem? (i := 1242) rfl)) rfl
theorem tm_1247 : (Jvm.Cond.constantLong "SaddleFitModel" (330 : Nat) (9999 : Int64)) ∈ sf_tbl := sf_in (List.mem_append_right _ (List.mem_of_getElem? (i := 1247) (by decide +kernel))) rfl
theorem ts_0 : Cond.selects "SaddleFit$Reader" ⟨"SaddleFit$Reader", "passBlanks", "()V"⟩ ⟨"SaddleFit$Reader", "passBlanks", "()V"⟩ ∈ sf_tbl := sf_in (List.mem_append_left _ (List.mem_of_getElem? (i := 0) (by decide +kernel))) rfl
theorem ts_1 : Cond.selects "SaddleFit$Reader" ⟨"SaddleFit$Reader", "letterHere", "()I"⟩ ⟨"SaddleFit$Reader", "letterHere", "()I"⟩ ∈ sf_tbl := sf_in (List.mem_append_left _ (List.mem_of_getElem? (i := 1) (by decide +kernel))) rfl
theorem ts_2 : Cond.selects "SaddleFit$Reader" ⟨"SaddleFit$Reader", "readClause", "(LSaddleFit$Shop;)V"⟩ ⟨"SaddleFit$Reader", "readClause", "(LSaddleFit$Shop;)V"⟩ ∈ sf_tbl := sf_in (List.mem_append_left _ (List.mem_of_getElem? (i := 2) (by decide +kernel))) rfl
theorem ts_3 : Cond.selects "SaddleFit$Reader" ⟨"SaddleFit$Reader", "blame", "(II)V"⟩ ⟨"SaddleFit$Reader", "blame", "(II)V"⟩ ∈ sf_tbl := sf_in (List.mem_append_left _ (List.mem_of_getElem? (i := 3) (by decide +kernel))) rfl
theorem ts_4 : Cond.selects "SaddleFit$Reader" ⟨"SaddleFit$Reader", "readNumber", "(II)I"⟩ ⟨"SaddleFit$Reader", "readNumber", "(II)I"⟩ ∈ sf_tbl := sf_in (List.mem_append_left _ (List.mem_of_getElem? (i := 4) (by decide +kernel))) rfl
theorem ts_5 : Cond.selects "SaddleFit$Reader" ⟨"SaddleFit$Reader", "endClause", "()V"⟩ ⟨"SaddleFit$Reader", "endClause", "()V"⟩ ∈ sf_tbl := sf_in (List.mem_append_left _ (List.mem_of_getElem? (i := 5) (by decide +kernel))) rfl
theorem ts_6 : Cond.selects "SaddleFit$Scale" ⟨"SaddleFit$Scale", "flockForBurdens", "(I)I"⟩ ⟨"SaddleFit$Scale", "flockForBurdens", "(I)I"⟩ ∈ sf_tbl := sf_in (List.mem_append_left _ (List.mem_of_getElem? (i := 6) (by decide +kernel))) rfl
theorem ts_7 : Cond.selects "SaddleFit$Scale" ⟨"SaddleFit$Scale", "flockForBurden", "(I)I"⟩ ⟨"SaddleFit$Scale", "flockForBurden", "(I)I"⟩ ∈ sf_tbl := sf_in (List.mem_append_left _ (List.mem_of_getElem? (i := 7) (by decide +kernel))) rfl
theorem ts_8 : Cond.selects "SaddleFit" ⟨"SaddleFit", "refusalOfDays", "(I)I"⟩ ⟨"SaddleFit", "refusalOfDays", "(I)I"⟩ ∈ sf_tbl := sf_in (List.mem_append_left _ (List.mem_of_getElem? (i := 8) (by decide +kernel))) rfl
theorem ts_9 : Cond.selects "SaddleFit" ⟨"SaddleFit", "doByDraws", "()V"⟩ ⟨"SaddleFit", "doByDraws", "()V"⟩ ∈ sf_tbl := sf_in (List.mem_append_left _ (List.mem_of_getElem? (i := 9) (by decide +kernel))) rfl
theorem ts_10 : Cond.selects "SaddleFit" ⟨"SaddleFit", "draw", "(I)I"⟩ ⟨"SaddleFit", "draw", "(I)I"⟩ ∈ sf_tbl := sf_in (List.mem_append_left _ (List.mem_of_getElem? (i := 10) (by decide +kernel))) rfl
theorem ts_11 : Cond.selects "SaddleFit$Fitting" ⟨"SaddleFit$Fitting", "begin", "()V"⟩ ⟨"SaddleFit$Fitting", "begin", "()V"⟩ ∈ sf_tbl := sf_in (List.mem_append_left _ (List.mem_of_getElem? (i := 11) (by decide +kernel))) rfl
theorem ts_12 : Cond.selects "SaddleFit$Fitting" ⟨"SaddleFit$Fitting", "lay", "(LSaddleFit$Scale;III)V"⟩ ⟨"SaddleFit$Fitting", "lay", "(LSaddleFit$Scale;III)V"⟩ ∈ sf_tbl := sf_in (List.mem_append_left _ (List.mem_of_getElem? (i := 12) (by decide +kernel))) rfl
theorem ts_13 : Cond.selects "SaddleFit$Fitting" ⟨"SaddleFit$Fitting", "putOn", "(LSaddleFit$Scale;II)I"⟩ ⟨"SaddleFit$Fitting", "putOn", "(LSaddleFit$Scale;II)I"⟩ ∈ sf_tbl := sf_in (List.mem_append_left _ (List.mem_of_getElem? (i := 13) (by decide +kernel))) rfl
theorem ts_14 : Cond.selects "SaddleFit$Unloading" ⟨"SaddleFit$Unloading", "putDownNext", "(LSaddleFit$Scale;IIIII)V"⟩ ⟨"SaddleFit$Unloading", "putDownNext", "(LSaddleFit$Scale;IIIII)V"⟩ ∈ sf_tbl := sf_in (List.mem_append_left _ (List.mem_of_getElem? (i := 14) (by decide +kernel))) rfl
theorem ts_15 : Cond.selects "SaddleFit$Feelings" ⟨"SaddleFit$Feelings", "agrees", "(II)Z"⟩ ⟨"SaddleFit$Feelings", "agrees", "(II)Z"⟩ ∈ sf_tbl := sf_in (List.mem_append_left _ (List.mem_of_getElem? (i := 15) (by decide +kernel))) rfl
theorem ts_16 : Cond.selects "SaddleFit$Feelings" ⟨"SaddleFit$Feelings", "greatestPart", "(II)I"⟩ ⟨"SaddleFit$Feelings", "greatestPart", "(II)I"⟩ ∈ sf_tbl := sf_in (List.mem_append_left _ (List.mem_of_getElem? (i := 16) (by decide +kernel))) rfl
theorem ts_17 : Cond.selects "SaddleFitModel" ⟨"SaddleFitModel", "here", "()I"⟩ ⟨"SaddleFitModel", "here", "()I"⟩ ∈ sf_tbl := sf_in (List.mem_append_left _ (List.mem_of_getElem? (i := 17) (by decide +kernel))) rfl
theorem ts_18 : Cond.selects "SaddleFitModel" ⟨"SaddleFitModel", "takeClause", "()I"⟩ ⟨"SaddleFitModel", "takeClause", "()I"⟩ ∈ sf_tbl := sf_in (List.mem_append_left _ (List.mem_of_getElem? (i := 18) (by decide +kernel))) rfl
theorem ts_19 : Cond.selects "SaddleFitModel" ⟨"SaddleFitModel", "fails", "(II)I"⟩ ⟨"SaddleFitModel", "fails", "(II)I"⟩ ∈ sf_tbl := sf_in (List.mem_append_left _ (List.mem_of_getElem? (i := 19) (by decide +kernel))) rfl
theorem ts_20 : Cond.selects "SaddleFitModel" ⟨"SaddleFitModel", "takeShop", "()I"⟩ ⟨"SaddleFitModel", "takeShop", "()I"⟩ ∈ sf_tbl := sf_in (List.mem_append_left _ (List.mem_of_getElem? (i := 20) (by decide +kernel))) rfl
theorem ts_21 : Cond.selects "SaddleFitModel" ⟨"SaddleFitModel", "takeNumber", "(II)I"⟩ ⟨"SaddleFitModel", "takeNumber", "(II)I"⟩ ∈ sf_tbl := sf_in (List.mem_append_left _ (List.mem_of_getElem? (i := 21) (by decide +kernel))) rfl
theorem ts_22 : Cond.selects "SaddleFitModel" ⟨"SaddleFitModel", "takeBurden", "()I"⟩ ⟨"SaddleFitModel", "takeBurden", "()I"⟩ ∈ sf_tbl := sf_in (List.mem_append_left _ (List.mem_of_getElem? (i := 22) (by decide +kernel))) rfl
theorem ts_23 : Cond.selects "SaddleFitModel" ⟨"SaddleFitModel", "into", "([IIII)I"⟩ ⟨"SaddleFitModel", "into", "([IIII)I"⟩ ∈ sf_tbl := sf_in (List.mem_append_left _ (List.mem_of_getElem? (i := 23) (by decide +kernel))) rfl
theorem ts_24 : Cond.selects "SaddleFitModel" ⟨"SaddleFitModel", "takeBack", "()I"⟩ ⟨"SaddleFitModel", "takeBack", "()I"⟩ ∈ sf_tbl := sf_in (List.mem_append_left _ (List.mem_of_getElem? (i := 24) (by decide +kernel))) rfl
theorem ts_25 : Cond.selects "SaddleFitModel" ⟨"SaddleFitModel", "takeRead", "()V"⟩ ⟨"SaddleFitModel", "takeRead", "()V"⟩ ∈ sf_tbl := sf_in (List.mem_append_left _ (List.mem_of_getElem? (i := 25) (by decide +kernel))) rfl
theorem ts_26 : Cond.selects "SaddleFitModel" ⟨"SaddleFitModel", "galledOnes", "()I"⟩ ⟨"SaddleFitModel", "galledOnes", "()I"⟩ ∈ sf_tbl := sf_in (List.mem_append_left _ (List.mem_of_getElem? (i := 26) (by decide +kernel))) rfl
theorem ts_27 : Cond.selects "SaddleFitModel" ⟨"SaddleFitModel", "allGalling", "()I"⟩ ⟨"SaddleFitModel", "allGalling", "()I"⟩ ∈ sf_tbl := sf_in (List.mem_append_left _ (List.mem_of_getElem? (i := 27) (by decide +kernel))) rfl
theorem ts_28 : Cond.selects "SaddleFitModel" ⟨"SaddleFitModel", "gallingOf", "(I)I"⟩ ⟨"SaddleFitModel", "gallingOf", "(I)I"⟩ ∈ sf_tbl := sf_in (List.mem_append_left _ (List.mem_of_getElem? (i := 28) (by decide +kernel))) rfl
theorem ts_29 : Cond.selects "SaddleFitModel" ⟨"SaddleFitModel", "partsOf", "(I)I"⟩ ⟨"SaddleFitModel", "partsOf", "(I)I"⟩ ∈ sf_tbl := sf_in (List.mem_append_left _ (List.mem_of_getElem? (i := 29) (by decide +kernel))) rfl
theorem ts_30 : Cond.selects "SaddleFitModel" ⟨"SaddleFitModel", "partOf", "(II)I"⟩ ⟨"SaddleFitModel", "partOf", "(II)I"⟩ ∈ sf_tbl := sf_in (List.mem_append_left _ (List.mem_of_getElem? (i := 30) (by decide +kernel))) rfl
theorem ts_31 : Cond.selects "SaddleFitModel" ⟨"SaddleFitModel", "bears", "(II)Z"⟩ ⟨"SaddleFitModel", "bears", "(II)Z"⟩ ∈ sf_tbl := sf_in (List.mem_append_left _ (List.mem_of_getElem? (i := 31) (by decide +kernel))) rfl
theorem ts_32 : Cond.selects "SaddleFitModel" ⟨"SaddleFitModel", "isShared", "(I)Z"⟩ ⟨"SaddleFitModel", "isShared", "(I)Z"⟩ ∈ sf_tbl := sf_in (List.mem_append_left _ (List.mem_of_getElem? (i := 32) (by decide +kernel))) rfl
theorem ts_33 : Cond.selects "SaddleFitModel" ⟨"SaddleFitModel", "rubsOn", "(II)I"⟩ ⟨"SaddleFitModel", "rubsOn", "(II)I"⟩ ∈ sf_tbl := sf_in (List.mem_append_left _ (List.mem_of_getElem? (i := 33) (by decide +kernel))) rfl
theorem ts_34 : Cond.selects "SaddleFitModel" ⟨"SaddleFitModel", "restOf", "(I)I"⟩ ⟨"SaddleFitModel", "restOf", "(I)I"⟩ ∈ sf_tbl := sf_in (List.mem_append_left _ (List.mem_of_getElem? (i := 34) (by decide +kernel))) rfl
theorem ts_35 : Cond.selects "SaddleFitModel" ⟨"SaddleFitModel", "isAugust", "()Z"⟩ ⟨"SaddleFitModel", "isAugust", "()Z"⟩ ∈ sf_tbl := sf_in (List.mem_append_left _ (List.mem_of_getElem? (i := 35) (by decide +kernel))) rfl
theorem ts_36 : Cond.selects "SaddleFitModel" ⟨"SaddleFitModel", "freeOnes", "()I"⟩ ⟨"SaddleFitModel", "freeOnes", "()I"⟩ ∈ sf_tbl := sf_in (List.mem_append_left _ (List.mem_of_getElem? (i := 36) (by decide +kernel))) rfl
theorem ts_37 : Cond.selects "SaddleFitModel" ⟨"SaddleFitModel", "sharedOnes", "()I"⟩ ⟨"SaddleFitModel", "sharedOnes", "()I"⟩ ∈ sf_tbl := sf_in (List.mem_append_left _ (List.mem_of_getElem? (i := 37) (by decide +kernel))) rfl
theorem ts_38 : Cond.selects "SaddleFitModel" ⟨"SaddleFitModel", "most", "()I"⟩ ⟨"SaddleFitModel", "most", "()I"⟩ ∈ sf_tbl := sf_in (List.mem_append_left _ (List.mem_of_getElem? (i := 38) (by decide +kernel))) rfl
theorem ts_39 : Cond.selects "SaddleFitModel" ⟨"SaddleFitModel", "stuffForAll", "()I"⟩ ⟨"SaddleFitModel", "stuffForAll", "()I"⟩ ∈ sf_tbl := sf_in (List.mem_append_left _ (List.mem_of_getElem? (i := 39) (by decide +kernel))) rfl
theorem ts_40 : Cond.selects "SaddleFitModel" ⟨"SaddleFitModel", "needOf", "(I)I"⟩ ⟨"SaddleFitModel", "needOf", "(I)I"⟩ ∈ sf_tbl := sf_in (List.mem_append_left _ (List.mem_of_getElem? (i := 40) (by decide +kernel))) rfl
theorem ts_41 : Cond.selects "SaddleFitModel" ⟨"SaddleFitModel", "isBurden", "(I)Z"⟩ ⟨"SaddleFitModel", "isBurden", "(I)Z"⟩ ∈ sf_tbl := sf_in (List.mem_append_left _ (List.mem_of_getElem? (i := 41) (by decide +kernel))) rfl
theorem ts_42 : Cond.selects "SaddleFitModel" ⟨"SaddleFitModel", "isBack", "(I)Z"⟩ ⟨"SaddleFitModel", "isBack", "(I)Z"⟩ ∈ sf_tbl := sf_in (List.mem_append_left _ (List.mem_of_getElem? (i := 42) (by decide +kernel))) rfl
theorem ts_43 : Cond.selects "SaddleFitModel" ⟨"SaddleFitModel", "carriedBy", "(I)I"⟩ ⟨"SaddleFitModel", "carriedBy", "(I)I"⟩ ∈ sf_tbl := sf_in (List.mem_append_left _ (List.mem_of_getElem? (i := 43) (by decide +kernel))) rfl
theorem ts_44 : Cond.selects "SaddleFitModel" ⟨"SaddleFitModel", "stuffFor", "(I)I"⟩ ⟨"SaddleFitModel", "stuffFor", "(I)I"⟩ ∈ sf_tbl := sf_in (List.mem_append_left _ (List.mem_of_getElem? (i := 44) (by decide +kernel))) rfl
theorem ts_45 : Cond.selects "SaddleFitModel" ⟨"SaddleFitModel", "ringOf", "(I)I"⟩ ⟨"SaddleFitModel", "ringOf", "(I)I"⟩ ∈ sf_tbl := sf_in (List.mem_append_left _ (List.mem_of_getElem? (i := 45) (by decide +kernel))) rfl
theorem ts_46 : Cond.selects "SaddleFitModel" ⟨"SaddleFitModel", "daysRefused", "(I)I"⟩ ⟨"SaddleFitModel", "daysRefused", "(I)I"⟩ ∈ sf_tbl := sf_in (List.mem_append_left _ (List.mem_of_getElem? (i := 46) (by decide +kernel))) rfl
theorem ts_47 : Cond.selects "SaddleFitModel" ⟨"SaddleFitModel", "remember", "()V"⟩ ⟨"SaddleFitModel", "remember", "()V"⟩ ∈ sf_tbl := sf_in (List.mem_append_left _ (List.mem_of_getElem? (i := 47) (by decide +kernel))) rfl
theorem ts_48 : Cond.selects "SaddleFitModel" ⟨"SaddleFitModel", "pass", "()V"⟩ ⟨"SaddleFitModel", "pass", "()V"⟩ ∈ sf_tbl := sf_in (List.mem_append_left _ (List.mem_of_getElem? (i := 48) (by decide +kernel))) rfl
theorem ts_49 : Cond.selects "SaddleFitModel" ⟨"SaddleFitModel", "canShare", "(II)Z"⟩ ⟨"SaddleFitModel", "canShare", "(II)Z"⟩ ∈ sf_tbl := sf_in (List.mem_append_left _ (List.mem_of_getElem? (i := 49) (by decide +kernel))) rfl
theorem ts_50 : Cond.selects "SaddleFitModel" ⟨"SaddleFitModel", "downNow", "(II)V"⟩ ⟨"SaddleFitModel", "downNow", "(II)V"⟩ ∈ sf_tbl := sf_in (List.mem_append_left _ (List.mem_of_getElem? (i := 50) (by decide +kernel))) rfl
theorem ts_51 : Cond.selects "SaddleFitModel" ⟨"SaddleFitModel", "chance", "()V"⟩ ⟨"SaddleFitModel", "chance", "()V"⟩ ∈ sf_tbl := sf_in (List.mem_append_left _ (List.mem_of_getElem? (i := 51) (by decide +kernel))) rfl
theorem ts_52 : Cond.selects "SaddleFitModel" ⟨"SaddleFitModel", "draw", "(I)I"⟩ ⟨"SaddleFitModel", "draw", "(I)I"⟩ ∈ sf_tbl := sf_in (List.mem_append_left _ (List.mem_of_getElem? (i := 52) (by decide +kernel))) rfl
theorem ts_53 : Cond.selects "SaddleFitModel" ⟨"SaddleFitModel", "findFit", "()V"⟩ ⟨"SaddleFitModel", "findFit", "()V"⟩ ∈ sf_tbl := sf_in (List.mem_append_left _ (List.mem_of_getElem? (i := 53) (by decide +kernel))) rfl
theorem ts_54 : Cond.selects "SaddleFitModel" ⟨"SaddleFitModel", "ways", "()I"⟩ ⟨"SaddleFitModel", "ways", "()I"⟩ ∈ sf_tbl := sf_in (List.mem_append_left _ (List.mem_of_getElem? (i := 54) (by decide +kernel))) rfl
theorem ts_55 : Cond.selects "SaddleFitModel" ⟨"SaddleFitModel", "carryBy", "(I)V"⟩ ⟨"SaddleFitModel", "carryBy", "(I)V"⟩ ∈ sf_tbl := sf_in (List.mem_append_left _ (List.mem_of_getElem? (i := 55) (by decide +kernel))) rfl
theorem ts_56 : Cond.selects "SaddleFitModel" ⟨"SaddleFitModel", "soreBy", "(III)I"⟩ ⟨"SaddleFitModel", "soreBy", "(III)I"⟩ ∈ sf_tbl := sf_in (List.mem_append_left _ (List.mem_of_getElem? (i := 56) (by decide +kernel))) rfl
theorem ts_57 : Cond.selects "SaddleFitModel" ⟨"SaddleFitModel", "couldBe", "(I)Z"⟩ ⟨"SaddleFitModel", "couldBe", "(I)Z"⟩ ∈ sf_tbl := sf_in (List.mem_append_left _ (List.mem_of_getElem? (i := 57) (by decide +kernel))) rfl
theorem ts_58 : Cond.selects "SaddleFitModel" ⟨"SaddleFitModel", "greatestPart", "(I)I"⟩ ⟨"SaddleFitModel", "greatestPart", "(I)I"⟩ ∈ sf_tbl := sf_in (List.mem_append_left _ (List.mem_of_getElem? (i := 58) (by decide +kernel))) rfl
theorem inX0 : ∀ w ∈ u_ws RX0 TX0 3, w ∈ sf_tbl := by decide +kernel
theorem inX1 : ∀ w ∈ u_ws RX1 TX1 7, w ∈ sf_tbl := by decide +kernel
theorem inX2 : ∀ w ∈ u_ws RX2 TX2 6, w ∈ sf_tbl := by decide +kernel
theorem inX3 : ∀ w ∈ u_ws RX3 TX3 7, w ∈ sf_tbl := by decide +kernel
theorem inX4 : ∀ w ∈ u_ws RX4 TX4 3, w ∈ sf_tbl := by decide +kernel
theorem inX5 : ∀ w ∈ u_ws RX5 TX5 5, w ∈ sf_tbl := by decide +kernel
theorem inX6 : ∀ w ∈ u_ws RX6 TX6 2, w ∈ sf_tbl := by decide +kernel
theorem inX7 : ∀ w ∈ u_ws RX7 TX7 9, w ∈ sf_tbl := by decide +kernel
theorem inX8 : ∀ w ∈ u_ws RX8 TX8 2, w ∈ sf_tbl := by decide +kernel
theorem inX9 : ∀ w ∈ u_ws RX9 TX9 14, w ∈ sf_tbl := by decide +kernel
theorem inX10 : ∀ w ∈ u_ws RX10 TX10 42, w ∈ sf_tbl := by decide +kernel
theorem fl_5_19 : sf_F RX5 19 5 0 := ⟨RX5, TX5, 5, tyX5, rfl, by decide, tm_28, inX5, tyX5_ok, nmX5⟩
theorem fw_5_19 : sf_Fw RX5 19 5 0 .int := ⟨RX5, TX5, 5, tyX5, rfl, by decide, tm_28, inX5, tyX5_ok, nmX5, rfl, by decide +kernel⟩
theorem fl_5_15 : sf_F RX5 15 5 2 := ⟨RX5, TX5, 5, tyX5, rfl, by decide, tm_32, inX5, tyX5_ok, nmX5⟩
theorem fl_9_10 : sf_F RX9 10 9 0 := ⟨RX9, TX9, 14, tyX9, rfl, by decide, tm_283, inX9, tyX9_ok, nmX9⟩
theorem fl_9_98 : sf_F RX9 98 5 0 := ⟨RX5, TX5, 5, tyX5, rfl, by decide, tm_29, inX5, tyX5_ok, nmX5⟩
theorem fw_9_98 : sf_Fw RX9 98 5 0 .int := ⟨RX5, TX5, 5, tyX5, rfl, by decide, tm_29, inX5, tyX5_ok, nmX5, rfl, by decide +kernel⟩
theorem fl_7_38 : sf_F RX7 38 7 0 := ⟨RX7, TX7, 9, tyX7, rfl, by decide, tm_54, inX7, tyX7_ok, nmX7⟩
theorem fw_7_38 : sf_Fw RX7 38 7 0 .boolean := ⟨RX7, TX7, 9, tyX7, rfl, by decide, tm_54, inX7, tyX7_ok, nmX7, rfl, by decide +kernel⟩
theorem fl_7_42 : sf_F RX7 42 7 1 := ⟨RX7, TX7, 9, tyX7, rfl, by decide, tm_58, inX7, tyX7_ok, nmX7⟩
theorem fw_7_42 : sf_Fw RX7 42 7 1 .int := ⟨RX7, TX7, 9, tyX7, rfl, by decide, tm_58, inX7, tyX7_ok, nmX7, rfl, by decide +kernel⟩
theorem fl_7_27 : sf_F RX7 27 7 2 := ⟨RX7, TX7, 9, tyX7, rfl, by decide, tm_59, inX7, tyX7_ok, nmX7⟩
theorem fw_7_27 : sf_Fw RX7 27 7 2 .int := ⟨RX7, TX7, 9, tyX7, rfl, by decide, tm_59, inX7, tyX7_ok, nmX7, rfl, by decide +kernel⟩
theorem fl_7_31 : sf_F RX7 31 7 3 := ⟨RX7, TX7, 9, tyX7, rfl, by decide, tm_65, inX7, tyX7_ok, nmX7⟩
theorem fw_7_31 : sf_Fw RX7 31 7 3 .int := ⟨RX7, TX7, 9, tyX7, rfl, by decide, tm_65, inX7, tyX7_ok, nmX7, rfl, by decide +kernel⟩
theorem fl_5_27 : sf_F RX5 27 5 3 := ⟨RX5, TX5, 5, tyX5, rfl, by decide, tm_33, inX5, tyX5_ok, nmX5⟩
theorem fw_5_27 : sf_Fw RX5 27 5 3 .int := ⟨RX5, TX5, 5, tyX5, rfl, by decide, tm_33, inX5, tyX5_ok, nmX5, rfl, by decide +kernel⟩
theorem fl_5_76 : sf_F RX5 76 7 3 := ⟨RX7, TX7, 9, tyX7, rfl, by decide, tm_67, inX7, tyX7_ok, nmX7⟩
theorem fw_5_76 : sf_Fw RX5 76 7 3 .int := ⟨RX7, TX7, 9, tyX7, rfl, by decide, tm_67, inX7, tyX7_ok, nmX7, rfl, by decide +kernel⟩
theorem fl_5_73 : sf_F RX5 73 7 2 := ⟨RX7, TX7, 9, tyX7, rfl, by decide, tm_63, inX7, tyX7_ok, nmX7⟩
theorem fw_5_73 : sf_Fw RX5 73 7 2 .int := ⟨RX7, TX7, 9, tyX7, rfl, by decide, tm_63, inX7, tyX7_ok, nmX7, rfl, by decide +kernel⟩
theorem fl_5_59 : sf_F RX5 59 7 0 := ⟨RX7, TX7, 9, tyX7, rfl, by decide, tm_53, inX7, tyX7_ok, nmX7⟩
theorem fw_5_59 : sf_Fw RX5 59 7 0 .boolean := ⟨RX7, TX7, 9, tyX7, rfl, by decide, tm_53, inX7, tyX7_ok, nmX7, rfl, by decide +kernel⟩
theorem fl_5_30 : sf_F RX5 30 5 4 := ⟨RX5, TX5, 5, tyX5, rfl, by decide, tm_34, inX5, tyX5_ok, nmX5⟩
theorem fw_5_30 : sf_Fw RX5 30 5 4 .int := ⟨RX5, TX5, 5, tyX5, rfl, by decide, tm_34, inX5, tyX5_ok, nmX5, rfl, by decide +kernel⟩
theorem fl_5_9 : sf_F RX5 9 5 1 := ⟨RX5, TX5, 5, tyX5, rfl, by decide, tm_30, inX5, tyX5_ok, nmX5⟩
theorem fw_5_9 : sf_Fw RX5 9 5 1 .int := ⟨RX5, TX5, 5, tyX5, rfl, by decide, tm_30, inX5, tyX5_ok, nmX5, rfl, by decide +kernel⟩
theorem fl_7_9 : sf_F RX7 9 7 4 := ⟨RX7, TX7, 9, tyX7, rfl, by decide, tm_70, inX7, tyX7_ok, nmX7⟩
theorem fl_7_15 : sf_F RX7 15 7 5 := ⟨RX7, TX7, 9, tyX7, rfl, by decide, tm_73, inX7, tyX7_ok, nmX7⟩
theorem fl_7_18 : sf_F RX7 18 7 6 := ⟨RX7, TX7, 9, tyX7, rfl, by decide, tm_75, inX7, tyX7_ok, nmX7⟩
theorem fl_7_21 : sf_F RX7 21 7 7 := ⟨RX7, TX7, 9, tyX7, rfl, by decide, tm_78, inX7, tyX7_ok, nmX7⟩
theorem fl_7_24 : sf_F RX7 24 7 8 := ⟨RX7, TX7, 9, tyX7, rfl, by decide, tm_82, inX7, tyX7_ok, nmX7⟩
theorem fl_5_63 : sf_F RX5 63 7 1 := ⟨RX7, TX7, 9, tyX7, rfl, by decide, tm_57, inX7, tyX7_ok, nmX7⟩
theorem fw_5_63 : sf_Fw RX5 63 7 1 .int := ⟨RX7, TX7, 9, tyX7, rfl, by decide, tm_57, inX7, tyX7_ok, nmX7, rfl, by decide +kernel⟩
theorem fl_3_24 : sf_F RX3 24 3 6 := ⟨RX3, TX3, 7, tyX3, rfl, by decide, tm_138, inX3, tyX3_ok, nmX3⟩
theorem fl_3_9 : sf_F RX3 9 3 2 := ⟨RX3, TX3, 7, tyX3, rfl, by decide, tm_125, inX3, tyX3_ok, nmX3⟩
theorem fl_3_39 : sf_F RX3 39 7 5 := ⟨RX7, TX7, 9, tyX7, rfl, by decide, tm_74, inX7, tyX7_ok, nmX7⟩
theorem fl_3_15 : sf_F RX3 15 3 3 := ⟨RX3, TX3, 7, tyX3, rfl, by decide, tm_129, inX3, tyX3_ok, nmX3⟩
theorem fl_3_18 : sf_F RX3 18 3 4 := ⟨RX3, TX3, 7, tyX3, rfl, by decide, tm_132, inX3, tyX3_ok, nmX3⟩
theorem fl_3_21 : sf_F RX3 21 3 5 := ⟨RX3, TX3, 7, tyX3, rfl, by decide, tm_135, inX3, tyX3_ok, nmX3⟩
theorem fl_3_27 : sf_F RX3 27 3 0 := ⟨RX3, TX3, 7, tyX3, rfl, by decide, tm_118, inX3, tyX3_ok, nmX3⟩
theorem fw_3_27 : sf_Fw RX3 27 3 0 .int := ⟨RX3, TX3, 7, tyX3, rfl, by decide, tm_118, inX3, tyX3_ok, nmX3, rfl, by decide +kernel⟩
theorem fl_3_31 : sf_F RX3 31 7 1 := ⟨RX7, TX7, 9, tyX7, rfl, by decide, tm_56, inX7, tyX7_ok, nmX7⟩
theorem fw_3_31 : sf_Fw RX3 31 7 1 .int := ⟨RX7, TX7, 9, tyX7, rfl, by decide, tm_56, inX7, tyX7_ok, nmX7, rfl, by decide +kernel⟩
theorem fl_3_36 : sf_F RX3 36 3 1 := ⟨RX3, TX3, 7, tyX3, rfl, by decide, tm_123, inX3, tyX3_ok, nmX3⟩
theorem fw_3_36 : sf_Fw RX3 36 3 1 .int := ⟨RX3, TX3, 7, tyX3, rfl, by decide, tm_123, inX3, tyX3_ok, nmX3, rfl, by decide +kernel⟩
theorem fl_1_27 : sf_F RX1 27 1 0 := ⟨RX1, TX1, 7, tyX1, rfl, by decide, tm_240, inX1, tyX1_ok, nmX1⟩
theorem fw_1_27 : sf_Fw RX1 27 1 0 .int := ⟨RX1, TX1, 7, tyX1, rfl, by decide, tm_240, inX1, tyX1_ok, nmX1, rfl, by decide +kernel⟩
theorem fl_0_18 : sf_F RX0 18 0 0 := ⟨RX0, TX0, 3, tyX0, rfl, by decide, tm_270, inX0, tyX0_ok, nmX0⟩
theorem fw_0_18 : sf_Fw RX0 18 0 0 .int := ⟨RX0, TX0, 3, tyX0, rfl, by decide, tm_270, inX0, tyX0_ok, nmX0, rfl, by decide +kernel⟩
theorem fl_4_18 : sf_F RX4 18 4 0 := ⟨RX4, TX4, 3, tyX4, rfl, by decide, tm_223, inX4, tyX4_ok, nmX4⟩
theorem fw_4_18 : sf_Fw RX4 18 4 0 .int := ⟨RX4, TX4, 3, tyX4, rfl, by decide, tm_223, inX4, tyX4_ok, nmX4, rfl, by decide +kernel⟩
theorem fl_9_33 : sf_F RX9 33 9 3 := ⟨RX9, TX9, 14, tyX9, rfl, by decide, tm_286, inX9, tyX9_ok, nmX9⟩
theorem fl_9_119 : sf_F RX9 119 7 2 := ⟨RX7, TX7, 9, tyX7, rfl, by decide, tm_62, inX7, tyX7_ok, nmX7⟩
theorem fw_9_119 : sf_Fw RX9 119 7 2 .int := ⟨RX7, TX7, 9, tyX7, rfl, by decide, tm_62, inX7, tyX7_ok, nmX7, rfl, by decide +kernel⟩
theorem fl_9_84 : sf_F RX9 84 9 12 := ⟨RX9, TX9, 14, tyX9, rfl, by decide, tm_295, inX9, tyX9_ok, nmX9⟩
theorem fl_9_19 : sf_F RX9 19 9 1 := ⟨RX9, TX9, 14, tyX9, rfl, by decide, tm_284, inX9, tyX9_ok, nmX9⟩
theorem fl_9_38 : sf_F RX9 38 9 4 := ⟨RX9, TX9, 14, tyX9, rfl, by decide, tm_287, inX9, tyX9_ok, nmX9⟩
theorem fl_9_63 : sf_F RX9 63 9 8 := ⟨RX9, TX9, 14, tyX9, rfl, by decide, tm_291, inX9, tyX9_ok, nmX9⟩
theorem fl_9_70 : sf_F RX9 70 9 9 := ⟨RX9, TX9, 14, tyX9, rfl, by decide, tm_292, inX9, tyX9_ok, nmX9⟩
theorem fl_9_56 : sf_F RX9 56 9 7 := ⟨RX9, TX9, 14, tyX9, rfl, by decide, tm_290, inX9, tyX9_ok, nmX9⟩
theorem fl_9_122 : sf_F RX9 122 5 1 := ⟨RX5, TX5, 5, tyX5, rfl, by decide, tm_31, inX5, tyX5_ok, nmX5⟩
theorem fw_9_122 : sf_Fw RX9 122 5 1 .int := ⟨RX5, TX5, 5, tyX5, rfl, by decide, tm_31, inX5, tyX5_ok, nmX5, rfl, by decide +kernel⟩
theorem fl_6_12 : sf_F RX6 12 6 0 := ⟨RX6, TX6, 2, tyX6, rfl, by decide, tm_158, inX6, tyX6_ok, nmX6⟩
theorem fl_6_58 : sf_F RX6 58 7 3 := ⟨RX7, TX7, 9, tyX7, rfl, by decide, tm_69, inX7, tyX7_ok, nmX7⟩
theorem fw_6_58 : sf_Fw RX6 58 7 3 .int := ⟨RX7, TX7, 9, tyX7, rfl, by decide, tm_69, inX7, tyX7_ok, nmX7, rfl, by decide +kernel⟩
theorem fl_6_21 : sf_F RX6 21 6 1 := ⟨RX6, TX6, 2, tyX6, rfl, by decide, tm_162, inX6, tyX6_ok, nmX6⟩
theorem fl_6_98 : sf_F RX6 98 3 6 := ⟨RX3, TX3, 7, tyX3, rfl, by decide, tm_142, inX3, tyX3_ok, nmX3⟩
theorem fl_6_25 : sf_F RX6 25 7 2 := ⟨RX7, TX7, 9, tyX7, rfl, by decide, tm_60, inX7, tyX7_ok, nmX7⟩
theorem fw_6_25 : sf_Fw RX6 25 7 2 .int := ⟨RX7, TX7, 9, tyX7, rfl, by decide, tm_60, inX7, tyX7_ok, nmX7, rfl, by decide +kernel⟩
theorem fl_6_40 : sf_F RX6 40 3 2 := ⟨RX3, TX3, 7, tyX3, rfl, by decide, tm_127, inX3, tyX3_ok, nmX3⟩
theorem fl_6_44 : sf_F RX6 44 3 4 := ⟨RX3, TX3, 7, tyX3, rfl, by decide, tm_133, inX3, tyX3_ok, nmX3⟩
theorem fl_6_64 : sf_F RX6 64 7 6 := ⟨RX7, TX7, 9, tyX7, rfl, by decide, tm_77, inX7, tyX7_ok, nmX7⟩
theorem fl_6_67 : sf_F RX6 67 3 3 := ⟨RX3, TX3, 7, tyX3, rfl, by decide, tm_131, inX3, tyX3_ok, nmX3⟩
theorem fl_6_75 : sf_F RX6 75 7 4 := ⟨RX7, TX7, 9, tyX7, rfl, by decide, tm_72, inX7, tyX7_ok, nmX7⟩
theorem fl_6_78 : sf_F RX6 78 7 8 := ⟨RX7, TX7, 9, tyX7, rfl, by decide, tm_84, inX7, tyX7_ok, nmX7⟩
theorem fl_6_88 : sf_F RX6 88 7 7 := ⟨RX7, TX7, 9, tyX7, rfl, by decide, tm_81, inX7, tyX7_ok, nmX7⟩
theorem fl_6_91 : sf_F RX6 91 3 0 := ⟨RX3, TX3, 7, tyX3, rfl, by decide, tm_122, inX3, tyX3_ok, nmX3⟩
theorem fw_6_91 : sf_Fw RX6 91 3 0 .int := ⟨RX3, TX3, 7, tyX3, rfl, by decide, tm_122, inX3, tyX3_ok, nmX3, rfl, by decide +kernel⟩
theorem fl_9_125 : sf_F RX9 125 7 3 := ⟨RX7, TX7, 9, tyX7, rfl, by decide, tm_68, inX7, tyX7_ok, nmX7⟩
theorem fw_9_125 : sf_Fw RX9 125 7 3 .int := ⟨RX7, TX7, 9, tyX7, rfl, by decide, tm_68, inX7, tyX7_ok, nmX7, rfl, by decide +kernel⟩
theorem fl_9_128 : sf_F RX9 128 3 0 := ⟨RX3, TX3, 7, tyX3, rfl, by decide, tm_121, inX3, tyX3_ok, nmX3⟩
theorem fw_9_128 : sf_Fw RX9 128 3 0 .int := ⟨RX3, TX3, 7, tyX3, rfl, by decide, tm_121, inX3, tyX3_ok, nmX3, rfl, by decide +kernel⟩
theorem fl_9_131 : sf_F RX9 131 3 1 := ⟨RX3, TX3, 7, tyX3, rfl, by decide, tm_124, inX3, tyX3_ok, nmX3⟩
theorem fw_9_131 : sf_Fw RX9 131 3 1 .int := ⟨RX3, TX3, 7, tyX3, rfl, by decide, tm_124, inX3, tyX3_ok, nmX3, rfl, by decide +kernel⟩
theorem fl_9_26 : sf_F RX9 26 9 2 := ⟨RX9, TX9, 14, tyX9, rfl, by decide, tm_285, inX9, tyX9_ok, nmX9⟩
theorem fl_9_154 : sf_F RX9 154 1 0 := ⟨RX1, TX1, 7, tyX1, rfl, by decide, tm_241, inX1, tyX1_ok, nmX1⟩
theorem fw_9_154 : sf_Fw RX9 154 1 0 .int := ⟨RX1, TX1, 7, tyX1, rfl, by decide, tm_241, inX1, tyX1_ok, nmX1, rfl, by decide +kernel⟩
theorem fl_9_157 : sf_F RX9 157 0 0 := ⟨RX0, TX0, 3, tyX0, rfl, by decide, tm_271, inX0, tyX0_ok, nmX0⟩
theorem fw_9_157 : sf_Fw RX9 157 0 0 .int := ⟨RX0, TX0, 3, tyX0, rfl, by decide, tm_271, inX0, tyX0_ok, nmX0, rfl, by decide +kernel⟩
theorem fl_9_158 : sf_F RX9 158 4 0 := ⟨RX4, TX4, 3, tyX4, rfl, by decide, tm_224, inX4, tyX4_ok, nmX4⟩
theorem fw_9_158 : sf_Fw RX9 158 4 0 .int := ⟨RX4, TX4, 3, tyX4, rfl, by decide, tm_224, inX4, tyX4_ok, nmX4, rfl, by decide +kernel⟩
theorem fl_9_166 : sf_F RX9 166 7 4 := ⟨RX7, TX7, 9, tyX7, rfl, by decide, tm_71, inX7, tyX7_ok, nmX7⟩
theorem fl_9_169 : sf_F RX9 169 3 2 := ⟨RX3, TX3, 7, tyX3, rfl, by decide, tm_128, inX3, tyX3_ok, nmX3⟩
theorem fl_9_172 : sf_F RX9 172 7 6 := ⟨RX7, TX7, 9, tyX7, rfl, by decide, tm_76, inX7, tyX7_ok, nmX7⟩
theorem fl_9_175 : sf_F RX9 175 3 3 := ⟨RX3, TX3, 7, tyX3, rfl, by decide, tm_130, inX3, tyX3_ok, nmX3⟩
theorem fl_9_178 : sf_F RX9 178 3 4 := ⟨RX3, TX3, 7, tyX3, rfl, by decide, tm_134, inX3, tyX3_ok, nmX3⟩
theorem fl_9_181 : sf_F RX9 181 3 5 := ⟨RX3, TX3, 7, tyX3, rfl, by decide, tm_136, inX3, tyX3_ok, nmX3⟩
theorem fl_6_117 : sf_F RX6 117 3 5 := ⟨RX3, TX3, 7, tyX3, rfl, by decide, tm_137, inX3, tyX3_ok, nmX3⟩
theorem fl_9_187 : sf_F RX9 187 7 7 := ⟨RX7, TX7, 9, tyX7, rfl, by decide, tm_80, inX7, tyX7_ok, nmX7⟩
theorem fl_9_190 : sf_F RX9 190 7 8 := ⟨RX7, TX7, 9, tyX7, rfl, by decide, tm_83, inX7, tyX7_ok, nmX7⟩
theorem fl_9_193 : sf_F RX9 193 3 6 := ⟨RX3, TX3, 7, tyX3, rfl, by decide, tm_141, inX3, tyX3_ok, nmX3⟩
theorem fl_9_262 : sf_F RX9 262 7 0 := ⟨RX7, TX7, 9, tyX7, rfl, by decide, tm_55, inX7, tyX7_ok, nmX7⟩
theorem fw_9_262 : sf_Fw RX9 262 7 0 .boolean := ⟨RX7, TX7, 9, tyX7, rfl, by decide, tm_55, inX7, tyX7_ok, nmX7, rfl, by decide +kernel⟩
theorem fl_4_11 : sf_F RX4 11 4 2 := ⟨RX4, TX4, 3, tyX4, rfl, by decide, tm_226, inX4, tyX4_ok, nmX4⟩
theorem fl_4_22 : sf_F RX4 22 4 1 := ⟨RX4, TX4, 3, tyX4, rfl, by decide, tm_225, inX4, tyX4_ok, nmX4⟩
theorem fw_4_22 : sf_Fw RX4 22 4 1 .int := ⟨RX4, TX4, 3, tyX4, rfl, by decide, tm_225, inX4, tyX4_ok, nmX4, rfl, by decide +kernel⟩
theorem fl_9_325 : sf_F RX9 325 9 13 := ⟨RX9, TX9, 14, tyX9, rfl, by decide, tm_296, inX9, tyX9_ok, nmX9⟩
theorem fw_9_325 : sf_Fw RX9 325 9 13 .int := ⟨RX9, TX9, 14, tyX9, rfl, by decide, tm_296, inX9, tyX9_ok, nmX9, rfl, by decide +kernel⟩
theorem fl_2_15 : sf_F RX2 15 2 3 := ⟨RX2, TX2, 6, tyX2, rfl, by decide, tm_183, inX2, tyX2_ok, nmX2⟩
theorem fl_2_64 : sf_F RX2 64 2 0 := ⟨RX2, TX2, 6, tyX2, rfl, by decide, tm_177, inX2, tyX2_ok, nmX2⟩
theorem fw_2_64 : sf_Fw RX2 64 2 0 .int := ⟨RX2, TX2, 6, tyX2, rfl, by decide, tm_177, inX2, tyX2_ok, nmX2, rfl, by decide +kernel⟩
theorem fl_2_67 : sf_F RX2 67 2 1 := ⟨RX2, TX2, 6, tyX2, rfl, by decide, tm_179, inX2, tyX2_ok, nmX2⟩
theorem fw_2_67 : sf_Fw RX2 67 2 1 .int := ⟨RX2, TX2, 6, tyX2, rfl, by decide, tm_179, inX2, tyX2_ok, nmX2, rfl, by decide +kernel⟩
theorem fl_2_52 : sf_F RX2 52 2 5 := ⟨RX2, TX2, 6, tyX2, rfl, by decide, tm_185, inX2, tyX2_ok, nmX2⟩
theorem fw_2_52 : sf_Fw RX2 52 2 5 .int := ⟨RX2, TX2, 6, tyX2, rfl, by decide, tm_185, inX2, tyX2_ok, nmX2, rfl, by decide +kernel⟩
theorem fl_2_43 : sf_F RX2 43 6 0 := ⟨RX6, TX6, 2, tyX6, rfl, by decide, tm_160, inX6, tyX6_ok, nmX6⟩
theorem fl_2_70 : sf_F RX2 70 7 7 := ⟨RX7, TX7, 9, tyX7, rfl, by decide, tm_79, inX7, tyX7_ok, nmX7⟩
theorem fl_2_47 : sf_F RX2 47 7 3 := ⟨RX7, TX7, 9, tyX7, rfl, by decide, tm_66, inX7, tyX7_ok, nmX7⟩
theorem fw_2_47 : sf_Fw RX2 47 7 3 .int := ⟨RX7, TX7, 9, tyX7, rfl, by decide, tm_66, inX7, tyX7_ok, nmX7, rfl, by decide +kernel⟩
theorem fl_2_18 : sf_F RX2 18 2 4 := ⟨RX2, TX2, 6, tyX2, rfl, by decide, tm_184, inX2, tyX2_ok, nmX2⟩
theorem fl_2_28 : sf_F RX2 28 6 1 := ⟨RX6, TX6, 2, tyX6, rfl, by decide, tm_165, inX6, tyX6_ok, nmX6⟩
theorem fl_2_39 : sf_F RX2 39 3 0 := ⟨RX3, TX3, 7, tyX3, rfl, by decide, tm_119, inX3, tyX3_ok, nmX3⟩
theorem fw_2_39 : sf_Fw RX2 39 3 0 .int := ⟨RX3, TX3, 7, tyX3, rfl, by decide, tm_119, inX3, tyX3_ok, nmX3, rfl, by decide +kernel⟩
theorem fl_2_79 : sf_F RX2 79 7 2 := ⟨RX7, TX7, 9, tyX7, rfl, by decide, tm_64, inX7, tyX7_ok, nmX7⟩
theorem fw_2_79 : sf_Fw RX2 79 7 2 .int := ⟨RX7, TX7, 9, tyX7, rfl, by decide, tm_64, inX7, tyX7_ok, nmX7, rfl, by decide +kernel⟩
theorem fl_2_34 : sf_F RX2 34 3 2 := ⟨RX3, TX3, 7, tyX3, rfl, by decide, tm_126, inX3, tyX3_ok, nmX3⟩
theorem fl_2_9 : sf_F RX2 9 2 2 := ⟨RX2, TX2, 6, tyX2, rfl, by decide, tm_181, inX2, tyX2_ok, nmX2⟩
theorem fl_9_42 : sf_F RX9 42 9 5 := ⟨RX9, TX9, 14, tyX9, rfl, by decide, tm_288, inX9, tyX9_ok, nmX9⟩
theorem fl_9_276 : sf_F RX9 276 2 2 := ⟨RX2, TX2, 6, tyX2, rfl, by decide, tm_182, inX2, tyX2_ok, nmX2⟩
theorem fl_9_273 : sf_F RX9 273 2 0 := ⟨RX2, TX2, 6, tyX2, rfl, by decide, tm_178, inX2, tyX2_ok, nmX2⟩
theorem fw_9_273 : sf_Fw RX9 273 2 0 .int := ⟨RX2, TX2, 6, tyX2, rfl, by decide, tm_178, inX2, tyX2_ok, nmX2, rfl, by decide +kernel⟩
theorem fl_9_283 : sf_F RX9 283 2 1 := ⟨RX2, TX2, 6, tyX2, rfl, by decide, tm_180, inX2, tyX2_ok, nmX2⟩
theorem fw_9_283 : sf_Fw RX9 283 2 1 .int := ⟨RX2, TX2, 6, tyX2, rfl, by decide, tm_180, inX2, tyX2_ok, nmX2, rfl, by decide +kernel⟩
theorem fl_8_10 : sf_F RX8 10 8 0 := ⟨RX8, TX8, 2, tyX8, rfl, by decide, tm_205, inX8, tyX8_ok, nmX8⟩
theorem fw_8_10 : sf_Fw RX8 10 8 0 .int := ⟨RX8, TX8, 2, tyX8, rfl, by decide, tm_205, inX8, tyX8_ok, nmX8, rfl, by decide +kernel⟩
theorem fl_8_16 : sf_F RX8 16 8 1 := ⟨RX8, TX8, 2, tyX8, rfl, by decide, tm_207, inX8, tyX8_ok, nmX8⟩
theorem fw_8_16 : sf_Fw RX8 16 8 1 .int := ⟨RX8, TX8, 2, tyX8, rfl, by decide, tm_207, inX8, tyX8_ok, nmX8, rfl, by decide +kernel⟩
theorem fl_8_39 : sf_F RX8 39 6 0 := ⟨RX6, TX6, 2, tyX6, rfl, by decide, tm_161, inX6, tyX6_ok, nmX6⟩
theorem fl_8_43 : sf_F RX8 43 7 2 := ⟨RX7, TX7, 9, tyX7, rfl, by decide, tm_61, inX7, tyX7_ok, nmX7⟩
theorem fw_8_43 : sf_Fw RX8 43 7 2 .int := ⟨RX7, TX7, 9, tyX7, rfl, by decide, tm_61, inX7, tyX7_ok, nmX7, rfl, by decide +kernel⟩
theorem fl_8_25 : sf_F RX8 25 6 1 := ⟨RX6, TX6, 2, tyX6, rfl, by decide, tm_164, inX6, tyX6_ok, nmX6⟩
theorem fl_8_52 : sf_F RX8 52 3 0 := ⟨RX3, TX3, 7, tyX3, rfl, by decide, tm_120, inX3, tyX3_ok, nmX3⟩
theorem fw_8_52 : sf_Fw RX8 52 3 0 .int := ⟨RX3, TX3, 7, tyX3, rfl, by decide, tm_120, inX3, tyX3_ok, nmX3, rfl, by decide +kernel⟩
theorem fl_8_29 : sf_F RX8 29 3 6 := ⟨RX3, TX3, 7, tyX3, rfl, by decide, tm_139, inX3, tyX3_ok, nmX3⟩
theorem fl_9_49 : sf_F RX9 49 9 6 := ⟨RX9, TX9, 14, tyX9, rfl, by decide, tm_289, inX9, tyX9_ok, nmX9⟩
theorem fl_9_292 : sf_F RX9 292 8 1 := ⟨RX8, TX8, 2, tyX8, rfl, by decide, tm_208, inX8, tyX8_ok, nmX8⟩
theorem fw_9_292 : sf_Fw RX9 292 8 1 .int := ⟨RX8, TX8, 2, tyX8, rfl, by decide, tm_208, inX8, tyX8_ok, nmX8, rfl, by decide +kernel⟩
theorem fl_9_289 : sf_F RX9 289 8 0 := ⟨RX8, TX8, 2, tyX8, rfl, by decide, tm_206, inX8, tyX8_ok, nmX8⟩
theorem fw_9_289 : sf_Fw RX9 289 8 0 .int := ⟨RX8, TX8, 2, tyX8, rfl, by decide, tm_206, inX8, tyX8_ok, nmX8, rfl, by decide +kernel⟩
theorem fl_1_15 : sf_F RX1 15 1 3 := ⟨RX1, TX1, 7, tyX1, rfl, by decide, tm_245, inX1, tyX1_ok, nmX1⟩
theorem fl_1_18 : sf_F RX1 18 1 4 := ⟨RX1, TX1, 7, tyX1, rfl, by decide, tm_246, inX1, tyX1_ok, nmX1⟩
theorem fl_1_21 : sf_F RX1 21 1 5 := ⟨RX1, TX1, 7, tyX1, rfl, by decide, tm_247, inX1, tyX1_ok, nmX1⟩
theorem fl_1_9 : sf_F RX1 9 1 2 := ⟨RX1, TX1, 7, tyX1, rfl, by decide, tm_244, inX1, tyX1_ok, nmX1⟩
theorem fl_1_31 : sf_F RX1 31 1 1 := ⟨RX1, TX1, 7, tyX1, rfl, by decide, tm_242, inX1, tyX1_ok, nmX1⟩
theorem fw_1_31 : sf_Fw RX1 31 1 1 .int := ⟨RX1, TX1, 7, tyX1, rfl, by decide, tm_242, inX1, tyX1_ok, nmX1, rfl, by decide +kernel⟩
theorem fl_9_307 : sf_F RX9 307 1 1 := ⟨RX1, TX1, 7, tyX1, rfl, by decide, tm_243, inX1, tyX1_ok, nmX1⟩
theorem fw_9_307 : sf_Fw RX9 307 1 1 .int := ⟨RX1, TX1, 7, tyX1, rfl, by decide, tm_243, inX1, tyX1_ok, nmX1, rfl, by decide +kernel⟩
theorem fl_1_24 : sf_F RX1 24 1 6 := ⟨RX1, TX1, 7, tyX1, rfl, by decide, tm_248, inX1, tyX1_ok, nmX1⟩
theorem fl_0_9 : sf_F RX0 9 0 1 := ⟨RX0, TX0, 3, tyX0, rfl, by decide, tm_272, inX0, tyX0_ok, nmX0⟩
theorem fl_0_15 : sf_F RX0 15 0 2 := ⟨RX0, TX0, 3, tyX0, rfl, by decide, tm_273, inX0, tyX0_ok, nmX0⟩
theorem fl_0_22 : sf_F RX0 22 3 6 := ⟨RX3, TX3, 7, tyX3, rfl, by decide, tm_140, inX3, tyX3_ok, nmX3⟩
theorem fl_9_76 : sf_F RX9 76 9 10 := ⟨RX9, TX9, 14, tyX9, rfl, by decide, tm_293, inX9, tyX9_ok, nmX9⟩
theorem fl_9_80 : sf_F RX9 80 9 11 := ⟨RX9, TX9, 14, tyX9, rfl, by decide, tm_294, inX9, tyX9_ok, nmX9⟩
theorem fl_10_88 : sf_F RX10 88 10 2 := ⟨RX10, TX10, 42, tyX10, rfl, by decide, tm_807, inX10, tyX10_ok, nmX10⟩
theorem fw_10_88 : sf_Fw RX10 88 10 2 .int := ⟨RX10, TX10, 42, tyX10, rfl, by decide, tm_807, inX10, tyX10_ok, nmX10, rfl, by decide +kernel⟩
theorem fl_10_95 : sf_F RX10 95 10 6 := ⟨RX10, TX10, 42, tyX10, rfl, by decide, tm_811, inX10, tyX10_ok, nmX10⟩
theorem fw_10_95 : sf_Fw RX10 95 10 6 .int := ⟨RX10, TX10, 42, tyX10, rfl, by decide, tm_811, inX10, tyX10_ok, nmX10, rfl, by decide +kernel⟩
theorem fl_10_101 : sf_F RX10 101 10 12 := ⟨RX10, TX10, 42, tyX10, rfl, by decide, tm_817, inX10, tyX10_ok, nmX10⟩
theorem fw_10_101 : sf_Fw RX10 101 10 12 .int := ⟨RX10, TX10, 42, tyX10, rfl, by decide, tm_817, inX10, tyX10_ok, nmX10, rfl, by decide +kernel⟩
theorem fl_10_28 : sf_F RX10 28 10 11 := ⟨RX10, TX10, 42, tyX10, rfl, by decide, tm_816, inX10, tyX10_ok, nmX10⟩
theorem fl_10_105 : sf_F RX10 105 10 14 := ⟨RX10, TX10, 42, tyX10, rfl, by decide, tm_819, inX10, tyX10_ok, nmX10⟩
theorem fw_10_105 : sf_Fw RX10 105 10 14 .int := ⟨RX10, TX10, 42, tyX10, rfl, by decide, tm_819, inX10, tyX10_ok, nmX10, rfl, by decide +kernel⟩
theorem fl_10_31 : sf_F RX10 31 10 13 := ⟨RX10, TX10, 42, tyX10, rfl, by decide, tm_818, inX10, tyX10_ok, nmX10⟩
theorem fw_10_31 : sf_Fw RX10 31 10 13 .int := ⟨RX10, TX10, 42, tyX10, rfl, by decide, tm_818, inX10, tyX10_ok, nmX10, rfl, by decide +kernel⟩
theorem fl_10_123 : sf_F RX10 123 10 15 := ⟨RX10, TX10, 42, tyX10, rfl, by decide, tm_820, inX10, tyX10_ok, nmX10⟩
theorem fw_10_123 : sf_Fw RX10 123 10 15 .int := ⟨RX10, TX10, 42, tyX10, rfl, by decide, tm_820, inX10, tyX10_ok, nmX10, rfl, by decide +kernel⟩
theorem fl_10_120 : sf_F RX10 120 10 16 := ⟨RX10, TX10, 42, tyX10, rfl, by decide, tm_821, inX10, tyX10_ok, nmX10⟩
theorem fw_10_120 : sf_Fw RX10 120 10 16 .int := ⟨RX10, TX10, 42, tyX10, rfl, by decide, tm_821, inX10, tyX10_ok, nmX10, rfl, by decide +kernel⟩
theorem fl_10_129 : sf_F RX10 129 10 17 := ⟨RX10, TX10, 42, tyX10, rfl, by decide, tm_822, inX10, tyX10_ok, nmX10⟩
theorem fw_10_129 : sf_Fw RX10 129 10 17 .boolean := ⟨RX10, TX10, 42, tyX10, rfl, by decide, tm_822, inX10, tyX10_ok, nmX10, rfl, by decide +kernel⟩
theorem fl_10_132 : sf_F RX10 132 10 18 := ⟨RX10, TX10, 42, tyX10, rfl, by decide, tm_823, inX10, tyX10_ok, nmX10⟩
theorem fw_10_132 : sf_Fw RX10 132 10 18 .int := ⟨RX10, TX10, 42, tyX10, rfl, by decide, tm_823, inX10, tyX10_ok, nmX10, rfl, by decide +kernel⟩
theorem fl_10_41 : sf_F RX10 41 10 22 := ⟨RX10, TX10, 42, tyX10, rfl, by decide, tm_827, inX10, tyX10_ok, nmX10⟩
theorem fl_10_135 : sf_F RX10 135 10 19 := ⟨RX10, TX10, 42, tyX10, rfl, by decide, tm_824, inX10, tyX10_ok, nmX10⟩
theorem fw_10_135 : sf_Fw RX10 135 10 19 .int := ⟨RX10, TX10, 42, tyX10, rfl, by decide, tm_824, inX10, tyX10_ok, nmX10, rfl, by decide +kernel⟩
theorem fl_10_35 : sf_F RX10 35 10 20 := ⟨RX10, TX10, 42, tyX10, rfl, by decide, tm_825, inX10, tyX10_ok, nmX10⟩
theorem fl_10_38 : sf_F RX10 38 10 21 := ⟨RX10, TX10, 42, tyX10, rfl, by decide, tm_826, inX10, tyX10_ok, nmX10⟩
theorem fl_10_142 : sf_F RX10 142 10 23 := ⟨RX10, TX10, 42, tyX10, rfl, by decide, tm_828, inX10, tyX10_ok, nmX10⟩
theorem fw_10_142 : sf_Fw RX10 142 10 23 .int := ⟨RX10, TX10, 42, tyX10, rfl, by decide, tm_828, inX10, tyX10_ok, nmX10, rfl, by decide +kernel⟩
theorem fl_10_44 : sf_F RX10 44 10 24 := ⟨RX10, TX10, 42, tyX10, rfl, by decide, tm_829, inX10, tyX10_ok, nmX10⟩
theorem fl_10_47 : sf_F RX10 47 10 25 := ⟨RX10, TX10, 42, tyX10, rfl, by decide, tm_830, inX10, tyX10_ok, nmX10⟩
theorem fl_10_13 : sf_F RX10 13 10 4 := ⟨RX10, TX10, 42, tyX10, rfl, by decide, tm_809, inX10, tyX10_ok, nmX10⟩
theorem fl_10_25 : sf_F RX10 25 10 9 := ⟨RX10, TX10, 42, tyX10, rfl, by decide, tm_814, inX10, tyX10_ok, nmX10⟩
theorem fl_10_154 : sf_F RX10 154 10 1 := ⟨RX10, TX10, 42, tyX10, rfl, by decide, tm_806, inX10, tyX10_ok, nmX10⟩
theorem fw_10_154 : sf_Fw RX10 154 10 1 .int := ⟨RX10, TX10, 42, tyX10, rfl, by decide, tm_806, inX10, tyX10_ok, nmX10, rfl, by decide +kernel⟩
theorem fl_10_7 : sf_F RX10 7 10 3 := ⟨RX10, TX10, 42, tyX10, rfl, by decide, tm_808, inX10, tyX10_ok, nmX10⟩
theorem fl_10_16 : sf_F RX10 16 10 5 := ⟨RX10, TX10, 42, tyX10, rfl, by decide, tm_810, inX10, tyX10_ok, nmX10⟩
theorem fl_10_19 : sf_F RX10 19 10 7 := ⟨RX10, TX10, 42, tyX10, rfl, by decide, tm_812, inX10, tyX10_ok, nmX10⟩
theorem fl_10_22 : sf_F RX10 22 10 8 := ⟨RX10, TX10, 42, tyX10, rfl, by decide, tm_813, inX10, tyX10_ok, nmX10⟩
theorem fl_10_84 : sf_F RX10 84 10 0 := ⟨RX10, TX10, 42, tyX10, rfl, by decide, tm_805, inX10, tyX10_ok, nmX10⟩
theorem fw_10_84 : sf_Fw RX10 84 10 0 .boolean := ⟨RX10, TX10, 42, tyX10, rfl, by decide, tm_805, inX10, tyX10_ok, nmX10, rfl, by decide +kernel⟩
theorem fl_10_171 : sf_F RX10 171 10 32 := ⟨RX10, TX10, 42, tyX10, rfl, by decide, tm_837, inX10, tyX10_ok, nmX10⟩
theorem fw_10_171 : sf_Fw RX10 171 10 32 .int := ⟨RX10, TX10, 42, tyX10, rfl, by decide, tm_837, inX10, tyX10_ok, nmX10, rfl, by decide +kernel⟩
theorem fl_10_174 : sf_F RX10 174 10 37 := ⟨RX10, TX10, 42, tyX10, rfl, by decide, tm_842, inX10, tyX10_ok, nmX10⟩
theorem fw_10_174 : sf_Fw RX10 174 10 37 .int := ⟨RX10, TX10, 42, tyX10, rfl, by decide, tm_842, inX10, tyX10_ok, nmX10, rfl, by decide +kernel⟩
theorem fl_10_177 : sf_F RX10 177 10 26 := ⟨RX10, TX10, 42, tyX10, rfl, by decide, tm_831, inX10, tyX10_ok, nmX10⟩
theorem fw_10_177 : sf_Fw RX10 177 10 26 .int := ⟨RX10, TX10, 42, tyX10, rfl, by decide, tm_831, inX10, tyX10_ok, nmX10, rfl, by decide +kernel⟩
theorem fl_10_80 : sf_F RX10 80 10 41 := ⟨RX10, TX10, 42, tyX10, rfl, by decide, tm_846, inX10, tyX10_ok, nmX10⟩
theorem fl_10_50 : sf_F RX10 50 10 27 := ⟨RX10, TX10, 42, tyX10, rfl, by decide, tm_832, inX10, tyX10_ok, nmX10⟩
theorem fl_10_272 : sf_F RX10 272 10 10 := ⟨RX10, TX10, 42, tyX10, rfl, by decide, tm_815, inX10, tyX10_ok, nmX10⟩
theorem fw_10_272 : sf_Fw RX10 272 10 10 .int := ⟨RX10, TX10, 42, tyX10, rfl, by decide, tm_815, inX10, tyX10_ok, nmX10, rfl, by decide +kernel⟩
theorem fl_10_53 : sf_F RX10 53 10 28 := ⟨RX10, TX10, 42, tyX10, rfl, by decide, tm_833, inX10, tyX10_ok, nmX10⟩
theorem fl_10_290 : sf_F RX10 290 10 29 := ⟨RX10, TX10, 42, tyX10, rfl, by decide, tm_834, inX10, tyX10_ok, nmX10⟩
theorem fw_10_290 : sf_Fw RX10 290 10 29 .int := ⟨RX10, TX10, 42, tyX10, rfl, by decide, tm_834, inX10, tyX10_ok, nmX10, rfl, by decide +kernel⟩
theorem fl_10_300 : sf_F RX10 300 10 30 := ⟨RX10, TX10, 42, tyX10, rfl, by decide, tm_835, inX10, tyX10_ok, nmX10⟩
theorem fw_10_300 : sf_Fw RX10 300 10 30 .int := ⟨RX10, TX10, 42, tyX10, rfl, by decide, tm_835, inX10, tyX10_ok, nmX10, rfl, by decide +kernel⟩
theorem fl_10_56 : sf_F RX10 56 10 31 := ⟨RX10, TX10, 42, tyX10, rfl, by decide, tm_836, inX10, tyX10_ok, nmX10⟩
theorem fl_10_59 : sf_F RX10 59 10 33 := ⟨RX10, TX10, 42, tyX10, rfl, by decide, tm_838, inX10, tyX10_ok, nmX10⟩
theorem fl_10_62 : sf_F RX10 62 10 34 := ⟨RX10, TX10, 42, tyX10, rfl, by decide, tm_839, inX10, tyX10_ok, nmX10⟩
theorem fl_10_65 : sf_F RX10 65 10 35 := ⟨RX10, TX10, 42, tyX10, rfl, by decide, tm_840, inX10, tyX10_ok, nmX10⟩
theorem fl_10_68 : sf_F RX10 68 10 36 := ⟨RX10, TX10, 42, tyX10, rfl, by decide, tm_841, inX10, tyX10_ok, nmX10⟩
theorem fl_10_71 : sf_F RX10 71 10 38 := ⟨RX10, TX10, 42, tyX10, rfl, by decide, tm_843, inX10, tyX10_ok, nmX10⟩
theorem fl_10_74 : sf_F RX10 74 10 39 := ⟨RX10, TX10, 42, tyX10, rfl, by decide, tm_844, inX10, tyX10_ok, nmX10⟩
theorem fl_10_77 : sf_F RX10 77 10 40 := ⟨RX10, TX10, 42, tyX10, rfl, by decide, tm_845, inX10, tyX10_ok, nmX10⟩
theorem yk_X9_within : sf_Y yX9_within cX9_within 3 (some .boolean) 3 := ⟨tm_333, tm_1, ⟨by decide, by decide, by decide +kernel⟩, by decide⟩
theorem yk_X5_add : sf_Y yX5_add cX5_add 2 (some .boolean) 1 := ⟨tm_338, tm_2, ⟨by decide, by decide, by decide +kernel⟩, by decide⟩
theorem yk_X5_letterHere : sf_Y yX5_letterHere cX5_letterHere 1 (some .int) 0 := ⟨tm_359, tm_2, ⟨by decide, by decide, by decide +kernel⟩, by decide⟩
theorem yk_X5_blame : sf_Y yX5_blame cX5_blame 3 none 2 := ⟨tm_370, tm_2, ⟨by decide, by decide, by decide +kernel⟩, by decide⟩
theorem yk_X5_isFigure : sf_Y yX5_isFigure cX5_isFigure 1 (some .boolean) 1 := ⟨tm_377, tm_2, ⟨by decide, by decide, by decide +kernel⟩, by decide⟩
theorem yk_X5_passBlanks : sf_Y yX5_passBlanks cX5_passBlanks 1 none 0 := ⟨tm_355, tm_2, ⟨by decide, by decide, by decide +kernel⟩, by decide⟩
theorem yk_X5_faultOfWord : sf_Y yX5_faultOfWord cX5_faultOfWord 3 (some .int) 2 := ⟨tm_366, tm_2, ⟨by decide, by decide, by decide +kernel⟩, by decide⟩
theorem yk_X5_readNumber : sf_Y yX5_readNumber cX5_readNumber 5 (some .int) 2 := ⟨tm_374, tm_2, ⟨by decide, by decide, by decide +kernel⟩, by decide⟩
theorem yk_X5_endClause : sf_Y yX5_endClause cX5_endClause 1 none 0 := ⟨tm_382, tm_2, ⟨by decide, by decide, by decide +kernel⟩, by decide⟩
theorem yk_X7_addBack : sf_Y yX7_addBack cX7_addBack 3 none 2 := ⟨tm_390, tm_3, ⟨by decide, by decide, by decide +kernel⟩, by decide⟩
theorem yk_X7_addBurden : sf_Y yX7_addBurden cX7_addBurden 4 none 3 := ⟨tm_386, tm_3, ⟨by decide, by decide, by decide +kernel⟩, by decide⟩
theorem yk_X5_readClause : sf_Y yX5_readClause cX5_readClause 7 none 1 := ⟨tm_363, tm_2, ⟨by decide, by decide, by decide +kernel⟩, by decide⟩
theorem yk_X7_clear : sf_Y yX7_clear cX7_clear 1 none 0 := ⟨tm_351, tm_3, ⟨by decide, by decide, by decide +kernel⟩, by decide⟩
theorem yk_X5_readInto : sf_Y yX5_readInto cX5_readInto 3 (some .int) 1 := ⟨tm_347, tm_2, ⟨by decide, by decide, by decide +kernel⟩, by decide⟩
theorem yk_X7_copyFrom : sf_Y yX7_copyFrom cX7_copyFrom 3 none 1 := ⟨tm_394, tm_3, ⟨by decide, by decide, by decide +kernel⟩, by decide⟩
theorem yk_X3_startOf : sf_Y yX3_startOf cX3_startOf 3 none 1 := ⟨tm_398, tm_5, ⟨by decide, by decide, by decide +kernel⟩, by decide⟩
theorem yk_X1_clear : sf_Y yX1_clear cX1_clear 1 none 0 := ⟨tm_402, tm_9, ⟨by decide, by decide, by decide +kernel⟩, by decide⟩
theorem yk_X0_clear : sf_Y yX0_clear cX0_clear 1 none 0 := ⟨tm_406, tm_10, ⟨by decide, by decide, by decide +kernel⟩, by decide⟩
theorem yk_X4_clear : sf_Y yX4_clear cX4_clear 1 none 0 := ⟨tm_410, tm_8, ⟨by decide, by decide, by decide +kernel⟩, by decide⟩
theorem yk_X3_isOn : sf_Y yX3_isOn cX3_isOn 3 (some .boolean) 2 := ⟨tm_434, tm_5, ⟨by decide, by decide, by decide +kernel⟩, by decide⟩
theorem yk_X3_isShared : sf_Y yX3_isShared cX3_isShared 2 (some .boolean) 1 := ⟨tm_449, tm_5, ⟨by decide, by decide, by decide +kernel⟩, by decide⟩
theorem yk_X9_isAugust : sf_Y yX9_isAugust cX9_isAugust 1 (some .boolean) 1 := ⟨tm_459, tm_1, ⟨by decide, by decide, by decide +kernel⟩, by decide⟩
theorem yk_X9_has : sf_Y yX9_has cX9_has 2 (some .boolean) 2 := ⟨tm_441, tm_1, ⟨by decide, by decide, by decide +kernel⟩, by decide⟩
theorem yk_X6_partOf : sf_Y yX6_partOf cX6_partOf 4 (some .int) 2 := ⟨tm_445, tm_4, ⟨by decide, by decide, by decide +kernel⟩, by decide⟩
theorem yk_X6_rubOf : sf_Y yX6_rubOf cX6_rubOf 6 (some .int) 4 := ⟨tm_453, tm_4, ⟨by decide, by decide, by decide +kernel⟩, by decide⟩
theorem yk_X6_carriedBy : sf_Y yX6_carriedBy cX6_carriedBy 4 (some .int) 1 := ⟨tm_430, tm_4, ⟨by decide, by decide, by decide +kernel⟩, by decide⟩
theorem yk_X6_gallingOf : sf_Y yX6_gallingOf cX6_gallingOf 7 (some .int) 3 := ⟨tm_438, tm_4, ⟨by decide, by decide, by decide +kernel⟩, by decide⟩
theorem yk_X3_isCarried : sf_Y yX3_isCarried cX3_isCarried 2 (some .boolean) 1 := ⟨tm_467, tm_5, ⟨by decide, by decide, by decide +kernel⟩, by decide⟩
theorem yk_X6_partsOn : sf_Y yX6_partsOn cX6_partsOn 5 (some .int) 1 := ⟨tm_479, tm_4, ⟨by decide, by decide, by decide +kernel⟩, by decide⟩
theorem yk_X6_flockForBurden : sf_Y yX6_flockForBurden cX6_flockForBurden 4 (some .int) 1 := ⟨tm_492, tm_4, ⟨by decide, by decide, by decide +kernel⟩, by decide⟩
theorem yk_X6_flockForBurdens : sf_Y yX6_flockForBurdens cX6_flockForBurdens 5 (some .int) 1 := ⟨tm_488, tm_4, ⟨by decide, by decide, by decide +kernel⟩, by decide⟩
theorem yk_X6_galled : sf_Y yX6_galled cX6_galled 3 (some .int) 0 := ⟨tm_422, tm_4, ⟨by decide, by decide, by decide +kernel⟩, by decide⟩
theorem yk_X6_gallingOfAll : sf_Y yX6_gallingOfAll cX6_gallingOfAll 4 (some .int) 1 := ⟨tm_426, tm_4, ⟨by decide, by decide, by decide +kernel⟩, by decide⟩
theorem yk_X6_carriedByNobody : sf_Y yX6_carriedByNobody cX6_carriedByNobody 3 (some .int) 0 := ⟨tm_463, tm_4, ⟨by decide, by decide, by decide +kernel⟩, by decide⟩
theorem yk_X6_sharedOnes : sf_Y yX6_sharedOnes cX6_sharedOnes 3 (some .int) 0 := ⟨tm_471, tm_4, ⟨by decide, by decide, by decide +kernel⟩, by decide⟩
theorem yk_X6_mostLaden : sf_Y yX6_mostLaden cX6_mostLaden 5 (some .int) 0 := ⟨tm_475, tm_4, ⟨by decide, by decide, by decide +kernel⟩, by decide⟩
theorem yk_X6_flockForAll : sf_Y yX6_flockForAll cX6_flockForAll 3 (some .int) 0 := ⟨tm_484, tm_4, ⟨by decide, by decide, by decide +kernel⟩, by decide⟩
theorem yk_X7_hasBurden : sf_Y yX7_hasBurden cX7_hasBurden 2 (some .boolean) 1 := ⟨tm_500, tm_3, ⟨by decide, by decide, by decide +kernel⟩, by decide⟩
theorem yk_X7_hasBack : sf_Y yX7_hasBack cX7_hasBack 2 (some .boolean) 1 := ⟨tm_509, tm_3, ⟨by decide, by decide, by decide +kernel⟩, by decide⟩
theorem yk_X6_gallingToday : sf_Y yX6_gallingToday cX6_gallingToday 2 (some .int) 1 := ⟨tm_513, tm_4, ⟨by decide, by decide, by decide +kernel⟩, by decide⟩
theorem yk_X6_flockForBack : sf_Y yX6_flockForBack cX6_flockForBack 2 (some .int) 1 := ⟨tm_519, tm_4, ⟨by decide, by decide, by decide +kernel⟩, by decide⟩
theorem yk_X6_ringOf : sf_Y yX6_ringOf cX6_ringOf 6 (some .int) 1 := ⟨tm_523, tm_4, ⟨by decide, by decide, by decide +kernel⟩, by decide⟩
theorem yk_X3_copyFrom : sf_Y yX3_copyFrom cX3_copyFrom 3 none 1 := ⟨tm_540, tm_5, ⟨by decide, by decide, by decide +kernel⟩, by decide⟩
theorem yk_X6_soreBehindDay : sf_Y yX6_soreBehindDay cX6_soreBehindDay 5 (some .int) 4 := ⟨tm_551, tm_4, ⟨by decide, by decide, by decide +kernel⟩, by decide⟩
theorem yk_X6_passDay : sf_Y yX6_passDay cX6_passDay 2 none 0 := ⟨tm_547, tm_4, ⟨by decide, by decide, by decide +kernel⟩, by decide⟩
theorem yk_X9_refusalOfDays : sf_Y yX9_refusalOfDays cX9_refusalOfDays 2 (some .int) 1 := ⟨tm_531, tm_1, ⟨by decide, by decide, by decide +kernel⟩, by decide⟩
theorem yk_X4_add : sf_Y yX4_add cX4_add 2 none 1 := ⟨tm_536, tm_8, ⟨by decide, by decide, by decide +kernel⟩, by decide⟩
theorem yk_X3_putOn : sf_Y yX3_putOn cX3_putOn 3 none 2 := ⟨tm_561, tm_5, ⟨by decide, by decide, by decide +kernel⟩, by decide⟩
theorem yk_X3_canJoin : sf_Y yX3_canJoin cX3_canJoin 3 (some .boolean) 2 := ⟨tm_569, tm_5, ⟨by decide, by decide, by decide +kernel⟩, by decide⟩
theorem yk_X3_join : sf_Y yX3_join cX3_join 3 none 2 := ⟨tm_575, tm_5, ⟨by decide, by decide, by decide +kernel⟩, by decide⟩
theorem yk_X3_putDown : sf_Y yX3_putDown cX3_putDown 3 none 2 := ⟨tm_584, tm_5, ⟨by decide, by decide, by decide +kernel⟩, by decide⟩
theorem yk_X7_hasTwoBacks : sf_Y yX7_hasTwoBacks cX7_hasTwoBacks 3 (some .boolean) 2 := ⟨tm_592, tm_3, ⟨by decide, by decide, by decide +kernel⟩, by decide⟩
theorem yk_X3_handOn : sf_Y yX3_handOn cX3_handOn 4 none 3 := ⟨tm_597, tm_5, ⟨by decide, by decide, by decide +kernel⟩, by decide⟩
theorem yk_X9_draw : sf_Y yX9_draw cX9_draw 2 (some .int) 1 := ⟨tm_617, tm_1, ⟨by decide, by decide, by decide +kernel⟩, by decide⟩
theorem yk_X9_doByDraws : sf_Y yX9_doByDraws cX9_doByDraws 4 none 0 := ⟨tm_613, tm_1, ⟨by decide, by decide, by decide +kernel⟩, by decide⟩
theorem yk_X4_takeBackInto : sf_Y yX4_takeBackInto cX4_takeBackInto 2 (some .boolean) 1 := ⟨tm_629, tm_8, ⟨by decide, by decide, by decide +kernel⟩, by decide⟩
theorem yk_X6_soreBehind : sf_Y yX6_soreBehind cX6_soreBehind 6 (some .int) 2 := ⟨tm_637, tm_4, ⟨by decide, by decide, by decide +kernel⟩, by decide⟩
theorem yk_X6_firstGalledBehind : sf_Y yX6_firstGalledBehind cX6_firstGalledBehind 5 (some .int) 1 := ⟨tm_645, tm_4, ⟨by decide, by decide, by decide +kernel⟩, by decide⟩
theorem yk_X6_worstBehind : sf_Y yX6_worstBehind cX6_worstBehind 6 (some .int) 1 := ⟨tm_653, tm_4, ⟨by decide, by decide, by decide +kernel⟩, by decide⟩
theorem yk_X2_putOn : sf_Y yX2_putOn cX2_putOn 6 (some .int) 3 := ⟨tm_678, tm_6, ⟨by decide, by decide, by decide +kernel⟩, by decide⟩
theorem yk_X2_lay : sf_Y yX2_lay cX2_lay 8 none 4 := ⟨tm_671, tm_6, ⟨by decide, by decide, by decide +kernel⟩, by decide⟩
theorem yk_X2_begin : sf_Y yX2_begin cX2_begin 2 none 0 := ⟨tm_666, tm_6, ⟨by decide, by decide, by decide +kernel⟩, by decide⟩
theorem yk_X2_layAlone : sf_Y yX2_layAlone cX2_layAlone 2 none 1 := ⟨tm_662, tm_6, ⟨by decide, by decide, by decide +kernel⟩, by decide⟩
theorem yk_X2_layByTwo : sf_Y yX2_layByTwo cX2_layByTwo 10 none 2 := ⟨tm_688, tm_6, ⟨by decide, by decide, by decide +kernel⟩, by decide⟩
theorem yk_X8_putDownNext : sf_Y yX8_putDownNext cX8_putDownNext 10 none 6 := ⟨tm_702, tm_7, ⟨by decide, by decide, by decide +kernel⟩, by decide⟩
theorem yk_X8_search : sf_Y yX8_search cX8_search 3 none 2 := ⟨tm_696, tm_7, ⟨by decide, by decide, by decide +kernel⟩, by decide⟩
theorem yk_X6_ableToTake : sf_Y yX6_ableToTake cX6_ableToTake 5 (some .int) 1 := ⟨tm_712, tm_4, ⟨by decide, by decide, by decide +kernel⟩, by decide⟩
theorem yk_X1_add : sf_Y yX1_add cX1_add 4 (some .boolean) 3 := ⟨tm_730, tm_9, ⟨by decide, by decide, by decide +kernel⟩, by decide⟩
theorem yk_X1_agrees : sf_Y yX1_agrees cX1_agrees 4 (some .boolean) 2 := ⟨tm_742, tm_9, ⟨by decide, by decide, by decide +kernel⟩, by decide⟩
theorem yk_X1_leastWeight : sf_Y yX1_leastWeight cX1_leastWeight 2 (some .int) 0 := ⟨tm_747, tm_9, ⟨by decide, by decide, by decide +kernel⟩, by decide⟩
theorem yk_X1_findPairs : sf_Y yX1_findPairs cX1_findPairs 4 none 0 := ⟨tm_738, tm_9, ⟨by decide, by decide, by decide +kernel⟩, by decide⟩
theorem yk_X1_leastEdge : sf_Y yX1_leastEdge cX1_leastEdge 3 (some .int) 0 := ⟨tm_751, tm_9, ⟨by decide, by decide, by decide +kernel⟩, by decide⟩
theorem yk_X1_greatestPart : sf_Y yX1_greatestPart cX1_greatestPart 7 (some .int) 2 := ⟨tm_765, tm_9, ⟨by decide, by decide, by decide +kernel⟩, by decide⟩
theorem yk_X1_bestStrength : sf_Y yX1_bestStrength cX1_bestStrength 5 (some .int) 0 := ⟨tm_761, tm_9, ⟨by decide, by decide, by decide +kernel⟩, by decide⟩
theorem yk_X0_add : sf_Y yX0_add cX0_add 3 (some .boolean) 2 := ⟨tm_773, tm_10, ⟨by decide, by decide, by decide +kernel⟩, by decide⟩
theorem yk_X0_firstWrong : sf_Y yX0_firstWrong cX0_firstWrong 3 (some .int) 1 := ⟨tm_785, tm_10, ⟨by decide, by decide, by decide +kernel⟩, by decide⟩
theorem yk_X10_in : sf_Y yX10_in cX10_in 6 (some .boolean) 3 := ⟨tm_939, tm_11, ⟨by decide, by decide, by decide +kernel⟩, by decide⟩
theorem yk_X10_fails : sf_Y yX10_fails cX10_fails 3 (some .int) 2 := ⟨tm_957, tm_11, ⟨by decide, by decide, by decide +kernel⟩, by decide⟩
theorem yk_X10_here : sf_Y yX10_here cX10_here 1 (some .int) 0 := ⟨tm_949, tm_11, ⟨by decide, by decide, by decide +kernel⟩, by decide⟩
theorem yk_X10_takeNumber : sf_Y yX10_takeNumber cX10_takeNumber 4 (some .int) 2 := ⟨tm_965, tm_11, ⟨by decide, by decide, by decide +kernel⟩, by decide⟩
theorem yk_X10_into : sf_Y yX10_into cX10_into 6 (some .int) 4 := ⟨tm_975, tm_11, ⟨by decide, by decide, by decide +kernel⟩, by decide⟩
theorem yk_X10_takeBack : sf_Y yX10_takeBack cX10_takeBack 3 (some .int) 0 := ⟨tm_979, tm_11, ⟨by decide, by decide, by decide +kernel⟩, by decide⟩
theorem yk_X10_takeBurden : sf_Y yX10_takeBurden cX10_takeBurden 3 (some .int) 0 := ⟨tm_971, tm_11, ⟨by decide, by decide, by decide +kernel⟩, by decide⟩
theorem yk_X10_takeShop : sf_Y yX10_takeShop cX10_takeShop 2 (some .int) 0 := ⟨tm_961, tm_11, ⟨by decide, by decide, by decide +kernel⟩, by decide⟩
theorem yk_X10_copyRow : sf_Y yX10_copyRow cX10_copyRow 4 none 3 := ⟨tm_986, tm_11, ⟨by decide, by decide, by decide +kernel⟩, by decide⟩
theorem yk_X10_takeRead : sf_Y yX10_takeRead cX10_takeRead 2 none 0 := ⟨tm_983, tm_11, ⟨by decide, by decide, by decide +kernel⟩, by decide⟩
theorem yk_X10_takeClause : sf_Y yX10_takeClause cX10_takeClause 5 (some .int) 0 := ⟨tm_953, tm_11, ⟨by decide, by decide, by decide +kernel⟩, by decide⟩
theorem yk_X10_bears : sf_Y yX10_bears cX10_bears 3 (some .boolean) 2 := ⟨tm_1020, tm_11, ⟨by decide, by decide, by decide +kernel⟩, by decide⟩
theorem yk_X10_isShared : sf_Y yX10_isShared cX10_isShared 2 (some .boolean) 1 := ⟨tm_1024, tm_11, ⟨by decide, by decide, by decide +kernel⟩, by decide⟩
theorem yk_X10_notBelow : sf_Y yX10_notBelow cX10_notBelow 1 (some .int) 1 := ⟨tm_1027, tm_11, ⟨by decide, by decide, by decide +kernel⟩, by decide⟩
theorem yk_X10_restOf : sf_Y yX10_restOf cX10_restOf 2 (some .int) 1 := ⟨tm_1035, tm_11, ⟨by decide, by decide, by decide +kernel⟩, by decide⟩
theorem yk_X10_isAugust : sf_Y yX10_isAugust cX10_isAugust 1 (some .boolean) 0 := ⟨tm_1039, tm_11, ⟨by decide, by decide, by decide +kernel⟩, by decide⟩
theorem yk_X10_partOf : sf_Y yX10_partOf cX10_partOf 3 (some .int) 2 := ⟨tm_1016, tm_11, ⟨by decide, by decide, by decide +kernel⟩, by decide⟩
theorem yk_X10_rubsOn : sf_Y yX10_rubsOn cX10_rubsOn 4 (some .int) 2 := ⟨tm_1031, tm_11, ⟨by decide, by decide, by decide +kernel⟩, by decide⟩
theorem yk_X10_partsOf : sf_Y yX10_partsOf cX10_partsOf 4 (some .int) 1 := ⟨tm_1012, tm_11, ⟨by decide, by decide, by decide +kernel⟩, by decide⟩
theorem yk_X10_gallingOf : sf_Y yX10_gallingOf cX10_gallingOf 4 (some .int) 1 := ⟨tm_1008, tm_11, ⟨by decide, by decide, by decide +kernel⟩, by decide⟩
theorem yk_X10_needOf : sf_Y yX10_needOf cX10_needOf 3 (some .int) 1 := ⟨tm_1060, tm_11, ⟨by decide, by decide, by decide +kernel⟩, by decide⟩
theorem yk_X10_galledOnes : sf_Y yX10_galledOnes cX10_galledOnes 3 (some .int) 0 := ⟨tm_1000, tm_11, ⟨by decide, by decide, by decide +kernel⟩, by decide⟩
theorem yk_X10_allGalling : sf_Y yX10_allGalling cX10_allGalling 3 (some .int) 0 := ⟨tm_1004, tm_11, ⟨by decide, by decide, by decide +kernel⟩, by decide⟩
theorem yk_X10_freeOnes : sf_Y yX10_freeOnes cX10_freeOnes 3 (some .int) 0 := ⟨tm_1043, tm_11, ⟨by decide, by decide, by decide +kernel⟩, by decide⟩
theorem yk_X10_sharedOnes : sf_Y yX10_sharedOnes cX10_sharedOnes 3 (some .int) 0 := ⟨tm_1047, tm_11, ⟨by decide, by decide, by decide +kernel⟩, by decide⟩
theorem yk_X10_most : sf_Y yX10_most cX10_most 3 (some .int) 0 := ⟨tm_1051, tm_11, ⟨by decide, by decide, by decide +kernel⟩, by decide⟩
theorem yk_X10_stuffForAll : sf_Y yX10_stuffForAll cX10_stuffForAll 3 (some .int) 0 := ⟨tm_1055, tm_11, ⟨by decide, by decide, by decide +kernel⟩, by decide⟩
theorem yk_X10_isBurden : sf_Y yX10_isBurden cX10_isBurden 2 (some .boolean) 1 := ⟨tm_1068, tm_11, ⟨by decide, by decide, by decide +kernel⟩, by decide⟩
theorem yk_X10_isBack : sf_Y yX10_isBack cX10_isBack 2 (some .boolean) 1 := ⟨tm_1077, tm_11, ⟨by decide, by decide, by decide +kernel⟩, by decide⟩
theorem yk_X10_carriedBy : sf_Y yX10_carriedBy cX10_carriedBy 4 (some .int) 1 := ⟨tm_1081, tm_11, ⟨by decide, by decide, by decide +kernel⟩, by decide⟩
theorem yk_X10_stuffFor : sf_Y yX10_stuffFor cX10_stuffFor 4 (some .int) 1 := ⟨tm_1085, tm_11, ⟨by decide, by decide, by decide +kernel⟩, by decide⟩
theorem yk_X10_ringOf : sf_Y yX10_ringOf cX10_ringOf 6 (some .int) 1 := ⟨tm_1089, tm_11, ⟨by decide, by decide, by decide +kernel⟩, by decide⟩
theorem yk_X10_pass : sf_Y yX10_pass cX10_pass 3 none 0 := ⟨tm_1107, tm_11, ⟨by decide, by decide, by decide +kernel⟩, by decide⟩
theorem yk_X10_daysRefused : sf_Y yX10_daysRefused cX10_daysRefused 2 (some .int) 1 := ⟨tm_1097, tm_11, ⟨by decide, by decide, by decide +kernel⟩, by decide⟩
theorem yk_X10_remember : sf_Y yX10_remember cX10_remember 2 none 0 := ⟨tm_1103, tm_11, ⟨by decide, by decide, by decide +kernel⟩, by decide⟩
theorem yk_X10_canShare : sf_Y yX10_canShare cX10_canShare 3 (some .boolean) 2 := ⟨tm_1119, tm_11, ⟨by decide, by decide, by decide +kernel⟩, by decide⟩
theorem yk_X10_downNow : sf_Y yX10_downNow cX10_downNow 3 none 2 := ⟨tm_1127, tm_11, ⟨by decide, by decide, by decide +kernel⟩, by decide⟩
theorem yk_X10_draw : sf_Y yX10_draw cX10_draw 2 (some .int) 1 := ⟨tm_1153, tm_11, ⟨by decide, by decide, by decide +kernel⟩, by decide⟩
theorem yk_X10_chance : sf_Y yX10_chance cX10_chance 4 none 0 := ⟨tm_1149, tm_11, ⟨by decide, by decide, by decide +kernel⟩, by decide⟩
theorem yk_X10_carryBy : sf_Y yX10_carryBy cX10_carryBy 4 none 1 := ⟨tm_1190, tm_11, ⟨by decide, by decide, by decide +kernel⟩, by decide⟩
theorem yk_X10_ways : sf_Y yX10_ways cX10_ways 3 (some .int) 0 := ⟨tm_1186, tm_11, ⟨by decide, by decide, by decide +kernel⟩, by decide⟩
theorem yk_X10_findFit : sf_Y yX10_findFit cX10_findFit 3 none 0 := ⟨tm_1182, tm_11, ⟨by decide, by decide, by decide +kernel⟩, by decide⟩
theorem yk_X10_soreBy : sf_Y yX10_soreBy cX10_soreBy 8 (some .int) 3 := ⟨tm_1202, tm_11, ⟨by decide, by decide, by decide +kernel⟩, by decide⟩
theorem yk_X10_gallsBy : sf_Y yX10_gallsBy cX10_gallsBy 3 (some .int) 3 := ⟨tm_1233, tm_11, ⟨by decide, by decide, by decide +kernel⟩, by decide⟩
theorem yk_X10_couldBe : sf_Y yX10_couldBe cX10_couldBe 4 (some .boolean) 1 := ⟨tm_1230, tm_11, ⟨by decide, by decide, by decide +kernel⟩, by decide⟩
theorem yk_X10_greatestPart : sf_Y yX10_greatestPart cX10_greatestPart 5 (some .int) 1 := ⟨tm_1242, tm_11, ⟨by decide, by decide, by decide +kernel⟩, by decide⟩
theorem yk_X10_carries : sf_Y yX10_carries cX10_carries 5 (some .int) 1 := ⟨tm_1225, tm_11, ⟨by decide, by decide, by decide +kernel⟩, by decide⟩
theorem cl_9_89 : Cond.methodLink RX9 89 yX9_within ∈ sf_tbl ∧ Cond.static yX9_within ∈ sf_tbl := ⟨tm_331, tm_332⟩
theorem cl_9_94 : Cond.methodLink RX9 94 yX5_add ∈ sf_tbl ∧ Cond.instanceMethod yX5_add ∈ sf_tbl ∧ Cond.selects yX5_add.cls yX5_add yX5_add ∈ sf_tbl := ⟨tm_335, tm_336, tm_337⟩
theorem cl_5_40 : Cond.methodLink RX5 40 yX5_letterHere ∈ sf_tbl ∧ Cond.instanceMethod yX5_letterHere ∈ sf_tbl ∧ Cond.selects yX5_letterHere.cls yX5_letterHere yX5_letterHere ∈ sf_tbl := ⟨tm_356, tm_358, ts_1⟩
theorem cl_5_48 : Cond.methodLink RX5 48 yX5_blame ∈ sf_tbl ∧ Cond.instanceMethod yX5_blame ∈ sf_tbl ∧ Cond.selects yX5_blame.cls yX5_blame yX5_blame ∈ sf_tbl := ⟨tm_367, tm_369, ts_3⟩
theorem cl_5_83 : Cond.methodLinkNest RX5 83 yX9_within "SaddleFit" ∈ lw_tbl ∧ Cond.static yX9_within ∈ sf_tbl := ⟨tm_378, tm_332⟩
theorem cl_5_79 : Cond.methodLink RX5 79 yX5_isFigure ∈ sf_tbl ∧ Cond.static yX5_isFigure ∈ sf_tbl := ⟨tm_375, tm_376⟩
theorem cl_5_33 : Cond.methodLink RX5 33 yX5_passBlanks ∈ sf_tbl ∧ Cond.instanceMethod yX5_passBlanks ∈ sf_tbl ∧ Cond.selects yX5_passBlanks.cls yX5_passBlanks yX5_passBlanks ∈ sf_tbl := ⟨tm_352, tm_354, ts_0⟩
theorem cl_5_44 : Cond.methodLink RX5 44 yX5_faultOfWord ∈ sf_tbl ∧ Cond.static yX5_faultOfWord ∈ sf_tbl := ⟨tm_364, tm_365⟩
theorem cl_5_52 : Cond.methodLink RX5 52 yX5_readNumber ∈ sf_tbl ∧ Cond.instanceMethod yX5_readNumber ∈ sf_tbl ∧ Cond.selects yX5_readNumber.cls yX5_readNumber yX5_readNumber ∈ sf_tbl := ⟨tm_371, tm_373, ts_4⟩
theorem cl_5_56 : Cond.methodLink RX5 56 yX5_endClause ∈ sf_tbl ∧ Cond.instanceMethod yX5_endClause ∈ sf_tbl ∧ Cond.selects yX5_endClause.cls yX5_endClause yX5_endClause ∈ sf_tbl := ⟨tm_379, tm_381, ts_5⟩
theorem cl_5_70 : Cond.methodLink RX5 70 yX7_addBack ∈ sf_tbl ∧ Cond.instanceMethod yX7_addBack ∈ sf_tbl ∧ Cond.selects yX7_addBack.cls yX7_addBack yX7_addBack ∈ sf_tbl := ⟨tm_387, tm_388, tm_389⟩
theorem cl_5_66 : Cond.methodLink RX5 66 yX7_addBurden ∈ sf_tbl ∧ Cond.instanceMethod yX7_addBurden ∈ sf_tbl ∧ Cond.selects yX7_addBurden.cls yX7_addBurden yX7_addBurden ∈ sf_tbl := ⟨tm_383, tm_384, tm_385⟩
theorem cl_5_36 : Cond.methodLink RX5 36 yX5_readClause ∈ sf_tbl ∧ Cond.instanceMethod yX5_readClause ∈ sf_tbl ∧ Cond.selects yX5_readClause.cls yX5_readClause yX5_readClause ∈ sf_tbl := ⟨tm_360, tm_362, ts_2⟩
theorem cl_5_22 : Cond.methodLink RX5 22 yX7_clear ∈ sf_tbl ∧ Cond.instanceMethod yX7_clear ∈ sf_tbl ∧ Cond.selects yX7_clear.cls yX7_clear yX7_clear ∈ sf_tbl := ⟨tm_348, tm_349, tm_350⟩
theorem cl_9_103 : Cond.methodLink RX9 103 yX5_readInto ∈ sf_tbl ∧ Cond.instanceMethod yX5_readInto ∈ sf_tbl ∧ Cond.selects yX5_readInto.cls yX5_readInto yX5_readInto ∈ sf_tbl := ⟨tm_344, tm_345, tm_346⟩
theorem cl_9_107 : Cond.methodLink RX9 107 yX7_copyFrom ∈ sf_tbl ∧ Cond.instanceMethod yX7_copyFrom ∈ sf_tbl ∧ Cond.selects yX7_copyFrom.cls yX7_copyFrom yX7_copyFrom ∈ sf_tbl := ⟨tm_391, tm_392, tm_393⟩
theorem cl_9_111 : Cond.methodLink RX9 111 yX3_startOf ∈ sf_tbl ∧ Cond.instanceMethod yX3_startOf ∈ sf_tbl ∧ Cond.selects yX3_startOf.cls yX3_startOf yX3_startOf ∈ sf_tbl := ⟨tm_395, tm_396, tm_397⟩
theorem cl_9_114 : Cond.methodLink RX9 114 yX1_clear ∈ sf_tbl ∧ Cond.instanceMethod yX1_clear ∈ sf_tbl ∧ Cond.selects yX1_clear.cls yX1_clear yX1_clear ∈ sf_tbl := ⟨tm_399, tm_400, tm_401⟩
theorem cl_9_117 : Cond.methodLink RX9 117 yX0_clear ∈ sf_tbl ∧ Cond.instanceMethod yX0_clear ∈ sf_tbl ∧ Cond.selects yX0_clear.cls yX0_clear yX0_clear ∈ sf_tbl := ⟨tm_403, tm_404, tm_405⟩
theorem cl_9_118 : Cond.methodLink RX9 118 yX4_clear ∈ sf_tbl ∧ Cond.instanceMethod yX4_clear ∈ sf_tbl ∧ Cond.selects yX4_clear.cls yX4_clear yX4_clear ∈ sf_tbl := ⟨tm_407, tm_408, tm_409⟩
theorem cl_6_29 : Cond.methodLink RX6 29 yX3_isOn ∈ sf_tbl ∧ Cond.instanceMethod yX3_isOn ∈ sf_tbl ∧ Cond.selects yX3_isOn.cls yX3_isOn yX3_isOn ∈ sf_tbl := ⟨tm_431, tm_432, tm_433⟩
theorem cl_6_37 : Cond.methodLink RX6 37 yX3_isShared ∈ sf_tbl ∧ Cond.instanceMethod yX3_isShared ∈ sf_tbl ∧ Cond.selects yX3_isShared.cls yX3_isShared yX3_isShared ∈ sf_tbl := ⟨tm_446, tm_447, tm_448⟩
theorem cl_6_81 : Cond.methodLinkNest RX6 81 yX9_isAugust "SaddleFit" ∈ lw_tbl ∧ Cond.static yX9_isAugust ∈ sf_tbl := ⟨tm_457, tm_458⟩
theorem cl_6_51 : Cond.methodLinkNest RX6 51 yX9_has "SaddleFit" ∈ lw_tbl ∧ Cond.static yX9_has ∈ sf_tbl := ⟨tm_439, tm_440⟩
theorem cl_6_54 : Cond.methodLink RX6 54 yX6_partOf ∈ sf_tbl ∧ Cond.instanceMethod yX6_partOf ∈ sf_tbl ∧ Cond.selects yX6_partOf.cls yX6_partOf yX6_partOf ∈ sf_tbl := ⟨tm_442, tm_443, tm_444⟩
theorem cl_6_84 : Cond.methodLink RX6 84 yX6_rubOf ∈ sf_tbl ∧ Cond.instanceMethod yX6_rubOf ∈ sf_tbl ∧ Cond.selects yX6_rubOf.cls yX6_rubOf yX6_rubOf ∈ sf_tbl := ⟨tm_450, tm_451, tm_452⟩
theorem cl_6_47 : Cond.methodLink RX6 47 yX6_carriedBy ∈ sf_tbl ∧ Cond.instanceMethod yX6_carriedBy ∈ sf_tbl ∧ Cond.selects yX6_carriedBy.cls yX6_carriedBy yX6_carriedBy ∈ sf_tbl := ⟨tm_427, tm_428, tm_429⟩
theorem cl_6_94 : Cond.methodLink RX6 94 yX6_gallingOf ∈ sf_tbl ∧ Cond.instanceMethod yX6_gallingOf ∈ sf_tbl ∧ Cond.selects yX6_gallingOf.cls yX6_gallingOf yX6_gallingOf ∈ sf_tbl := ⟨tm_435, tm_436, tm_437⟩
theorem cl_6_33 : Cond.methodLink RX6 33 yX3_isCarried ∈ sf_tbl ∧ Cond.instanceMethod yX3_isCarried ∈ sf_tbl ∧ Cond.selects yX3_isCarried.cls yX3_isCarried yX3_isCarried ∈ sf_tbl := ⟨tm_464, tm_465, tm_466⟩
theorem cl_6_61 : Cond.methodLink RX6 61 yX6_partsOn ∈ sf_tbl ∧ Cond.instanceMethod yX6_partsOn ∈ sf_tbl ∧ Cond.selects yX6_partsOn.cls yX6_partsOn yX6_partsOn ∈ sf_tbl := ⟨tm_476, tm_477, tm_478⟩
theorem cl_6_111 : Cond.methodLink RX6 111 yX6_flockForBurden ∈ sf_tbl ∧ Cond.instanceMethod yX6_flockForBurden ∈ sf_tbl ∧ Cond.selects yX6_flockForBurden.cls yX6_flockForBurden yX6_flockForBurden ∈ sf_tbl := ⟨tm_489, tm_491, ts_7⟩
theorem cl_6_114 : Cond.methodLink RX6 114 yX6_flockForBurdens ∈ sf_tbl ∧ Cond.instanceMethod yX6_flockForBurdens ∈ sf_tbl ∧ Cond.selects yX6_flockForBurdens.cls yX6_flockForBurdens yX6_flockForBurdens ∈ sf_tbl := ⟨tm_485, tm_487, ts_6⟩
theorem cl_9_134 : Cond.methodLink RX9 134 yX6_galled ∈ sf_tbl ∧ Cond.instanceMethod yX6_galled ∈ sf_tbl ∧ Cond.selects yX6_galled.cls yX6_galled yX6_galled ∈ sf_tbl := ⟨tm_419, tm_420, tm_421⟩
theorem cl_9_138 : Cond.methodLink RX9 138 yX6_gallingOfAll ∈ sf_tbl ∧ Cond.instanceMethod yX6_gallingOfAll ∈ sf_tbl ∧ Cond.selects yX6_gallingOfAll.cls yX6_gallingOfAll yX6_gallingOfAll ∈ sf_tbl := ⟨tm_423, tm_424, tm_425⟩
theorem cl_9_142 : Cond.methodLink RX9 142 yX6_carriedByNobody ∈ sf_tbl ∧ Cond.instanceMethod yX6_carriedByNobody ∈ sf_tbl ∧ Cond.selects yX6_carriedByNobody.cls yX6_carriedByNobody yX6_carriedByNobody ∈ sf_tbl := ⟨tm_460, tm_461, tm_462⟩
theorem cl_9_145 : Cond.methodLink RX9 145 yX6_sharedOnes ∈ sf_tbl ∧ Cond.instanceMethod yX6_sharedOnes ∈ sf_tbl ∧ Cond.selects yX6_sharedOnes.cls yX6_sharedOnes yX6_sharedOnes ∈ sf_tbl := ⟨tm_468, tm_469, tm_470⟩
theorem cl_9_148 : Cond.methodLink RX9 148 yX6_mostLaden ∈ sf_tbl ∧ Cond.instanceMethod yX6_mostLaden ∈ sf_tbl ∧ Cond.selects yX6_mostLaden.cls yX6_mostLaden yX6_mostLaden ∈ sf_tbl := ⟨tm_472, tm_473, tm_474⟩
theorem cl_9_151 : Cond.methodLink RX9 151 yX9_isAugust ∈ sf_tbl ∧ Cond.static yX9_isAugust ∈ sf_tbl := ⟨tm_480, tm_458⟩
theorem cl_9_159 : Cond.methodLink RX9 159 yX6_flockForAll ∈ sf_tbl ∧ Cond.instanceMethod yX6_flockForAll ∈ sf_tbl ∧ Cond.selects yX6_flockForAll.cls yX6_flockForAll yX6_flockForAll ∈ sf_tbl := ⟨tm_481, tm_482, tm_483⟩
theorem cl_9_162 : Cond.methodLink RX9 162 yX7_hasBurden ∈ sf_tbl ∧ Cond.instanceMethod yX7_hasBurden ∈ sf_tbl ∧ Cond.selects yX7_hasBurden.cls yX7_hasBurden yX7_hasBurden ∈ sf_tbl := ⟨tm_497, tm_498, tm_499⟩
theorem cl_9_184 : Cond.methodLink RX9 184 yX7_hasBack ∈ sf_tbl ∧ Cond.instanceMethod yX7_hasBack ∈ sf_tbl ∧ Cond.selects yX7_hasBack.cls yX7_hasBack yX7_hasBack ∈ sf_tbl := ⟨tm_506, tm_507, tm_508⟩
theorem cl_9_196 : Cond.methodLink RX9 196 yX6_gallingToday ∈ sf_tbl ∧ Cond.instanceMethod yX6_gallingToday ∈ sf_tbl ∧ Cond.selects yX6_gallingToday.cls yX6_gallingToday yX6_gallingToday ∈ sf_tbl := ⟨tm_510, tm_511, tm_512⟩
theorem cl_9_199 : Cond.methodLink RX9 199 yX6_carriedBy ∈ sf_tbl ∧ Cond.instanceMethod yX6_carriedBy ∈ sf_tbl ∧ Cond.selects yX6_carriedBy.cls yX6_carriedBy yX6_carriedBy ∈ sf_tbl := ⟨tm_514, tm_428, tm_429⟩
theorem cl_9_202 : Cond.methodLink RX9 202 yX6_partsOn ∈ sf_tbl ∧ Cond.instanceMethod yX6_partsOn ∈ sf_tbl ∧ Cond.selects yX6_partsOn.cls yX6_partsOn yX6_partsOn ∈ sf_tbl := ⟨tm_515, tm_477, tm_478⟩
theorem cl_9_205 : Cond.methodLink RX9 205 yX6_flockForBack ∈ sf_tbl ∧ Cond.instanceMethod yX6_flockForBack ∈ sf_tbl ∧ Cond.selects yX6_flockForBack.cls yX6_flockForBack yX6_flockForBack ∈ sf_tbl := ⟨tm_516, tm_517, tm_518⟩
theorem cl_9_208 : Cond.methodLink RX9 208 yX6_ringOf ∈ sf_tbl ∧ Cond.instanceMethod yX6_ringOf ∈ sf_tbl ∧ Cond.selects yX6_ringOf.cls yX6_ringOf yX6_ringOf ∈ sf_tbl := ⟨tm_520, tm_521, tm_522⟩
theorem cl_4_25 : Cond.methodLink RX4 25 yX3_copyFrom ∈ sf_tbl ∧ Cond.instanceMethod yX3_copyFrom ∈ sf_tbl ∧ Cond.selects yX3_copyFrom.cls yX3_copyFrom yX3_copyFrom ∈ sf_tbl := ⟨tm_537, tm_538, tm_539⟩
theorem cl_6_104 : Cond.methodLink RX6 104 yX6_soreBehindDay ∈ sf_tbl ∧ Cond.instanceMethod yX6_soreBehindDay ∈ sf_tbl ∧ Cond.selects yX6_soreBehindDay.cls yX6_soreBehindDay yX6_soreBehindDay ∈ sf_tbl := ⟨tm_548, tm_549, tm_550⟩
theorem cl_9_217 : Cond.methodLink RX9 217 yX6_passDay ∈ sf_tbl ∧ Cond.instanceMethod yX6_passDay ∈ sf_tbl ∧ Cond.selects yX6_passDay.cls yX6_passDay yX6_passDay ∈ sf_tbl := ⟨tm_544, tm_545, tm_546⟩
theorem cl_9_211 : Cond.methodLink RX9 211 yX9_refusalOfDays ∈ sf_tbl ∧ Cond.instanceMethod yX9_refusalOfDays ∈ sf_tbl ∧ Cond.selects yX9_refusalOfDays.cls yX9_refusalOfDays yX9_refusalOfDays ∈ sf_tbl := ⟨tm_528, tm_530, ts_8⟩
theorem cl_9_214 : Cond.methodLink RX9 214 yX4_add ∈ sf_tbl ∧ Cond.instanceMethod yX4_add ∈ sf_tbl ∧ Cond.selects yX4_add.cls yX4_add yX4_add ∈ sf_tbl := ⟨tm_533, tm_534, tm_535⟩
theorem cl_9_220 : Cond.methodLink RX9 220 yX3_isCarried ∈ sf_tbl ∧ Cond.instanceMethod yX3_isCarried ∈ sf_tbl ∧ Cond.selects yX3_isCarried.cls yX3_isCarried yX3_isCarried ∈ sf_tbl := ⟨tm_557, tm_465, tm_466⟩
theorem cl_9_224 : Cond.methodLink RX9 224 yX3_putOn ∈ sf_tbl ∧ Cond.instanceMethod yX3_putOn ∈ sf_tbl ∧ Cond.selects yX3_putOn.cls yX3_putOn yX3_putOn ∈ sf_tbl := ⟨tm_558, tm_559, tm_560⟩
theorem cl_3_42 : Cond.methodLink RX3 42 yX3_isCarried ∈ sf_tbl ∧ Cond.instanceMethod yX3_isCarried ∈ sf_tbl ∧ Cond.selects yX3_isCarried.cls yX3_isCarried yX3_isCarried ∈ sf_tbl := ⟨tm_570, tm_465, tm_466⟩
theorem cl_3_46 : Cond.methodLink RX3 46 yX3_isShared ∈ sf_tbl ∧ Cond.instanceMethod yX3_isShared ∈ sf_tbl ∧ Cond.selects yX3_isShared.cls yX3_isShared yX3_isShared ∈ sf_tbl := ⟨tm_571, tm_447, tm_448⟩
theorem cl_9_228 : Cond.methodLink RX9 228 yX3_canJoin ∈ sf_tbl ∧ Cond.instanceMethod yX3_canJoin ∈ sf_tbl ∧ Cond.selects yX3_canJoin.cls yX3_canJoin yX3_canJoin ∈ sf_tbl := ⟨tm_566, tm_567, tm_568⟩
theorem cl_9_232 : Cond.methodLink RX9 232 yX3_join ∈ sf_tbl ∧ Cond.instanceMethod yX3_join ∈ sf_tbl ∧ Cond.selects yX3_join.cls yX3_join yX3_join ∈ sf_tbl := ⟨tm_572, tm_573, tm_574⟩
theorem cl_9_235 : Cond.methodLink RX9 235 yX3_isOn ∈ sf_tbl ∧ Cond.instanceMethod yX3_isOn ∈ sf_tbl ∧ Cond.selects yX3_isOn.cls yX3_isOn yX3_isOn ∈ sf_tbl := ⟨tm_580, tm_432, tm_433⟩
theorem cl_9_238 : Cond.methodLink RX9 238 yX3_putDown ∈ sf_tbl ∧ Cond.instanceMethod yX3_putDown ∈ sf_tbl ∧ Cond.selects yX3_putDown.cls yX3_putDown yX3_putDown ∈ sf_tbl := ⟨tm_581, tm_582, tm_583⟩
theorem cl_7_34 : Cond.methodLink RX7 34 yX7_hasBack ∈ sf_tbl ∧ Cond.instanceMethod yX7_hasBack ∈ sf_tbl ∧ Cond.selects yX7_hasBack.cls yX7_hasBack yX7_hasBack ∈ sf_tbl := ⟨tm_593, tm_507, tm_508⟩
theorem cl_9_241 : Cond.methodLink RX9 241 yX7_hasTwoBacks ∈ sf_tbl ∧ Cond.instanceMethod yX7_hasTwoBacks ∈ sf_tbl ∧ Cond.selects yX7_hasTwoBacks.cls yX7_hasTwoBacks yX7_hasTwoBacks ∈ sf_tbl := ⟨tm_589, tm_590, tm_591⟩
theorem cl_9_244 : Cond.methodLink RX9 244 yX3_handOn ∈ sf_tbl ∧ Cond.instanceMethod yX3_handOn ∈ sf_tbl ∧ Cond.selects yX3_handOn.cls yX3_handOn yX3_handOn ∈ sf_tbl := ⟨tm_594, tm_595, tm_596⟩
theorem cl_9_337 : Cond.methodLink RX9 337 yX9_draw ∈ sf_tbl ∧ Cond.instanceMethod yX9_draw ∈ sf_tbl ∧ Cond.selects yX9_draw.cls yX9_draw yX9_draw ∈ sf_tbl := ⟨tm_614, tm_616, ts_10⟩
theorem cl_9_248 : Cond.methodLink RX9 248 yX9_doByDraws ∈ sf_tbl ∧ Cond.instanceMethod yX9_doByDraws ∈ sf_tbl ∧ Cond.selects yX9_doByDraws.cls yX9_doByDraws yX9_doByDraws ∈ sf_tbl := ⟨tm_610, tm_612, ts_9⟩
theorem cl_9_251 : Cond.methodLink RX9 251 yX4_takeBackInto ∈ sf_tbl ∧ Cond.instanceMethod yX4_takeBackInto ∈ sf_tbl ∧ Cond.selects yX4_takeBackInto.cls yX4_takeBackInto yX4_takeBackInto ∈ sf_tbl := ⟨tm_626, tm_627, tm_628⟩
theorem cl_9_255 : Cond.methodLink RX9 255 yX6_soreBehind ∈ sf_tbl ∧ Cond.instanceMethod yX6_soreBehind ∈ sf_tbl ∧ Cond.selects yX6_soreBehind.cls yX6_soreBehind yX6_soreBehind ∈ sf_tbl := ⟨tm_634, tm_635, tm_636⟩
theorem cl_9_259 : Cond.methodLink RX9 259 yX6_firstGalledBehind ∈ sf_tbl ∧ Cond.instanceMethod yX6_firstGalledBehind ∈ sf_tbl ∧ Cond.selects yX6_firstGalledBehind.cls yX6_firstGalledBehind yX6_firstGalledBehind ∈ sf_tbl := ⟨tm_642, tm_643, tm_644⟩
theorem cl_6_108 : Cond.methodLink RX6 108 yX6_gallingOfAll ∈ sf_tbl ∧ Cond.instanceMethod yX6_gallingOfAll ∈ sf_tbl ∧ Cond.selects yX6_gallingOfAll.cls yX6_gallingOfAll yX6_gallingOfAll ∈ sf_tbl := ⟨tm_654, tm_424, tm_425⟩
theorem cl_9_266 : Cond.methodLink RX9 266 yX6_worstBehind ∈ sf_tbl ∧ Cond.instanceMethod yX6_worstBehind ∈ sf_tbl ∧ Cond.selects yX6_worstBehind.cls yX6_worstBehind yX6_worstBehind ∈ sf_tbl := ⟨tm_650, tm_651, tm_652⟩
theorem cl_2_55 : Cond.methodLink RX2 55 yX2_putOn ∈ sf_tbl ∧ Cond.instanceMethod yX2_putOn ∈ sf_tbl ∧ Cond.selects yX2_putOn.cls yX2_putOn yX2_putOn ∈ sf_tbl := ⟨tm_675, tm_677, ts_13⟩
theorem cl_2_59 : Cond.methodLink RX2 59 yX6_rubOf ∈ sf_tbl ∧ Cond.instanceMethod yX6_rubOf ∈ sf_tbl ∧ Cond.selects yX6_rubOf.cls yX6_rubOf yX6_rubOf ∈ sf_tbl := ⟨tm_680, tm_451, tm_452⟩
theorem cl_2_24 : Cond.methodLink RX2 24 yX2_lay ∈ sf_tbl ∧ Cond.instanceMethod yX2_lay ∈ sf_tbl ∧ Cond.selects yX2_lay.cls yX2_lay yX2_lay ∈ sf_tbl := ⟨tm_668, tm_670, ts_12⟩
theorem cl_2_21 : Cond.methodLink RX2 21 yX2_begin ∈ sf_tbl ∧ Cond.instanceMethod yX2_begin ∈ sf_tbl ∧ Cond.selects yX2_begin.cls yX2_begin yX2_begin ∈ sf_tbl := ⟨tm_663, tm_665, ts_11⟩
theorem cl_9_269 : Cond.methodLink RX9 269 yX2_layAlone ∈ sf_tbl ∧ Cond.instanceMethod yX2_layAlone ∈ sf_tbl ∧ Cond.selects yX2_layAlone.cls yX2_layAlone yX2_layAlone ∈ sf_tbl := ⟨tm_659, tm_660, tm_661⟩
theorem cl_9_279 : Cond.methodLink RX9 279 yX2_layByTwo ∈ sf_tbl ∧ Cond.instanceMethod yX2_layByTwo ∈ sf_tbl ∧ Cond.selects yX2_layByTwo.cls yX2_layByTwo yX2_layByTwo ∈ sf_tbl := ⟨tm_685, tm_686, tm_687⟩
theorem cl_8_48 : Cond.methodLinkNest RX8 48 yX9_has "SaddleFit" ∈ lw_tbl ∧ Cond.static yX9_has ∈ sf_tbl := ⟨tm_703, tm_440⟩
theorem cl_8_55 : Cond.methodLink RX8 55 yX6_soreBehindDay ∈ sf_tbl ∧ Cond.instanceMethod yX6_soreBehindDay ∈ sf_tbl ∧ Cond.selects yX6_soreBehindDay.cls yX6_soreBehindDay yX6_soreBehindDay ∈ sf_tbl := ⟨tm_704, tm_549, tm_550⟩
theorem cl_8_35 : Cond.methodLink RX8 35 yX8_putDownNext ∈ sf_tbl ∧ Cond.instanceMethod yX8_putDownNext ∈ sf_tbl ∧ Cond.selects yX8_putDownNext.cls yX8_putDownNext yX8_putDownNext ∈ sf_tbl := ⟨tm_699, tm_701, ts_14⟩
theorem cl_8_19 : Cond.methodLink RX8 19 yX6_carriedBy ∈ sf_tbl ∧ Cond.instanceMethod yX6_carriedBy ∈ sf_tbl ∧ Cond.selects yX6_carriedBy.cls yX6_carriedBy yX6_carriedBy ∈ sf_tbl := ⟨tm_698, tm_428, tm_429⟩
theorem cl_9_286 : Cond.methodLink RX9 286 yX8_search ∈ sf_tbl ∧ Cond.instanceMethod yX8_search ∈ sf_tbl ∧ Cond.selects yX8_search.cls yX8_search yX8_search ∈ sf_tbl := ⟨tm_693, tm_694, tm_695⟩
theorem cl_9_295 : Cond.methodLink RX9 295 yX6_ableToTake ∈ sf_tbl ∧ Cond.instanceMethod yX6_ableToTake ∈ sf_tbl ∧ Cond.selects yX6_ableToTake.cls yX6_ableToTake yX6_ableToTake ∈ sf_tbl := ⟨tm_709, tm_710, tm_711⟩
theorem cl_9_302 : Cond.methodLink RX9 302 yX1_add ∈ sf_tbl ∧ Cond.instanceMethod yX1_add ∈ sf_tbl ∧ Cond.selects yX1_add.cls yX1_add yX1_add ∈ sf_tbl := ⟨tm_727, tm_728, tm_729⟩
theorem cl_1_34 : Cond.methodLink RX1 34 yX1_agrees ∈ sf_tbl ∧ Cond.instanceMethod yX1_agrees ∈ sf_tbl ∧ Cond.selects yX1_agrees.cls yX1_agrees yX1_agrees ∈ sf_tbl := ⟨tm_739, tm_741, ts_15⟩
theorem cl_1_48 : Cond.methodLinkNest RX1 48 yX9_has "SaddleFit" ∈ lw_tbl ∧ Cond.static yX9_has ∈ sf_tbl := ⟨tm_753, tm_440⟩
theorem cl_1_44 : Cond.methodLink RX1 44 yX1_leastWeight ∈ sf_tbl ∧ Cond.instanceMethod yX1_leastWeight ∈ sf_tbl ∧ Cond.selects yX1_leastWeight.cls yX1_leastWeight yX1_leastWeight ∈ sf_tbl := ⟨tm_752, tm_745, tm_746⟩
theorem cl_9_304 : Cond.methodLink RX9 304 yX1_findPairs ∈ sf_tbl ∧ Cond.instanceMethod yX1_findPairs ∈ sf_tbl ∧ Cond.selects yX1_findPairs.cls yX1_findPairs yX1_findPairs ∈ sf_tbl := ⟨tm_735, tm_736, tm_737⟩
theorem cl_9_313 : Cond.methodLink RX9 313 yX1_leastEdge ∈ sf_tbl ∧ Cond.instanceMethod yX1_leastEdge ∈ sf_tbl ∧ Cond.selects yX1_leastEdge.cls yX1_leastEdge yX1_leastEdge ∈ sf_tbl := ⟨tm_748, tm_749, tm_750⟩
theorem cl_9_310 : Cond.methodLink RX9 310 yX1_leastWeight ∈ sf_tbl ∧ Cond.instanceMethod yX1_leastWeight ∈ sf_tbl ∧ Cond.selects yX1_leastWeight.cls yX1_leastWeight yX1_leastWeight ∈ sf_tbl := ⟨tm_744, tm_745, tm_746⟩
theorem cl_1_51 : Cond.methodLink RX1 51 yX1_greatestPart ∈ sf_tbl ∧ Cond.instanceMethod yX1_greatestPart ∈ sf_tbl ∧ Cond.selects yX1_greatestPart.cls yX1_greatestPart yX1_greatestPart ∈ sf_tbl := ⟨tm_762, tm_764, ts_16⟩
theorem cl_9_316 : Cond.methodLink RX9 316 yX1_bestStrength ∈ sf_tbl ∧ Cond.instanceMethod yX1_bestStrength ∈ sf_tbl ∧ Cond.selects yX1_bestStrength.cls yX1_bestStrength yX1_bestStrength ∈ sf_tbl := ⟨tm_758, tm_759, tm_760⟩
theorem cl_9_319 : Cond.methodLink RX9 319 yX0_add ∈ sf_tbl ∧ Cond.instanceMethod yX0_add ∈ sf_tbl ∧ Cond.selects yX0_add.cls yX0_add yX0_add ∈ sf_tbl := ⟨tm_770, tm_771, tm_772⟩
theorem cl_9_321 : Cond.methodLink RX9 321 yX0_firstWrong ∈ sf_tbl ∧ Cond.instanceMethod yX0_firstWrong ∈ sf_tbl ∧ Cond.selects yX0_firstWrong.cls yX0_firstWrong yX0_firstWrong ∈ sf_tbl := ⟨tm_782, tm_783, tm_784⟩
theorem cl_9_328 : Cond.methodLink RX9 328 yX3_copyFrom ∈ sf_tbl ∧ Cond.instanceMethod yX3_copyFrom ∈ sf_tbl ∧ Cond.selects yX3_copyFrom.cls yX3_copyFrom yX3_copyFrom ∈ sf_tbl := ⟨tm_794, tm_538, tm_539⟩
theorem cl_10_91 : Cond.methodLink RX10 91 yX10_in ∈ sf_tbl ∧ Cond.static yX10_in ∈ sf_tbl := ⟨tm_937, tm_938⟩
theorem cl_10_116 : Cond.methodLink RX10 116 yX10_fails ∈ sf_tbl ∧ Cond.instanceMethod yX10_fails ∈ sf_tbl ∧ Cond.selects yX10_fails.cls yX10_fails yX10_fails ∈ sf_tbl := ⟨tm_954, tm_956, ts_19⟩
theorem cl_10_108 : Cond.methodLink RX10 108 yX10_here ∈ sf_tbl ∧ Cond.instanceMethod yX10_here ∈ sf_tbl ∧ Cond.selects yX10_here.cls yX10_here yX10_here ∈ sf_tbl := ⟨tm_946, tm_948, ts_17⟩
theorem cl_10_126 : Cond.methodLink RX10 126 yX10_takeNumber ∈ sf_tbl ∧ Cond.instanceMethod yX10_takeNumber ∈ sf_tbl ∧ Cond.selects yX10_takeNumber.cls yX10_takeNumber yX10_takeNumber ∈ sf_tbl := ⟨tm_962, tm_964, ts_21⟩
theorem cl_10_138 : Cond.methodLink RX10 138 yX10_into ∈ sf_tbl ∧ Cond.instanceMethod yX10_into ∈ sf_tbl ∧ Cond.selects yX10_into.cls yX10_into yX10_into ∈ sf_tbl := ⟨tm_972, tm_974, ts_23⟩
theorem cl_10_151 : Cond.methodLink RX10 151 yX10_takeBack ∈ sf_tbl ∧ Cond.instanceMethod yX10_takeBack ∈ sf_tbl ∧ Cond.selects yX10_takeBack.cls yX10_takeBack yX10_takeBack ∈ sf_tbl := ⟨tm_976, tm_978, ts_24⟩
theorem cl_10_148 : Cond.methodLink RX10 148 yX10_takeBurden ∈ sf_tbl ∧ Cond.instanceMethod yX10_takeBurden ∈ sf_tbl ∧ Cond.selects yX10_takeBurden.cls yX10_takeBurden yX10_takeBurden ∈ sf_tbl := ⟨tm_968, tm_970, ts_22⟩
theorem cl_10_145 : Cond.methodLink RX10 145 yX10_takeShop ∈ sf_tbl ∧ Cond.instanceMethod yX10_takeShop ∈ sf_tbl ∧ Cond.selects yX10_takeShop.cls yX10_takeShop yX10_takeShop ∈ sf_tbl := ⟨tm_958, tm_960, ts_20⟩
theorem cl_10_157 : Cond.methodLink RX10 157 yX10_copyRow ∈ sf_tbl ∧ Cond.static yX10_copyRow ∈ sf_tbl := ⟨tm_984, tm_985⟩
theorem cl_10_168 : Cond.methodLink RX10 168 yX10_takeRead ∈ sf_tbl ∧ Cond.instanceMethod yX10_takeRead ∈ sf_tbl ∧ Cond.selects yX10_takeRead.cls yX10_takeRead yX10_takeRead ∈ sf_tbl := ⟨tm_980, tm_982, ts_25⟩
theorem cl_10_165 : Cond.methodLink RX10 165 yX10_takeClause ∈ sf_tbl ∧ Cond.instanceMethod yX10_takeClause ∈ sf_tbl ∧ Cond.selects yX10_takeClause.cls yX10_takeClause yX10_takeClause ∈ sf_tbl := ⟨tm_950, tm_952, ts_18⟩
theorem cl_10_180 : Cond.methodLink RX10 180 yX10_bears ∈ sf_tbl ∧ Cond.instanceMethod yX10_bears ∈ sf_tbl ∧ Cond.selects yX10_bears.cls yX10_bears yX10_bears ∈ sf_tbl := ⟨tm_1017, tm_1019, ts_31⟩
theorem cl_10_184 : Cond.methodLink RX10 184 yX10_isShared ∈ sf_tbl ∧ Cond.instanceMethod yX10_isShared ∈ sf_tbl ∧ Cond.selects yX10_isShared.cls yX10_isShared yX10_isShared ∈ sf_tbl := ⟨tm_1021, tm_1023, ts_32⟩
theorem cl_10_188 : Cond.methodLink RX10 188 yX10_notBelow ∈ sf_tbl ∧ Cond.static yX10_notBelow ∈ sf_tbl := ⟨tm_1025, tm_1026⟩
theorem cl_10_192 : Cond.methodLink RX10 192 yX10_restOf ∈ sf_tbl ∧ Cond.instanceMethod yX10_restOf ∈ sf_tbl ∧ Cond.selects yX10_restOf.cls yX10_restOf yX10_restOf ∈ sf_tbl := ⟨tm_1032, tm_1034, ts_34⟩
theorem cl_10_195 : Cond.methodLink RX10 195 yX10_isAugust ∈ sf_tbl ∧ Cond.instanceMethod yX10_isAugust ∈ sf_tbl ∧ Cond.selects yX10_isAugust.cls yX10_isAugust yX10_isAugust ∈ sf_tbl := ⟨tm_1036, tm_1038, ts_35⟩
theorem cl_10_199 : Cond.methodLink RX10 199 yX10_partOf ∈ sf_tbl ∧ Cond.instanceMethod yX10_partOf ∈ sf_tbl ∧ Cond.selects yX10_partOf.cls yX10_partOf yX10_partOf ∈ sf_tbl := ⟨tm_1013, tm_1015, ts_30⟩
theorem cl_10_205 : Cond.methodLink RX10 205 yX10_rubsOn ∈ sf_tbl ∧ Cond.instanceMethod yX10_rubsOn ∈ sf_tbl ∧ Cond.selects yX10_rubsOn.cls yX10_rubsOn yX10_rubsOn ∈ sf_tbl := ⟨tm_1028, tm_1030, ts_33⟩
theorem cl_10_202 : Cond.methodLink RX10 202 yX10_partsOf ∈ sf_tbl ∧ Cond.instanceMethod yX10_partsOf ∈ sf_tbl ∧ Cond.selects yX10_partsOf.cls yX10_partsOf yX10_partsOf ∈ sf_tbl := ⟨tm_1009, tm_1011, ts_29⟩
theorem cl_10_208 : Cond.methodLink RX10 208 yX10_gallingOf ∈ sf_tbl ∧ Cond.instanceMethod yX10_gallingOf ∈ sf_tbl ∧ Cond.selects yX10_gallingOf.cls yX10_gallingOf yX10_gallingOf ∈ sf_tbl := ⟨tm_1005, tm_1007, ts_28⟩
theorem cl_10_212 : Cond.methodLink RX10 212 yX10_needOf ∈ sf_tbl ∧ Cond.instanceMethod yX10_needOf ∈ sf_tbl ∧ Cond.selects yX10_needOf.cls yX10_needOf yX10_needOf ∈ sf_tbl := ⟨tm_1057, tm_1059, ts_40⟩
theorem cl_10_215 : Cond.methodLink RX10 215 yX10_galledOnes ∈ sf_tbl ∧ Cond.instanceMethod yX10_galledOnes ∈ sf_tbl ∧ Cond.selects yX10_galledOnes.cls yX10_galledOnes yX10_galledOnes ∈ sf_tbl := ⟨tm_997, tm_999, ts_26⟩
theorem cl_10_218 : Cond.methodLink RX10 218 yX10_allGalling ∈ sf_tbl ∧ Cond.instanceMethod yX10_allGalling ∈ sf_tbl ∧ Cond.selects yX10_allGalling.cls yX10_allGalling yX10_allGalling ∈ sf_tbl := ⟨tm_1001, tm_1003, ts_27⟩
theorem cl_10_221 : Cond.methodLink RX10 221 yX10_freeOnes ∈ sf_tbl ∧ Cond.instanceMethod yX10_freeOnes ∈ sf_tbl ∧ Cond.selects yX10_freeOnes.cls yX10_freeOnes yX10_freeOnes ∈ sf_tbl := ⟨tm_1040, tm_1042, ts_36⟩
theorem cl_10_224 : Cond.methodLink RX10 224 yX10_sharedOnes ∈ sf_tbl ∧ Cond.instanceMethod yX10_sharedOnes ∈ sf_tbl ∧ Cond.selects yX10_sharedOnes.cls yX10_sharedOnes yX10_sharedOnes ∈ sf_tbl := ⟨tm_1044, tm_1046, ts_37⟩
theorem cl_10_227 : Cond.methodLink RX10 227 yX10_most ∈ sf_tbl ∧ Cond.instanceMethod yX10_most ∈ sf_tbl ∧ Cond.selects yX10_most.cls yX10_most yX10_most ∈ sf_tbl := ⟨tm_1048, tm_1050, ts_38⟩
theorem cl_10_230 : Cond.methodLink RX10 230 yX10_stuffForAll ∈ sf_tbl ∧ Cond.instanceMethod yX10_stuffForAll ∈ sf_tbl ∧ Cond.selects yX10_stuffForAll.cls yX10_stuffForAll yX10_stuffForAll ∈ sf_tbl := ⟨tm_1052, tm_1054, ts_39⟩
theorem cl_10_233 : Cond.methodLink RX10 233 yX10_isBurden ∈ sf_tbl ∧ Cond.instanceMethod yX10_isBurden ∈ sf_tbl ∧ Cond.selects yX10_isBurden.cls yX10_isBurden yX10_isBurden ∈ sf_tbl := ⟨tm_1065, tm_1067, ts_41⟩
theorem cl_10_237 : Cond.methodLink RX10 237 yX10_isBack ∈ sf_tbl ∧ Cond.instanceMethod yX10_isBack ∈ sf_tbl ∧ Cond.selects yX10_isBack.cls yX10_isBack yX10_isBack ∈ sf_tbl := ⟨tm_1074, tm_1076, ts_42⟩
theorem cl_10_240 : Cond.methodLink RX10 240 yX10_carriedBy ∈ sf_tbl ∧ Cond.instanceMethod yX10_carriedBy ∈ sf_tbl ∧ Cond.selects yX10_carriedBy.cls yX10_carriedBy yX10_carriedBy ∈ sf_tbl := ⟨tm_1078, tm_1080, ts_43⟩
theorem cl_10_243 : Cond.methodLink RX10 243 yX10_stuffFor ∈ sf_tbl ∧ Cond.instanceMethod yX10_stuffFor ∈ sf_tbl ∧ Cond.selects yX10_stuffFor.cls yX10_stuffFor yX10_stuffFor ∈ sf_tbl := ⟨tm_1082, tm_1084, ts_44⟩
theorem cl_10_246 : Cond.methodLink RX10 246 yX10_ringOf ∈ sf_tbl ∧ Cond.instanceMethod yX10_ringOf ∈ sf_tbl ∧ Cond.selects yX10_ringOf.cls yX10_ringOf yX10_ringOf ∈ sf_tbl := ⟨tm_1086, tm_1088, ts_45⟩
theorem cl_10_258 : Cond.methodLink RX10 258 yX10_pass ∈ sf_tbl ∧ Cond.instanceMethod yX10_pass ∈ sf_tbl ∧ Cond.selects yX10_pass.cls yX10_pass yX10_pass ∈ sf_tbl := ⟨tm_1104, tm_1106, ts_48⟩
theorem cl_10_252 : Cond.methodLink RX10 252 yX10_daysRefused ∈ sf_tbl ∧ Cond.instanceMethod yX10_daysRefused ∈ sf_tbl ∧ Cond.selects yX10_daysRefused.cls yX10_daysRefused yX10_daysRefused ∈ sf_tbl := ⟨tm_1094, tm_1096, ts_46⟩
theorem cl_10_255 : Cond.methodLink RX10 255 yX10_remember ∈ sf_tbl ∧ Cond.instanceMethod yX10_remember ∈ sf_tbl ∧ Cond.selects yX10_remember.cls yX10_remember yX10_remember ∈ sf_tbl := ⟨tm_1100, tm_1102, ts_47⟩
theorem cl_10_261 : Cond.methodLink RX10 261 yX10_canShare ∈ sf_tbl ∧ Cond.instanceMethod yX10_canShare ∈ sf_tbl ∧ Cond.selects yX10_canShare.cls yX10_canShare yX10_canShare ∈ sf_tbl := ⟨tm_1116, tm_1118, ts_49⟩
theorem cl_10_264 : Cond.methodLink RX10 264 yX10_downNow ∈ sf_tbl ∧ Cond.instanceMethod yX10_downNow ∈ sf_tbl ∧ Cond.selects yX10_downNow.cls yX10_downNow yX10_downNow ∈ sf_tbl := ⟨tm_1124, tm_1126, ts_50⟩
theorem cl_10_282 : Cond.methodLink RX10 282 yX10_draw ∈ sf_tbl ∧ Cond.instanceMethod yX10_draw ∈ sf_tbl ∧ Cond.selects yX10_draw.cls yX10_draw yX10_draw ∈ sf_tbl := ⟨tm_1150, tm_1152, ts_52⟩
theorem cl_10_285 : Cond.methodLink RX10 285 yX10_chance ∈ sf_tbl ∧ Cond.instanceMethod yX10_chance ∈ sf_tbl ∧ Cond.selects yX10_chance.cls yX10_chance yX10_chance ∈ sf_tbl := ⟨tm_1146, tm_1148, ts_51⟩
theorem cl_10_296 : Cond.methodLink RX10 296 yX10_carryBy ∈ sf_tbl ∧ Cond.instanceMethod yX10_carryBy ∈ sf_tbl ∧ Cond.selects yX10_carryBy.cls yX10_carryBy yX10_carryBy ∈ sf_tbl := ⟨tm_1187, tm_1189, ts_55⟩
theorem cl_10_293 : Cond.methodLink RX10 293 yX10_ways ∈ sf_tbl ∧ Cond.instanceMethod yX10_ways ∈ sf_tbl ∧ Cond.selects yX10_ways.cls yX10_ways yX10_ways ∈ sf_tbl := ⟨tm_1183, tm_1185, ts_54⟩
theorem cl_10_303 : Cond.methodLink RX10 303 yX10_findFit ∈ sf_tbl ∧ Cond.instanceMethod yX10_findFit ∈ sf_tbl ∧ Cond.selects yX10_findFit.cls yX10_findFit yX10_findFit ∈ sf_tbl := ⟨tm_1179, tm_1181, ts_53⟩
theorem cl_10_306 : Cond.methodLink RX10 306 yX10_soreBy ∈ sf_tbl ∧ Cond.instanceMethod yX10_soreBy ∈ sf_tbl ∧ Cond.selects yX10_soreBy.cls yX10_soreBy yX10_soreBy ∈ sf_tbl := ⟨tm_1199, tm_1201, ts_56⟩
theorem cl_10_316 : Cond.methodLink RX10 316 yX10_gallsBy ∈ sf_tbl ∧ Cond.static yX10_gallsBy ∈ sf_tbl := ⟨tm_1231, tm_1232⟩
theorem cl_10_321 : Cond.methodLink RX10 321 yX10_couldBe ∈ sf_tbl ∧ Cond.instanceMethod yX10_couldBe ∈ sf_tbl ∧ Cond.selects yX10_couldBe.cls yX10_couldBe yX10_couldBe ∈ sf_tbl := ⟨tm_1227, tm_1229, ts_57⟩
theorem cl_10_327 : Cond.methodLink RX10 327 yX10_greatestPart ∈ sf_tbl ∧ Cond.instanceMethod yX10_greatestPart ∈ sf_tbl ∧ Cond.selects yX10_greatestPart.cls yX10_greatestPart yX10_greatestPart ∈ sf_tbl := ⟨tm_1239, tm_1241, ts_58⟩
theorem cl_10_324 : Cond.methodLink RX10 324 yX10_carries ∈ sf_tbl ∧ Cond.instanceMethod yX10_carries ∈ sf_tbl ∧ Cond.selects yX10_carries.cls yX10_carries yX10_carries ∈ sf_tbl := ⟨tm_1238, tm_1223, tm_1224⟩
theorem jd_6_70 : Cond.methodLink RX6 70 Lib.Math.max.name ∈ sf_tbl ∧ Cond.static Lib.Math.max.name ∈ sf_tbl ∧ Cond.initialized "java/lang/Math" ∈ sf_tbl ∧ Cond.code Lib.Math.max.name Lib.Math.max.code 2 (some .int) ∈ sf_tbl := ⟨tm_454, tm_455, tm_12, tm_456⟩
theorem jd_4_29 : Cond.methodLink RX4 29 Lib.Math.min.name ∈ sf_tbl ∧ Cond.static Lib.Math.min.name ∈ sf_tbl ∧ Cond.initialized "java/lang/Math" ∈ sf_tbl ∧ Cond.code Lib.Math.min.name Lib.Math.min.code 2 (some .int) ∈ sf_tbl := ⟨tm_541, tm_542, tm_12, tm_543⟩
theorem jd_6_101 : Cond.methodLink RX6 101 Lib.Math.min.name ∈ sf_tbl ∧ Cond.static Lib.Math.min.name ∈ sf_tbl ∧ Cond.initialized "java/lang/Math" ∈ sf_tbl ∧ Cond.code Lib.Math.min.name Lib.Math.min.code 2 (some .int) ∈ sf_tbl := ⟨tm_552, tm_542, tm_12, tm_543⟩
theorem jd_2_73 : Cond.methodLink RX2 73 Lib.Math.max.name ∈ sf_tbl ∧ Cond.static Lib.Math.max.name ∈ sf_tbl ∧ Cond.initialized "java/lang/Math" ∈ sf_tbl ∧ Cond.code Lib.Math.max.name Lib.Math.max.code 2 (some .int) ∈ sf_tbl := ⟨tm_679, tm_455, tm_12, tm_456⟩
theorem jd_2_82 : Cond.methodLink RX2 82 arraycopyName ∈ sf_tbl ∧ Cond.native arraycopyName ∈ sf_tbl ∧ Cond.static arraycopyName ∈ sf_tbl ∧ Cond.initialized "java/lang/System" ∈ sf_tbl := ⟨tm_672, tm_674, tm_673, tm_13⟩
theorem jd_1_38 : Cond.methodLink RX1 38 Lib.Math.max.name ∈ sf_tbl ∧ Cond.static Lib.Math.max.name ∈ sf_tbl ∧ Cond.initialized "java/lang/Math" ∈ sf_tbl ∧ Cond.code Lib.Math.max.name Lib.Math.max.code 2 (some .int) ∈ sf_tbl := ⟨tm_743, tm_455, tm_12, tm_456⟩
