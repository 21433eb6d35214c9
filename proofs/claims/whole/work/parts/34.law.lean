theorem wl_1_224 : Cond.instanceMethod yX8_table ∈ TT := mw1 224 (by decide +kernel) (by decide +kernel)
theorem wl_1_225 : Cond.selects RX8 yX8_table yX8_table ∈ TT := mw1 225 (by decide +kernel) (by decide +kernel)
theorem wl_1_223 : Cond.methodLink RL 13 yX8_table ∈ TT := mw1 223 (by decide +kernel) (by decide +kernel)
theorem wl_1_1 : Cond.initialized RX8 ∈ TT := mw1 1 (by decide +kernel) (by decide +kernel)
theorem wl_1_226 : Cond.code yX8_table cX8_table 4 (some .int) ∈ TT := mw1 226 (by decide +kernel) (by decide +kernel)
theorem wl_5_1 : Cond.instanceMethod yX9_table ∈ TT := mw5 1 (by decide +kernel) (by decide +kernel)
theorem wl_5_2 : Cond.selects RX9 yX9_table yX9_table ∈ TT := mw5 2 (by decide +kernel) (by decide +kernel)
theorem wl_5_0 : Cond.methodLink RL 17 yX9_table ∈ TT := mw5 0 (by decide +kernel) (by decide +kernel)
theorem wl_1_8 : Cond.initialized RX9 ∈ TT := mw1 8 (by decide +kernel) (by decide +kernel)
theorem wl_5_3 : Cond.code yX9_table cX9_table 3 (some .int) ∈ TT := mw5 3 (by decide +kernel) (by decide +kernel)
theorem wl_1_238 : Cond.instanceMethod yX8_row ∈ TT := mw1 238 (by decide +kernel) (by decide +kernel)
theorem wl_1_239 : Cond.selects RX8 yX8_row yX8_row ∈ TT := mw1 239 (by decide +kernel) (by decide +kernel)
theorem wl_1_237 : Cond.methodLink RL 18 yX8_row ∈ TT := mw1 237 (by decide +kernel) (by decide +kernel)
theorem wl_2_0 : Cond.code yX8_row cX8_row 7 (some .int) ∈ TT := mw2 0 (by decide +kernel) (by decide +kernel)
theorem wl_5_13 : Cond.instanceMethod yX9_row ∈ TT := mw5 13 (by decide +kernel) (by decide +kernel)
theorem wl_5_14 : Cond.selects RX9 yX9_row yX9_row ∈ TT := mw5 14 (by decide +kernel) (by decide +kernel)
theorem wl_5_12 : Cond.methodLink RL 22 yX9_row ∈ TT := mw5 12 (by decide +kernel) (by decide +kernel)
theorem wl_5_15 : Cond.code yX9_row cX9_row 6 (some .int) ∈ TT := mw5 15 (by decide +kernel) (by decide +kernel)
theorem wl_2_25 : Cond.instanceMethod yX8_fill ∈ TT := mw2 25 (by decide +kernel) (by decide +kernel)
theorem wl_2_26 : Cond.selects RX8 yX8_fill yX8_fill ∈ TT := mw2 26 (by decide +kernel) (by decide +kernel)
theorem wl_2_24 : Cond.methodLink RL 23 yX8_fill ∈ TT := mw2 24 (by decide +kernel) (by decide +kernel)
theorem wl_2_27 : Cond.code yX8_fill cX8_fill 5 (some .int) ∈ TT := mw2 27 (by decide +kernel) (by decide +kernel)
theorem wl_5_34 : Cond.instanceMethod yX9_fill ∈ TT := mw5 34 (by decide +kernel) (by decide +kernel)
theorem wl_5_35 : Cond.selects RX9 yX9_fill yX9_fill ∈ TT := mw5 35 (by decide +kernel) (by decide +kernel)
theorem wl_5_33 : Cond.methodLink RL 26 yX9_fill ∈ TT := mw5 33 (by decide +kernel) (by decide +kernel)
theorem wl_5_36 : Cond.code yX9_fill cX9_fill 10 (some .int) ∈ TT := mw5 36 (by decide +kernel) (by decide +kernel)
theorem wl_2_46 : Cond.instanceMethod yX8_drop ∈ TT := mw2 46 (by decide +kernel) (by decide +kernel)
theorem wl_2_47 : Cond.selects RX8 yX8_drop yX8_drop ∈ TT := mw2 47 (by decide +kernel) (by decide +kernel)
theorem wl_2_45 : Cond.methodLink RL 27 yX8_drop ∈ TT := mw2 45 (by decide +kernel) (by decide +kernel)
theorem wl_2_48 : Cond.code yX8_drop cX8_drop 3 (some .int) ∈ TT := mw2 48 (by decide +kernel) (by decide +kernel)
theorem wl_5_44 : Cond.instanceMethod yX9_drop ∈ TT := mw5 44 (by decide +kernel) (by decide +kernel)
theorem wl_5_45 : Cond.selects RX9 yX9_drop yX9_drop ∈ TT := mw5 45 (by decide +kernel) (by decide +kernel)
theorem wl_5_43 : Cond.methodLink RL 30 yX9_drop ∈ TT := mw5 43 (by decide +kernel) (by decide +kernel)
theorem wl_5_46 : Cond.code yX9_drop cX9_drop 5 (some .int) ∈ TT := mw5 46 (by decide +kernel) (by decide +kernel)
theorem wl_2_59 : Cond.instanceMethod yX8_sort ∈ TT := mw2 59 (by decide +kernel) (by decide +kernel)
theorem wl_2_60 : Cond.selects RX8 yX8_sort yX8_sort ∈ TT := mw2 60 (by decide +kernel) (by decide +kernel)
theorem wl_2_58 : Cond.methodLink RL 31 yX8_sort ∈ TT := mw2 58 (by decide +kernel) (by decide +kernel)
theorem wl_2_61 : Cond.code yX8_sort cX8_sort 3 (some .int) ∈ TT := mw2 61 (by decide +kernel) (by decide +kernel)
theorem wl_5_52 : Cond.instanceMethod yX9_sort ∈ TT := mw5 52 (by decide +kernel) (by decide +kernel)
theorem wl_5_53 : Cond.selects RX9 yX9_sort yX9_sort ∈ TT := mw5 53 (by decide +kernel) (by decide +kernel)
theorem wl_5_51 : Cond.methodLink RL 34 yX9_sort ∈ TT := mw5 51 (by decide +kernel) (by decide +kernel)
theorem wl_5_54 : Cond.code yX9_sort cX9_sort 6 (some .int) ∈ TT := mw5 54 (by decide +kernel) (by decide +kernel)
theorem wl_2_79 : Cond.instanceMethod yX8_get ∈ TT := mw2 79 (by decide +kernel) (by decide +kernel)
theorem wl_2_80 : Cond.selects RX8 yX8_get yX8_get ∈ TT := mw2 80 (by decide +kernel) (by decide +kernel)
theorem wl_2_78 : Cond.methodLink RL 35 yX8_get ∈ TT := mw2 78 (by decide +kernel) (by decide +kernel)
theorem wl_2_81 : Cond.code yX8_get cX8_get 4 (some .int) ∈ TT := mw2 81 (by decide +kernel) (by decide +kernel)
theorem wl_5_57 : Cond.instanceMethod yX9_get ∈ TT := mw5 57 (by decide +kernel) (by decide +kernel)
theorem wl_5_58 : Cond.selects RX9 yX9_get yX9_get ∈ TT := mw5 58 (by decide +kernel) (by decide +kernel)
theorem wl_5_56 : Cond.methodLink RL 39 yX9_get ∈ TT := mw5 56 (by decide +kernel) (by decide +kernel)
theorem wl_5_59 : Cond.code yX9_get cX9_get 4 (some .int) ∈ TT := mw5 59 (by decide +kernel) (by decide +kernel)
theorem wl_2_88 : Cond.instanceMethod yX8_about ∈ TT := mw2 88 (by decide +kernel) (by decide +kernel)
theorem wl_2_89 : Cond.selects RX8 yX8_about yX8_about ∈ TT := mw2 89 (by decide +kernel) (by decide +kernel)
theorem wl_2_87 : Cond.methodLink RL 40 yX8_about ∈ TT := mw2 87 (by decide +kernel) (by decide +kernel)
theorem wl_2_90 : Cond.code yX8_about cX8_about 3 (some .int) ∈ TT := mw2 90 (by decide +kernel) (by decide +kernel)
theorem wl_5_61 : Cond.instanceMethod yX9_about ∈ TT := mw5 61 (by decide +kernel) (by decide +kernel)
theorem wl_5_62 : Cond.selects RX9 yX9_about yX9_about ∈ TT := mw5 62 (by decide +kernel) (by decide +kernel)
theorem wl_5_60 : Cond.methodLink RL 43 yX9_about ∈ TT := mw5 60 (by decide +kernel) (by decide +kernel)
theorem wl_5_63 : Cond.code yX9_about cX9_about 3 (some .int) ∈ TT := mw5 63 (by decide +kernel) (by decide +kernel)
theorem wl_2_112 : Cond.instanceMethod yX8_unlike ∈ TT := mw2 112 (by decide +kernel) (by decide +kernel)
theorem wl_2_113 : Cond.selects RX8 yX8_unlike yX8_unlike ∈ TT := mw2 113 (by decide +kernel) (by decide +kernel)
theorem wl_2_111 : Cond.methodLink RL 44 yX8_unlike ∈ TT := mw2 111 (by decide +kernel) (by decide +kernel)
theorem wl_2_114 : Cond.code yX8_unlike cX8_unlike 3 (some .int) ∈ TT := mw2 114 (by decide +kernel) (by decide +kernel)
theorem wl_5_76 : Cond.instanceMethod yX9_unlike ∈ TT := mw5 76 (by decide +kernel) (by decide +kernel)
theorem wl_5_77 : Cond.selects RX9 yX9_unlike yX9_unlike ∈ TT := mw5 77 (by decide +kernel) (by decide +kernel)
theorem wl_5_75 : Cond.methodLink RL 47 yX9_unlike ∈ TT := mw5 75 (by decide +kernel) (by decide +kernel)
theorem wl_5_78 : Cond.code yX9_unlike cX9_unlike 3 (some .int) ∈ TT := mw5 78 (by decide +kernel) (by decide +kernel)
theorem wl_2_121 : Cond.instanceMethod yX8_rule ∈ TT := mw2 121 (by decide +kernel) (by decide +kernel)
theorem wl_2_122 : Cond.selects RX8 yX8_rule yX8_rule ∈ TT := mw2 122 (by decide +kernel) (by decide +kernel)
theorem wl_2_120 : Cond.methodLink RL 48 yX8_rule ∈ TT := mw2 120 (by decide +kernel) (by decide +kernel)
theorem wl_2_123 : Cond.code yX8_rule cX8_rule 3 (some .int) ∈ TT := mw2 123 (by decide +kernel) (by decide +kernel)
theorem wl_5_84 : Cond.instanceMethod yX9_rule ∈ TT := mw5 84 (by decide +kernel) (by decide +kernel)
theorem wl_5_85 : Cond.selects RX9 yX9_rule yX9_rule ∈ TT := mw5 85 (by decide +kernel) (by decide +kernel)
theorem wl_5_83 : Cond.methodLink RL 51 yX9_rule ∈ TT := mw5 83 (by decide +kernel) (by decide +kernel)
theorem wl_5_86 : Cond.code yX9_rule cX9_rule 4 (some .int) ∈ TT := mw5 86 (by decide +kernel) (by decide +kernel)
theorem wl_2_133 : Cond.instanceMethod yX8_size ∈ TT := mw2 133 (by decide +kernel) (by decide +kernel)
theorem wl_2_134 : Cond.selects RX8 yX8_size yX8_size ∈ TT := mw2 134 (by decide +kernel) (by decide +kernel)
theorem wl_2_132 : Cond.methodLink RL 52 yX8_size ∈ TT := mw2 132 (by decide +kernel) (by decide +kernel)
theorem wl_2_135 : Cond.code yX8_size cX8_size 3 (some .int) ∈ TT := mw2 135 (by decide +kernel) (by decide +kernel)
theorem wl_5_89 : Cond.instanceMethod yX9_size ∈ TT := mw5 89 (by decide +kernel) (by decide +kernel)
theorem wl_5_90 : Cond.selects RX9 yX9_size yX9_size ∈ TT := mw5 90 (by decide +kernel) (by decide +kernel)
theorem wl_5_88 : Cond.methodLink RL 55 yX9_size ∈ TT := mw5 88 (by decide +kernel) (by decide +kernel)
theorem wl_5_91 : Cond.code yX9_size cX9_size 3 (some .int) ∈ TT := mw5 91 (by decide +kernel) (by decide +kernel)
theorem wl_2_192 : Cond.instanceMethod yX8_pages ∈ TT := mw2 192 (by decide +kernel) (by decide +kernel)
theorem wl_2_193 : Cond.selects RX8 yX8_pages yX8_pages ∈ TT := mw2 193 (by decide +kernel) (by decide +kernel)
theorem wl_2_191 : Cond.methodLink RL 56 yX8_pages ∈ TT := mw2 191 (by decide +kernel) (by decide +kernel)
theorem wl_2_194 : Cond.code yX8_pages cX8_pages 3 (some .int) ∈ TT := mw2 194 (by decide +kernel) (by decide +kernel)
theorem wl_5_133 : Cond.instanceMethod yX9_pages ∈ TT := mw5 133 (by decide +kernel) (by decide +kernel)
theorem wl_5_134 : Cond.selects RX9 yX9_pages yX9_pages ∈ TT := mw5 134 (by decide +kernel) (by decide +kernel)
theorem wl_5_132 : Cond.methodLink RL 59 yX9_pages ∈ TT := mw5 132 (by decide +kernel) (by decide +kernel)
theorem wl_5_135 : Cond.code yX9_pages cX9_pages 3 (some .int) ∈ TT := mw5 135 (by decide +kernel) (by decide +kernel)
theorem wl_2_212 : Cond.instanceMethod yX8_joined ∈ TT := mw2 212 (by decide +kernel) (by decide +kernel)
theorem wl_2_213 : Cond.selects RX8 yX8_joined yX8_joined ∈ TT := mw2 213 (by decide +kernel) (by decide +kernel)
theorem wl_2_211 : Cond.methodLink RL 60 yX8_joined ∈ TT := mw2 211 (by decide +kernel) (by decide +kernel)
theorem wl_2_214 : Cond.code yX8_joined cX8_joined 5 (some .int) ∈ TT := mw2 214 (by decide +kernel) (by decide +kernel)
theorem wl_5_141 : Cond.instanceMethod yX9_joined ∈ TT := mw5 141 (by decide +kernel) (by decide +kernel)
theorem wl_5_142 : Cond.selects RX9 yX9_joined yX9_joined ∈ TT := mw5 142 (by decide +kernel) (by decide +kernel)
theorem wl_5_140 : Cond.methodLink RL 63 yX9_joined ∈ TT := mw5 140 (by decide +kernel) (by decide +kernel)
theorem wl_5_143 : Cond.code yX9_joined cX9_joined 5 (some .int) ∈ TT := mw5 143 (by decide +kernel) (by decide +kernel)
theorem wl_2_232 : Cond.instanceMethod yX8_value ∈ TT := mw2 232 (by decide +kernel) (by decide +kernel)
theorem wl_2_233 : Cond.selects RX8 yX8_value yX8_value ∈ TT := mw2 233 (by decide +kernel) (by decide +kernel)
theorem wl_2_231 : Cond.methodLink RL 64 yX8_value ∈ TT := mw2 231 (by decide +kernel) (by decide +kernel)
theorem wl_2_234 : Cond.code yX8_value cX8_value 5 (some .int) ∈ TT := mw2 234 (by decide +kernel) (by decide +kernel)
theorem wl_5_153 : Cond.instanceMethod yX9_value ∈ TT := mw5 153 (by decide +kernel) (by decide +kernel)
theorem wl_5_154 : Cond.selects RX9 yX9_value yX9_value ∈ TT := mw5 154 (by decide +kernel) (by decide +kernel)
theorem wl_5_152 : Cond.methodLink RL 67 yX9_value ∈ TT := mw5 152 (by decide +kernel) (by decide +kernel)
theorem wl_5_155 : Cond.code yX9_value cX9_value 5 (some .int) ∈ TT := mw5 155 (by decide +kernel) (by decide +kernel)
theorem wl_3_2 : Cond.instanceMethod yX8_idle ∈ TT := mw3 2 (by decide +kernel) (by decide +kernel)
theorem wl_3_3 : Cond.selects RX8 yX8_idle yX8_idle ∈ TT := mw3 3 (by decide +kernel) (by decide +kernel)
theorem wl_3_1 : Cond.methodLink RL 68 yX8_idle ∈ TT := mw3 1 (by decide +kernel) (by decide +kernel)
theorem wl_3_4 : Cond.code yX8_idle cX8_idle 4 (some .int) ∈ TT := mw3 4 (by decide +kernel) (by decide +kernel)
theorem wl_5_157 : Cond.instanceMethod yX9_idle ∈ TT := mw5 157 (by decide +kernel) (by decide +kernel)
theorem wl_5_158 : Cond.selects RX9 yX9_idle yX9_idle ∈ TT := mw5 158 (by decide +kernel) (by decide +kernel)
theorem wl_5_156 : Cond.methodLink RL 71 yX9_idle ∈ TT := mw5 156 (by decide +kernel) (by decide +kernel)
theorem wl_5_159 : Cond.code yX9_idle cX9_idle 6 (some .int) ∈ TT := mw5 159 (by decide +kernel) (by decide +kernel)
theorem wl_6_84 : Cond.constantLong RL 72 (4294967295) ∈ TT := mw6 84 (by decide +kernel) (by decide +kernel)
theorem wl_3_10 : Cond.instanceMethod yX8_letters ∈ TT := mw3 10 (by decide +kernel) (by decide +kernel)
theorem wl_3_11 : Cond.selects RX8 yX8_letters yX8_letters ∈ TT := mw3 11 (by decide +kernel) (by decide +kernel)
theorem wl_3_9 : Cond.methodLink RL 74 yX8_letters ∈ TT := mw3 9 (by decide +kernel) (by decide +kernel)
theorem wl_3_12 : Cond.code yX8_letters cX8_letters 7 (some .int) ∈ TT := mw3 12 (by decide +kernel) (by decide +kernel)
theorem wl_5_161 : Cond.instanceMethod yX9_letters ∈ TT := mw5 161 (by decide +kernel) (by decide +kernel)
theorem wl_5_162 : Cond.selects RX9 yX9_letters yX9_letters ∈ TT := mw5 162 (by decide +kernel) (by decide +kernel)
theorem wl_5_160 : Cond.methodLink RL 78 yX9_letters ∈ TT := mw5 160 (by decide +kernel) (by decide +kernel)
theorem wl_5_163 : Cond.code yX9_letters cX9_letters 9 (some .int) ∈ TT := mw5 163 (by decide +kernel) (by decide +kernel)
theorem wl_3_20 : Cond.instanceMethod yX8_blank ∈ TT := mw3 20 (by decide +kernel) (by decide +kernel)
theorem wl_3_21 : Cond.selects RX8 yX8_blank yX8_blank ∈ TT := mw3 21 (by decide +kernel) (by decide +kernel)
theorem wl_3_19 : Cond.methodLink RL 79 yX8_blank ∈ TT := mw3 19 (by decide +kernel) (by decide +kernel)
theorem wl_3_22 : Cond.code yX8_blank cX8_blank 1 (some .int) ∈ TT := mw3 22 (by decide +kernel) (by decide +kernel)
theorem wl_5_165 : Cond.instanceMethod yX9_blank ∈ TT := mw5 165 (by decide +kernel) (by decide +kernel)
theorem wl_5_166 : Cond.selects RX9 yX9_blank yX9_blank ∈ TT := mw5 166 (by decide +kernel) (by decide +kernel)
theorem wl_5_164 : Cond.methodLink RL 83 yX9_blank ∈ TT := mw5 164 (by decide +kernel) (by decide +kernel)
theorem wl_5_167 : Cond.code yX9_blank cX9_blank 2 (some .int) ∈ TT := mw5 167 (by decide +kernel) (by decide +kernel)
theorem wl_3_28 : Cond.instanceMethod yX8_good ∈ TT := mw3 28 (by decide +kernel) (by decide +kernel)
theorem wl_3_29 : Cond.selects RX8 yX8_good yX8_good ∈ TT := mw3 29 (by decide +kernel) (by decide +kernel)
theorem wl_3_27 : Cond.methodLink RL 84 yX8_good ∈ TT := mw3 27 (by decide +kernel) (by decide +kernel)
theorem wl_3_30 : Cond.code yX8_good cX8_good 1 (some .int) ∈ TT := mw3 30 (by decide +kernel) (by decide +kernel)
theorem wl_5_169 : Cond.instanceMethod yX9_good ∈ TT := mw5 169 (by decide +kernel) (by decide +kernel)
theorem wl_5_170 : Cond.selects RX9 yX9_good yX9_good ∈ TT := mw5 170 (by decide +kernel) (by decide +kernel)
theorem wl_5_168 : Cond.methodLink RL 87 yX9_good ∈ TT := mw5 168 (by decide +kernel) (by decide +kernel)
theorem wl_5_171 : Cond.code yX9_good cX9_good 1 (some .int) ∈ TT := mw5 171 (by decide +kernel) (by decide +kernel)
theorem wl_3_65 : Cond.instanceMethod yX8_plan ∈ TT := mw3 65 (by decide +kernel) (by decide +kernel)
theorem wl_3_66 : Cond.selects RX8 yX8_plan yX8_plan ∈ TT := mw3 66 (by decide +kernel) (by decide +kernel)
theorem wl_3_64 : Cond.methodLink RL 88 yX8_plan ∈ TT := mw3 64 (by decide +kernel) (by decide +kernel)
theorem wl_3_67 : Cond.code yX8_plan cX8_plan 3 (some .int) ∈ TT := mw3 67 (by decide +kernel) (by decide +kernel)
theorem wl_5_187 : Cond.instanceMethod yX9_plan ∈ TT := mw5 187 (by decide +kernel) (by decide +kernel)
theorem wl_5_188 : Cond.selects RX9 yX9_plan yX9_plan ∈ TT := mw5 188 (by decide +kernel) (by decide +kernel)
theorem wl_5_186 : Cond.methodLink RL 91 yX9_plan ∈ TT := mw5 186 (by decide +kernel) (by decide +kernel)
theorem wl_5_189 : Cond.code yX9_plan cX9_plan 3 (some .int) ∈ TT := mw5 189 (by decide +kernel) (by decide +kernel)
theorem wl_3_142 : Cond.instanceMethod yX8_best ∈ TT := mw3 142 (by decide +kernel) (by decide +kernel)
theorem wl_3_143 : Cond.selects RX8 yX8_best yX8_best ∈ TT := mw3 143 (by decide +kernel) (by decide +kernel)
theorem wl_3_141 : Cond.methodLink RL 92 yX8_best ∈ TT := mw3 141 (by decide +kernel) (by decide +kernel)
theorem wl_3_144 : Cond.code yX8_best cX8_best 6 (some .int) ∈ TT := mw3 144 (by decide +kernel) (by decide +kernel)
theorem wl_5_219 : Cond.instanceMethod yX9_best ∈ TT := mw5 219 (by decide +kernel) (by decide +kernel)
theorem wl_5_220 : Cond.selects RX9 yX9_best yX9_best ∈ TT := mw5 220 (by decide +kernel) (by decide +kernel)
theorem wl_5_218 : Cond.methodLink RL 95 yX9_best ∈ TT := mw5 218 (by decide +kernel) (by decide +kernel)
theorem wl_5_221 : Cond.code yX9_best cX9_best 5 (some .int) ∈ TT := mw5 221 (by decide +kernel) (by decide +kernel)
theorem wl_3_215 : Cond.instanceMethod yX8_sign ∈ TT := mw3 215 (by decide +kernel) (by decide +kernel)
theorem wl_3_216 : Cond.selects RX8 yX8_sign yX8_sign ∈ TT := mw3 216 (by decide +kernel) (by decide +kernel)
theorem wl_3_214 : Cond.methodLink RL 96 yX8_sign ∈ TT := mw3 214 (by decide +kernel) (by decide +kernel)
theorem wl_3_217 : Cond.code yX8_sign cX8_sign 7 (some .int) ∈ TT := mw3 217 (by decide +kernel) (by decide +kernel)
theorem wl_6_15 : Cond.instanceMethod yX9_sign ∈ TT := mw6 15 (by decide +kernel) (by decide +kernel)
theorem wl_6_16 : Cond.selects RX9 yX9_sign yX9_sign ∈ TT := mw6 16 (by decide +kernel) (by decide +kernel)
theorem wl_6_14 : Cond.methodLink RL 100 yX9_sign ∈ TT := mw6 14 (by decide +kernel) (by decide +kernel)
theorem wl_6_17 : Cond.code yX9_sign cX9_sign 7 (some .int) ∈ TT := mw6 17 (by decide +kernel) (by decide +kernel)
theorem wl_3_235 : Cond.instanceMethod yX8_regret ∈ TT := mw3 235 (by decide +kernel) (by decide +kernel)
theorem wl_3_236 : Cond.selects RX8 yX8_regret yX8_regret ∈ TT := mw3 236 (by decide +kernel) (by decide +kernel)
theorem wl_3_234 : Cond.methodLink RL 101 yX8_regret ∈ TT := mw3 234 (by decide +kernel) (by decide +kernel)
theorem wl_3_237 : Cond.code yX8_regret cX8_regret 5 (some .int) ∈ TT := mw3 237 (by decide +kernel) (by decide +kernel)
theorem wl_6_19 : Cond.instanceMethod yX9_regret ∈ TT := mw6 19 (by decide +kernel) (by decide +kernel)
theorem wl_6_20 : Cond.selects RX9 yX9_regret yX9_regret ∈ TT := mw6 20 (by decide +kernel) (by decide +kernel)
theorem wl_6_18 : Cond.methodLink RL 104 yX9_regret ∈ TT := mw6 18 (by decide +kernel) (by decide +kernel)
theorem wl_6_21 : Cond.code yX9_regret cX9_regret 5 (some .int) ∈ TT := mw6 21 (by decide +kernel) (by decide +kernel)
theorem wl_4_3 : Cond.instanceMethod yX8_hangs ∈ TT := mw4 3 (by decide +kernel) (by decide +kernel)
theorem wl_4_4 : Cond.selects RX8 yX8_hangs yX8_hangs ∈ TT := mw4 4 (by decide +kernel) (by decide +kernel)
theorem wl_4_2 : Cond.methodLink RL 105 yX8_hangs ∈ TT := mw4 2 (by decide +kernel) (by decide +kernel)
theorem wl_4_5 : Cond.code yX8_hangs cX8_hangs 2 (some .int) ∈ TT := mw4 5 (by decide +kernel) (by decide +kernel)
theorem wl_6_23 : Cond.instanceMethod yX9_hangs ∈ TT := mw6 23 (by decide +kernel) (by decide +kernel)
theorem wl_6_24 : Cond.selects RX9 yX9_hangs yX9_hangs ∈ TT := mw6 24 (by decide +kernel) (by decide +kernel)
theorem wl_6_22 : Cond.methodLink RL 109 yX9_hangs ∈ TT := mw6 22 (by decide +kernel) (by decide +kernel)
theorem wl_6_25 : Cond.code yX9_hangs cX9_hangs 2 (some .int) ∈ TT := mw6 25 (by decide +kernel) (by decide +kernel)
theorem wl_4_22 : Cond.instanceMethod yX8_goes ∈ TT := mw4 22 (by decide +kernel) (by decide +kernel)
theorem wl_4_23 : Cond.selects RX8 yX8_goes yX8_goes ∈ TT := mw4 23 (by decide +kernel) (by decide +kernel)
theorem wl_4_21 : Cond.methodLink RL 110 yX8_goes ∈ TT := mw4 21 (by decide +kernel) (by decide +kernel)
theorem wl_4_24 : Cond.code yX8_goes cX8_goes 3 (some .int) ∈ TT := mw4 24 (by decide +kernel) (by decide +kernel)
theorem wl_6_39 : Cond.instanceMethod yX9_goes ∈ TT := mw6 39 (by decide +kernel) (by decide +kernel)
theorem wl_6_40 : Cond.selects RX9 yX9_goes yX9_goes ∈ TT := mw6 40 (by decide +kernel) (by decide +kernel)
theorem wl_6_38 : Cond.methodLink RL 113 yX9_goes ∈ TT := mw6 38 (by decide +kernel) (by decide +kernel)
theorem wl_6_41 : Cond.code yX9_goes cX9_goes 3 (some .int) ∈ TT := mw6 41 (by decide +kernel) (by decide +kernel)
theorem wl_4_30 : Cond.instanceMethod yX8_on ∈ TT := mw4 30 (by decide +kernel) (by decide +kernel)
theorem wl_4_31 : Cond.selects RX8 yX8_on yX8_on ∈ TT := mw4 31 (by decide +kernel) (by decide +kernel)
theorem wl_4_29 : Cond.methodLink RL 114 yX8_on ∈ TT := mw4 29 (by decide +kernel) (by decide +kernel)
theorem wl_4_32 : Cond.code yX8_on cX8_on 4 (some .int) ∈ TT := mw4 32 (by decide +kernel) (by decide +kernel)
theorem wl_6_43 : Cond.instanceMethod yX9_on ∈ TT := mw6 43 (by decide +kernel) (by decide +kernel)
theorem wl_6_44 : Cond.selects RX9 yX9_on yX9_on ∈ TT := mw6 44 (by decide +kernel) (by decide +kernel)
theorem wl_6_42 : Cond.methodLink RL 117 yX9_on ∈ TT := mw6 42 (by decide +kernel) (by decide +kernel)
theorem wl_6_45 : Cond.code yX9_on cX9_on 3 (some .int) ∈ TT := mw6 45 (by decide +kernel) (by decide +kernel)
theorem wl_4_38 : Cond.instanceMethod yX8_left ∈ TT := mw4 38 (by decide +kernel) (by decide +kernel)
theorem wl_4_39 : Cond.selects RX8 yX8_left yX8_left ∈ TT := mw4 39 (by decide +kernel) (by decide +kernel)
theorem wl_4_37 : Cond.methodLink RL 118 yX8_left ∈ TT := mw4 37 (by decide +kernel) (by decide +kernel)
theorem wl_4_40 : Cond.code yX8_left cX8_left 4 (some .int) ∈ TT := mw4 40 (by decide +kernel) (by decide +kernel)
theorem wl_6_47 : Cond.instanceMethod yX9_left ∈ TT := mw6 47 (by decide +kernel) (by decide +kernel)
theorem wl_6_48 : Cond.selects RX9 yX9_left yX9_left ∈ TT := mw6 48 (by decide +kernel) (by decide +kernel)
theorem wl_6_46 : Cond.methodLink RL 121 yX9_left ∈ TT := mw6 46 (by decide +kernel) (by decide +kernel)
theorem wl_6_49 : Cond.code yX9_left cX9_left 3 (some .int) ∈ TT := mw6 49 (by decide +kernel) (by decide +kernel)
theorem wl_4_64 : Cond.instanceMethod yX8_steps ∈ TT := mw4 64 (by decide +kernel) (by decide +kernel)
theorem wl_4_65 : Cond.selects RX8 yX8_steps yX8_steps ∈ TT := mw4 65 (by decide +kernel) (by decide +kernel)
theorem wl_4_63 : Cond.methodLink RL 122 yX8_steps ∈ TT := mw4 63 (by decide +kernel) (by decide +kernel)
theorem wl_4_66 : Cond.code yX8_steps cX8_steps 2 (some .int) ∈ TT := mw4 66 (by decide +kernel) (by decide +kernel)
theorem wl_6_59 : Cond.instanceMethod yX9_steps ∈ TT := mw6 59 (by decide +kernel) (by decide +kernel)
theorem wl_6_60 : Cond.selects RX9 yX9_steps yX9_steps ∈ TT := mw6 60 (by decide +kernel) (by decide +kernel)
theorem wl_6_58 : Cond.methodLink RL 125 yX9_steps ∈ TT := mw6 58 (by decide +kernel) (by decide +kernel)
theorem wl_6_61 : Cond.code yX9_steps cX9_steps 4 (some .int) ∈ TT := mw6 61 (by decide +kernel) (by decide +kernel)
theorem wl_4_72 : Cond.instanceMethod yX8_cover ∈ TT := mw4 72 (by decide +kernel) (by decide +kernel)
theorem wl_4_73 : Cond.selects RX8 yX8_cover yX8_cover ∈ TT := mw4 73 (by decide +kernel) (by decide +kernel)
theorem wl_4_71 : Cond.methodLink RL 126 yX8_cover ∈ TT := mw4 71 (by decide +kernel) (by decide +kernel)
theorem wl_4_74 : Cond.code yX8_cover cX8_cover 2 (some .int) ∈ TT := mw4 74 (by decide +kernel) (by decide +kernel)
theorem wl_6_63 : Cond.instanceMethod yX9_cover ∈ TT := mw6 63 (by decide +kernel) (by decide +kernel)
theorem wl_6_64 : Cond.selects RX9 yX9_cover yX9_cover ∈ TT := mw6 64 (by decide +kernel) (by decide +kernel)
theorem wl_6_62 : Cond.methodLink RL 129 yX9_cover ∈ TT := mw6 62 (by decide +kernel) (by decide +kernel)
theorem wl_6_65 : Cond.code yX9_cover cX9_cover 2 (some .int) ∈ TT := mw6 65 (by decide +kernel) (by decide +kernel)
theorem wl_4_81 : Cond.instanceMethod yX8_count ∈ TT := mw4 81 (by decide +kernel) (by decide +kernel)
theorem wl_4_82 : Cond.selects RX8 yX8_count yX8_count ∈ TT := mw4 82 (by decide +kernel) (by decide +kernel)
theorem wl_4_80 : Cond.methodLink RL 130 yX8_count ∈ TT := mw4 80 (by decide +kernel) (by decide +kernel)
theorem wl_4_83 : Cond.code yX8_count cX8_count 2 (some .int) ∈ TT := mw4 83 (by decide +kernel) (by decide +kernel)
theorem wl_6_71 : Cond.instanceMethod yX9_count ∈ TT := mw6 71 (by decide +kernel) (by decide +kernel)
theorem wl_6_72 : Cond.selects RX9 yX9_count yX9_count ∈ TT := mw6 72 (by decide +kernel) (by decide +kernel)
theorem wl_6_70 : Cond.methodLink RL 133 yX9_count ∈ TT := mw6 70 (by decide +kernel) (by decide +kernel)
theorem wl_6_73 : Cond.code yX9_count cX9_count 2 (some .int) ∈ TT := mw6 73 (by decide +kernel) (by decide +kernel)
theorem wl_4_93 : Cond.instanceMethod yX8_digest ∈ TT := mw4 93 (by decide +kernel) (by decide +kernel)
theorem wl_4_94 : Cond.selects RX8 yX8_digest yX8_digest ∈ TT := mw4 94 (by decide +kernel) (by decide +kernel)
theorem wl_4_92 : Cond.methodLink RL 134 yX8_digest ∈ TT := mw4 92 (by decide +kernel) (by decide +kernel)
theorem wl_4_95 : Cond.code yX8_digest cX8_digest 5 (some .long) ∈ TT := mw4 95 (by decide +kernel) (by decide +kernel)
theorem wl_6_79 : Cond.instanceMethod yX9_digest ∈ TT := mw6 79 (by decide +kernel) (by decide +kernel)
theorem wl_6_80 : Cond.selects RX9 yX9_digest yX9_digest ∈ TT := mw6 80 (by decide +kernel) (by decide +kernel)
theorem wl_6_78 : Cond.methodLink RL 138 yX9_digest ∈ TT := mw6 78 (by decide +kernel) (by decide +kernel)
theorem wl_6_81 : Cond.code yX9_digest cX9_digest 6 (some .long) ∈ TT := mw6 81 (by decide +kernel) (by decide +kernel)
def Op_table (N : Nat) (Sim : SS → SS → Prop) : Prop := ∀ (a1 : Int32) (a2 : Int32) (qC qM : SS), Sim qC qM → ∃ (r : Int32) (qC2 : SS) (qM2 : SS), f8_table a1 a2 qC = some (r, qC2) ∧ f9_table N a1 a2 qM = some (r, qM2) ∧ Sim qC2 qM2
def Op_row (N : Nat) (Sim : SS → SS → Prop) : Prop := ∀ (a1 : Int32) (a2 : Int32) (a3 : Int32) (a4 : Int32) (qC qM : SS), Sim qC qM → ∃ (r : Int32) (qC2 : SS) (qM2 : SS), f8_row N a1 a2 a3 a4 qC = some (r, qC2) ∧ f9_row N a1 a2 a3 a4 qM = some (r, qM2) ∧ Sim qC2 qM2
def Op_fill (N : Nat) (Sim : SS → SS → Prop) : Prop := ∀ (a1 : Int32) (a2 : Int32) (a3 : Int32) (a4 : Int32) (qC qM : SS), Sim qC qM → ∃ (r : Int32) (qC2 : SS) (qM2 : SS), f8_fill N a1 a2 a3 a4 qC = some (r, qC2) ∧ f9_fill N a1 a2 a3 a4 qM = some (r, qM2) ∧ Sim qC2 qM2
def Op_drop (N : Nat) (Sim : SS → SS → Prop) : Prop := ∀ (a1 : Int32) (a2 : Int32) (qC qM : SS), Sim qC qM → ∃ (r : Int32) (qC2 : SS) (qM2 : SS), f8_drop N a1 a2 qC = some (r, qC2) ∧ f9_drop N a1 a2 qM = some (r, qM2) ∧ Sim qC2 qM2
def Op_sort (N : Nat) (Sim : SS → SS → Prop) : Prop := ∀ (a1 : Int32) (a2 : Int32) (qC qM : SS), Sim qC qM → ∃ (r : Int32) (qC2 : SS) (qM2 : SS), f8_sort N a1 a2 qC = some (r, qC2) ∧ f9_sort N a1 a2 qM = some (r, qM2) ∧ Sim qC2 qM2
def Op_get (N : Nat) (Sim : SS → SS → Prop) : Prop := ∀ (a1 : Int32) (a2 : Int32) (a3 : Int32) (qC qM : SS), Sim qC qM → ∃ (r : Int32), f8_get qC a1 a2 a3 = some r ∧ f9_get qM a1 a2 a3 = some r ∧ Sim qC qM
def Op_about (N : Nat) (Sim : SS → SS → Prop) : Prop := ∀ (a1 : Int32) (a2 : Int32) (qC qM : SS), Sim qC qM → ∃ (r : Int32), f8_about N qC a1 a2 = some r ∧ f9_about N qM a1 a2 = some r ∧ Sim qC qM
def Op_unlike (N : Nat) (Sim : SS → SS → Prop) : Prop := ∀ (a1 : Int32) (a2 : Int32) (qC qM : SS), Sim qC qM → ∃ (r : Int32), f8_unlike N qC a1 a2 = some r ∧ f9_unlike N qM a1 a2 = some r ∧ Sim qC qM
def Op_rule (N : Nat) (Sim : SS → SS → Prop) : Prop := ∀ (a1 : Int32) (a2 : Int32) (qC qM : SS), Sim qC qM → ∃ (r : Int32) (qC2 : SS) (qM2 : SS), f8_rule a1 a2 qC = some (r, qC2) ∧ f9_rule a1 a2 qM = some (r, qM2) ∧ Sim qC2 qM2
def Op_size (N : Nat) (Sim : SS → SS → Prop) : Prop := ∀ (a1 : Int32) (a2 : Int32) (qC qM : SS), Sim qC qM → ∃ (r : Int32) (qC2 : SS) (qM2 : SS), f8_size N a1 a2 qC = some (r, qC2) ∧ f9_size N a1 a2 qM = some (r, qM2) ∧ Sim qC2 qM2
def Op_pages (N : Nat) (Sim : SS → SS → Prop) : Prop := ∀ (a1 : Int32) (a2 : Int32) (qC qM : SS), Sim qC qM → ∃ (r : Int32) (qC2 : SS) (qM2 : SS), f8_pages N a1 a2 qC = some (r, qC2) ∧ f9_pages N a1 a2 qM = some (r, qM2) ∧ Sim qC2 qM2
def Op_joined (N : Nat) (Sim : SS → SS → Prop) : Prop := ∀ (a1 : Int32) (a2 : Int32) (a3 : Int32) (qC qM : SS), Sim qC qM → ∃ (r : Int32) (qC2 : SS) (qM2 : SS), f8_joined N a1 a2 a3 qC = some (r, qC2) ∧ f9_joined N a1 a2 a3 qM = some (r, qM2) ∧ Sim qC2 qM2
def Op_value (N : Nat) (Sim : SS → SS → Prop) : Prop := ∀ (a1 : Int32) (a2 : Int32) (a3 : Int32) (qC qM : SS), Sim qC qM → ∃ (r : Int32) (qC2 : SS) (qM2 : SS), f8_value N a1 a2 a3 qC = some (r, qC2) ∧ f9_value N a1 a2 a3 qM = some (r, qM2) ∧ Sim qC2 qM2
def Op_idle (N : Nat) (Sim : SS → SS → Prop) : Prop := ∀ (a1 : Int32) (a2 : Int32) (qC qM : SS), Sim qC qM → ∃ (r : Int32) (qC2 : SS) (qM2 : SS), f8_idle N a1 a2 qC = some (r, qC2) ∧ f9_idle N a1 a2 qM = some (r, qM2) ∧ Sim qC2 qM2
def Op_letters (N : Nat) (Sim : SS → SS → Prop) : Prop := ∀ (a1 : Int64) (qC qM : SS), Sim qC qM → ∃ (r : Int32) (qC2 : SS) (qM2 : SS), f8_letters N a1 qC = some (r, qC2) ∧ f9_letters N a1 qM = some (r, qM2) ∧ Sim qC2 qM2
def Op_blank (N : Nat) (Sim : SS → SS → Prop) : Prop := ∀ (qC qM : SS), Sim qC qM → ∃ (r : Int32) (qC2 : SS) (qM2 : SS), f8_blank qC = some (r, qC2) ∧ f9_blank qM = some (r, qM2) ∧ Sim qC2 qM2
def Op_good (N : Nat) (Sim : SS → SS → Prop) : Prop := ∀ (qC qM : SS), Sim qC qM → ∃ (r : Int32) (qC2 : SS) (qM2 : SS), f8_good N qC = some (r, qC2) ∧ f9_good N qM = some (r, qM2) ∧ Sim qC2 qM2
def Op_plan (N : Nat) (Sim : SS → SS → Prop) : Prop := ∀ (a1 : Int32) (a2 : Int32) (qC qM : SS), Sim qC qM → ∃ (r : Int32) (qC2 : SS) (qM2 : SS), f8_plan N a1 a2 qC = some (r, qC2) ∧ f9_plan N a1 a2 qM = some (r, qM2) ∧ Sim qC2 qM2
def Op_best (N : Nat) (Sim : SS → SS → Prop) : Prop := ∀ (a1 : Int32) (a2 : Int32) (a3 : Int32) (a4 : Int32) (qC qM : SS), Sim qC qM → ∃ (r : Int32) (qC2 : SS) (qM2 : SS), f8_best N a1 a2 a3 a4 qC = some (r, qC2) ∧ f9_best N a1 a2 a3 a4 qM = some (r, qM2) ∧ Sim qC2 qM2
def Op_sign (N : Nat) (Sim : SS → SS → Prop) : Prop := ∀ (a1 : Int32) (a2 : Int32) (a3 : Int32) (a4 : Int32) (a5 : Int32) (qC qM : SS), Sim qC qM → ∃ (r : Int32) (qC2 : SS) (qM2 : SS), f8_sign N a1 a2 a3 a4 a5 qC = some (r, qC2) ∧ f9_sign N a1 a2 a3 a4 a5 qM = some (r, qM2) ∧ Sim qC2 qM2
def Op_regret (N : Nat) (Sim : SS → SS → Prop) : Prop := ∀ (a1 : Int32) (a2 : Int32) (qC qM : SS), Sim qC qM → ∃ (r : Int32) (qC2 : SS) (qM2 : SS), f8_regret N a1 a2 qC = some (r, qC2) ∧ f9_regret N a1 a2 qM = some (r, qM2) ∧ Sim qC2 qM2
def Op_hangs (N : Nat) (Sim : SS → SS → Prop) : Prop := ∀ (a1 : Int32) (qC qM : SS), Sim qC qM → ∃ (r : Int32) (qC2 : SS) (qM2 : SS), f8_hangs N a1 qC = some (r, qC2) ∧ f9_hangs N a1 qM = some (r, qM2) ∧ Sim qC2 qM2
def Op_goes (N : Nat) (Sim : SS → SS → Prop) : Prop := ∀ (a1 : Int32) (a2 : Int32) (qC qM : SS), Sim qC qM → ∃ (r : Int32) (qC2 : SS) (qM2 : SS), f8_goes N a1 a2 qC = some (r, qC2) ∧ f9_goes N a1 a2 qM = some (r, qM2) ∧ Sim qC2 qM2
def Op_on (N : Nat) (Sim : SS → SS → Prop) : Prop := ∀ (a1 : Int32) (a2 : Int32) (qC qM : SS), Sim qC qM → ∃ (r : Int32) (qC2 : SS) (qM2 : SS), f8_on N a1 a2 qC = some (r, qC2) ∧ f9_on N a1 a2 qM = some (r, qM2) ∧ Sim qC2 qM2
def Op_left (N : Nat) (Sim : SS → SS → Prop) : Prop := ∀ (a1 : Int32) (a2 : Int32) (qC qM : SS), Sim qC qM → ∃ (r : Int32) (qC2 : SS) (qM2 : SS), f8_left N a1 a2 qC = some (r, qC2) ∧ f9_left N a1 a2 qM = some (r, qM2) ∧ Sim qC2 qM2
def Op_steps (N : Nat) (Sim : SS → SS → Prop) : Prop := ∀ (a1 : Int32) (qC qM : SS), Sim qC qM → ∃ (r : Int32) (qC2 : SS) (qM2 : SS), f8_steps N a1 qC = some (r, qC2) ∧ f9_steps N a1 qM = some (r, qM2) ∧ Sim qC2 qM2
def Op_cover (N : Nat) (Sim : SS → SS → Prop) : Prop := ∀ (a1 : Int32) (qC qM : SS), Sim qC qM → ∃ (r : Int32), f8_cover N qC a1 = some r ∧ f9_cover N qM a1 = some r ∧ Sim qC qM
def Op_count (N : Nat) (Sim : SS → SS → Prop) : Prop := ∀ (a1 : Int32) (qC qM : SS), Sim qC qM → ∃ (r : Int32), f8_count N qC a1 = some r ∧ f9_count N qM a1 = some r ∧ Sim qC qM
def Op_digest (N : Nat) (Sim : SS → SS → Prop) : Prop := ∀ (qC qM : SS), Sim qC qM → ∃ (r : Int64) (qC2 : SS) (qM2 : SS), f8_digest N qC = some (r, qC2) ∧ f9_digest N qM = some (r, qM2) ∧ Sim qC2 qM2
def OpsOk (N : Nat) (Sim : SS → SS → Prop) : Prop := Op_table N Sim ∧ Op_row N Sim ∧ Op_fill N Sim ∧ Op_drop N Sim ∧ Op_sort N Sim ∧ Op_get N Sim ∧ Op_about N Sim ∧ Op_unlike N Sim ∧ Op_rule N Sim ∧ Op_size N Sim ∧ Op_pages N Sim ∧ Op_joined N Sim ∧ Op_value N Sim ∧ Op_idle N Sim ∧ Op_letters N Sim ∧ Op_blank N Sim ∧ Op_good N Sim ∧ Op_plan N Sim ∧ Op_best N Sim ∧ Op_sign N Sim ∧ Op_regret N Sim ∧ Op_hangs N Sim ∧ Op_goes N Sim ∧ Op_on N Sim ∧ Op_left N Sim ∧ Op_steps N Sim ∧ Op_cover N Sim ∧ Op_count N Sim ∧ Op_digest N Sim
theorem lk_b6 : (Int8.ofInt 6).toInt32 = (6 : Int32) := by decide
theorem lk_b31 : (Int8.ofInt 31).toInt32 = (31 : Int32) := by decide
theorem lk_i1 : Int32.ofInt 1 = (1 : Int32) := by decide
theorem lk_i6 : Int32.ofInt 6 = (6 : Int32) := by decide
theorem law_cmp {L i : Nat} {x3 : Int32} (hL : L ≤ 3072) (hi : i ≤ L) (h : L < i + 6) (ex : x3 = nI i) : nI L - 6 < x3 := by
  rw [ex, Int32.lt_iff_toInt_lt, nI_toInt (by omega), show (6 : Int32) = nI 6 from rfl, pk_sub_toInt (by omega) (by omega)]
  omega
theorem l_sub {adC adM : Nat → Nat} {b L : Nat} {xs : Nat → Int32} {J : LT} {lv lv' : List (Nat × Value)} {st : List Value} {qC qM : SS} {pc : Nat} (hR : RLw adC adM b L xs J) (ks : List Nat) (hlv : lv_pick lv ks = lv') (k : J lv' st qC qM pc) : J lv st qC qM pc := by
  obtain ⟨p, l, e, s, m, below, meth, c, D, cI, cJ, hfix, hret, hlk, hX, hbl, hN, rfl⟩ := hR
  intro H locs ls hw hl
  exact k H locs ls hw (lv_sub hl ks hlv)
theorem law_table {adC adM : Nat → Nat} {b L : Nat} {xs : Nat → Int32} {J : LT} (hR : RLw adC adM b L xs J) {N : Nat} {Sim : SS → SS → Prop} (ho : Op_table N Sim) {qC qM : SS} (hs : Sim qC qM) {x3 : Int32} (h1 : vp_in (x3 + 1) L) (h2 : vp_in (x3 + 2) L) (h3 : vp_in (x3 + 3) L) (h4 : vp_in (x3 + 4) L) (h5 : vp_in (x3 + 5) L) (hk : ∀ qC2 qM2, Sim qC2 qM2 → J [(0, .ref b), (1, .ref (adC 0)), (2, .ref (adM 0)), (3, .int x3)] [] qC2 qM2 1162) : J [(0, .ref b), (1, .ref (adC 0)), (2, .ref (adM 0)), (3, .int x3)] [] qC qM 164 := by
  obtain ⟨r, qC2, qM2, e1, e2, hs2⟩ := ho (xs (ix (x3 + (1 : Int32)))) (xs (ix (x3 + (2 : Int32)))) qC qM hs
  refine l_aload hR dL_law_164 rfl 1 rfl ?_
  refine l_aload hR dL_law_165 rfl 0 rfl ?_
  refine l_iload hR dL_law_166 rfl 3 rfl ?_
  refine l_iconst hR dL_law_167 kc_iconst_1 ?_
  refine l_iadd hR dL_law_168 ?_
  refine l_sld hR dL_law_169 h1 ?_
  refine l_aload hR dL_law_170 rfl 0 rfl ?_
  refine l_iload hR dL_law_171 rfl 3 rfl ?_
  refine l_iconst hR dL_law_172 kc_iconst_2 ?_
  refine l_iadd hR dL_law_173 ?_
  refine l_sld hR dL_law_174 h2 ?_
  refine l_callCi hR (np := 2) (q1 := qC2) (c8_table e1) ⟨wl_1_223, wl_1_1, wl_1_226, by decide +kernel, by decide, by decide⟩ ⟨wl_1_224, wl_1_225⟩ (As := [.int (xs (ix (x3 + (1 : Int32)))), .int (xs (ix (x3 + (2 : Int32))))]) rfl rfl rfl (Nat.le_of_ble_eq_true rfl) rfl dL_law_175 ?_
  refine l_aload hR dL_law_178 rfl 2 rfl ?_
  refine l_aload hR dL_law_179 rfl 0 rfl ?_
  refine l_iload hR dL_law_180 rfl 3 rfl ?_
  refine l_iconst hR dL_law_181 kc_iconst_1 ?_
  refine l_iadd hR dL_law_182 ?_
  refine l_sld hR dL_law_183 h1 ?_
  refine l_aload hR dL_law_184 rfl 0 rfl ?_
  refine l_iload hR dL_law_185 rfl 3 rfl ?_
  refine l_iconst hR dL_law_186 kc_iconst_2 ?_
  refine l_iadd hR dL_law_187 ?_
  refine l_sld hR dL_law_188 h2 ?_
  refine l_callMi hR (np := 2) (q1 := qM2) (c9_table N e2) ⟨wl_5_0, wl_1_8, wl_5_3, by decide +kernel, by decide, by decide⟩ ⟨wl_5_1, wl_5_2⟩ (As := [.int (xs (ix (x3 + (1 : Int32)))), .int (xs (ix (x3 + (2 : Int32))))]) rfl rfl rfl (Nat.le_of_ble_eq_true rfl) rfl dL_law_189 ?_
  exact l_icmp_eq hR (tgt := 1162) dL_law_192 (by decide) (hk _ _ hs2)
theorem law_row {adC adM : Nat → Nat} {b L : Nat} {xs : Nat → Int32} {J : LT} (hR : RLw adC adM b L xs J) {N : Nat} {Sim : SS → SS → Prop} (ho : Op_row N Sim) {qC qM : SS} (hs : Sim qC qM) {x3 : Int32} (h1 : vp_in (x3 + 1) L) (h2 : vp_in (x3 + 2) L) (h3 : vp_in (x3 + 3) L) (h4 : vp_in (x3 + 4) L) (h5 : vp_in (x3 + 5) L) (hk : ∀ qC2 qM2, Sim qC2 qM2 → J [(0, .ref b), (1, .ref (adC 0)), (2, .ref (adM 0)), (3, .int x3)] [] qC2 qM2 1162) : J [(0, .ref b), (1, .ref (adC 0)), (2, .ref (adM 0)), (3, .int x3)] [] qC qM 197 := by
  obtain ⟨r, qC2, qM2, e1, e2, hs2⟩ := ho (xs (ix (x3 + (1 : Int32)))) (xs (ix (x3 + (2 : Int32)))) (xs (ix (x3 + (3 : Int32)))) (xs (ix (x3 + (4 : Int32)))) qC qM hs
  refine l_aload hR dL_law_197 rfl 1 rfl ?_
  refine l_aload hR dL_law_198 rfl 0 rfl ?_
  refine l_iload hR dL_law_199 rfl 3 rfl ?_
  refine l_iconst hR dL_law_200 kc_iconst_1 ?_
  refine l_iadd hR dL_law_201 ?_
  refine l_sld hR dL_law_202 h1 ?_
  refine l_aload hR dL_law_203 rfl 0 rfl ?_
  refine l_iload hR dL_law_204 rfl 3 rfl ?_
  refine l_iconst hR dL_law_205 kc_iconst_2 ?_
  refine l_iadd hR dL_law_206 ?_
  refine l_sld hR dL_law_207 h2 ?_
  refine l_aload hR dL_law_208 rfl 0 rfl ?_
  refine l_iload hR dL_law_209 rfl 3 rfl ?_
  refine l_iconst hR dL_law_210 kc_iconst_3 ?_
  refine l_iadd hR dL_law_211 ?_
  refine l_sld hR dL_law_212 h3 ?_
  refine l_aload hR dL_law_213 rfl 0 rfl ?_
  refine l_iload hR dL_law_214 rfl 3 rfl ?_
  refine l_iconst hR dL_law_215 kc_iconst_4 ?_
  refine l_iadd hR dL_law_216 ?_
  refine l_sld hR dL_law_217 h4 ?_
  refine l_callCi hR (np := 4) (q1 := qC2) (c8_row N e1) ⟨wl_1_237, wl_1_1, wl_2_0, by decide +kernel, by decide, by decide⟩ ⟨wl_1_238, wl_1_239⟩ (As := [.int (xs (ix (x3 + (1 : Int32)))), .int (xs (ix (x3 + (2 : Int32)))), .int (xs (ix (x3 + (3 : Int32)))), .int (xs (ix (x3 + (4 : Int32))))]) rfl rfl rfl (Nat.le_of_ble_eq_true rfl) rfl dL_law_218 ?_
  refine l_aload hR dL_law_221 rfl 2 rfl ?_
  refine l_aload hR dL_law_222 rfl 0 rfl ?_
  refine l_iload hR dL_law_223 rfl 3 rfl ?_
  refine l_iconst hR dL_law_224 kc_iconst_1 ?_
  refine l_iadd hR dL_law_225 ?_
  refine l_sld hR dL_law_226 h1 ?_
  refine l_aload hR dL_law_227 rfl 0 rfl ?_
  refine l_iload hR dL_law_228 rfl 3 rfl ?_
  refine l_iconst hR dL_law_229 kc_iconst_2 ?_
  refine l_iadd hR dL_law_230 ?_
  refine l_sld hR dL_law_231 h2 ?_
  refine l_aload hR dL_law_232 rfl 0 rfl ?_
  refine l_iload hR dL_law_233 rfl 3 rfl ?_
  refine l_iconst hR dL_law_234 kc_iconst_3 ?_
  refine l_iadd hR dL_law_235 ?_
  refine l_sld hR dL_law_236 h3 ?_
  refine l_aload hR dL_law_237 rfl 0 rfl ?_
  refine l_iload hR dL_law_238 rfl 3 rfl ?_
  refine l_iconst hR dL_law_239 kc_iconst_4 ?_
  refine l_iadd hR dL_law_240 ?_
  refine l_sld hR dL_law_241 h4 ?_
  refine l_callMi hR (np := 4) (q1 := qM2) (c9_row N e2) ⟨wl_5_12, wl_1_8, wl_5_15, by decide +kernel, by decide, by decide⟩ ⟨wl_5_13, wl_5_14⟩ (As := [.int (xs (ix (x3 + (1 : Int32)))), .int (xs (ix (x3 + (2 : Int32)))), .int (xs (ix (x3 + (3 : Int32)))), .int (xs (ix (x3 + (4 : Int32))))]) rfl rfl rfl (Nat.le_of_ble_eq_true rfl) rfl dL_law_242 ?_
  exact l_icmp_eq hR (tgt := 1162) dL_law_245 (by decide) (hk _ _ hs2)
theorem law_fill {adC adM : Nat → Nat} {b L : Nat} {xs : Nat → Int32} {J : LT} (hR : RLw adC adM b L xs J) {N : Nat} {Sim : SS → SS → Prop} (ho : Op_fill N Sim) {qC qM : SS} (hs : Sim qC qM) {x3 : Int32} (h1 : vp_in (x3 + 1) L) (h2 : vp_in (x3 + 2) L) (h3 : vp_in (x3 + 3) L) (h4 : vp_in (x3 + 4) L) (h5 : vp_in (x3 + 5) L) (hk : ∀ qC2 qM2, Sim qC2 qM2 → J [(0, .ref b), (1, .ref (adC 0)), (2, .ref (adM 0)), (3, .int x3)] [] qC2 qM2 1162) : J [(0, .ref b), (1, .ref (adC 0)), (2, .ref (adM 0)), (3, .int x3)] [] qC qM 250 := by
  obtain ⟨r, qC2, qM2, e1, e2, hs2⟩ := ho (xs (ix (x3 + (1 : Int32)))) (xs (ix (x3 + (2 : Int32)))) (xs (ix (x3 + (3 : Int32)))) (xs (ix (x3 + (4 : Int32)))) qC qM hs
  refine l_aload hR dL_law_250 rfl 1 rfl ?_
  refine l_aload hR dL_law_251 rfl 0 rfl ?_
  refine l_iload hR dL_law_252 rfl 3 rfl ?_
  refine l_iconst hR dL_law_253 kc_iconst_1 ?_
  refine l_iadd hR dL_law_254 ?_
  refine l_sld hR dL_law_255 h1 ?_
  refine l_aload hR dL_law_256 rfl 0 rfl ?_
  refine l_iload hR dL_law_257 rfl 3 rfl ?_
  refine l_iconst hR dL_law_258 kc_iconst_2 ?_
  refine l_iadd hR dL_law_259 ?_
  refine l_sld hR dL_law_260 h2 ?_
  refine l_aload hR dL_law_261 rfl 0 rfl ?_
  refine l_iload hR dL_law_262 rfl 3 rfl ?_
  refine l_iconst hR dL_law_263 kc_iconst_3 ?_
  refine l_iadd hR dL_law_264 ?_
  refine l_sld hR dL_law_265 h3 ?_
  refine l_aload hR dL_law_266 rfl 0 rfl ?_
  refine l_iload hR dL_law_267 rfl 3 rfl ?_
  refine l_iconst hR dL_law_268 kc_iconst_4 ?_
  refine l_iadd hR dL_law_269 ?_
  refine l_sld hR dL_law_270 h4 ?_
  refine l_callCi hR (np := 4) (q1 := qC2) (c8_fill N e1) ⟨wl_2_24, wl_1_1, wl_2_27, by decide +kernel, by decide, by decide⟩ ⟨wl_2_25, wl_2_26⟩ (As := [.int (xs (ix (x3 + (1 : Int32)))), .int (xs (ix (x3 + (2 : Int32)))), .int (xs (ix (x3 + (3 : Int32)))), .int (xs (ix (x3 + (4 : Int32))))]) rfl rfl rfl (Nat.le_of_ble_eq_true rfl) rfl dL_law_271 ?_
  refine l_aload hR dL_law_274 rfl 2 rfl ?_
  refine l_aload hR dL_law_275 rfl 0 rfl ?_
  refine l_iload hR dL_law_276 rfl 3 rfl ?_
  refine l_iconst hR dL_law_277 kc_iconst_1 ?_
  refine l_iadd hR dL_law_278 ?_
  refine l_sld hR dL_law_279 h1 ?_
  refine l_aload hR dL_law_280 rfl 0 rfl ?_
  refine l_iload hR dL_law_281 rfl 3 rfl ?_
  refine l_iconst hR dL_law_282 kc_iconst_2 ?_
  refine l_iadd hR dL_law_283 ?_
  refine l_sld hR dL_law_284 h2 ?_
  refine l_aload hR dL_law_285 rfl 0 rfl ?_
  refine l_iload hR dL_law_286 rfl 3 rfl ?_
  refine l_iconst hR dL_law_287 kc_iconst_3 ?_
  refine l_iadd hR dL_law_288 ?_
  refine l_sld hR dL_law_289 h3 ?_
  refine l_aload hR dL_law_290 rfl 0 rfl ?_
  refine l_iload hR dL_law_291 rfl 3 rfl ?_
  refine l_iconst hR dL_law_292 kc_iconst_4 ?_
  refine l_iadd hR dL_law_293 ?_
  refine l_sld hR dL_law_294 h4 ?_
  refine l_callMi hR (np := 4) (q1 := qM2) (c9_fill N e2) ⟨wl_5_33, wl_1_8, wl_5_36, by decide +kernel, by decide, by decide⟩ ⟨wl_5_34, wl_5_35⟩ (As := [.int (xs (ix (x3 + (1 : Int32)))), .int (xs (ix (x3 + (2 : Int32)))), .int (xs (ix (x3 + (3 : Int32)))), .int (xs (ix (x3 + (4 : Int32))))]) rfl rfl rfl (Nat.le_of_ble_eq_true rfl) rfl dL_law_295 ?_
  exact l_icmp_eq hR (tgt := 1162) dL_law_298 (by decide) (hk _ _ hs2)
theorem law_drop {adC adM : Nat → Nat} {b L : Nat} {xs : Nat → Int32} {J : LT} (hR : RLw adC adM b L xs J) {N : Nat} {Sim : SS → SS → Prop} (ho : Op_drop N Sim) {qC qM : SS} (hs : Sim qC qM) {x3 : Int32} (h1 : vp_in (x3 + 1) L) (h2 : vp_in (x3 + 2) L) (h3 : vp_in (x3 + 3) L) (h4 : vp_in (x3 + 4) L) (h5 : vp_in (x3 + 5) L) (hk : ∀ qC2 qM2, Sim qC2 qM2 → J [(0, .ref b), (1, .ref (adC 0)), (2, .ref (adM 0)), (3, .int x3)] [] qC2 qM2 1162) : J [(0, .ref b), (1, .ref (adC 0)), (2, .ref (adM 0)), (3, .int x3)] [] qC qM 303 := by
  obtain ⟨r, qC2, qM2, e1, e2, hs2⟩ := ho (xs (ix (x3 + (1 : Int32)))) (xs (ix (x3 + (2 : Int32)))) qC qM hs
  refine l_aload hR dL_law_303 rfl 1 rfl ?_
  refine l_aload hR dL_law_304 rfl 0 rfl ?_
  refine l_iload hR dL_law_305 rfl 3 rfl ?_
  refine l_iconst hR dL_law_306 kc_iconst_1 ?_
  refine l_iadd hR dL_law_307 ?_
  refine l_sld hR dL_law_308 h1 ?_
  refine l_aload hR dL_law_309 rfl 0 rfl ?_
  refine l_iload hR dL_law_310 rfl 3 rfl ?_
  refine l_iconst hR dL_law_311 kc_iconst_2 ?_
  refine l_iadd hR dL_law_312 ?_
  refine l_sld hR dL_law_313 h2 ?_
  refine l_callCi hR (np := 2) (q1 := qC2) (c8_drop N e1) ⟨wl_2_45, wl_1_1, wl_2_48, by decide +kernel, by decide, by decide⟩ ⟨wl_2_46, wl_2_47⟩ (As := [.int (xs (ix (x3 + (1 : Int32)))), .int (xs (ix (x3 + (2 : Int32))))]) rfl rfl rfl (Nat.le_of_ble_eq_true rfl) rfl dL_law_314 ?_
  refine l_aload hR dL_law_317 rfl 2 rfl ?_
  refine l_aload hR dL_law_318 rfl 0 rfl ?_
  refine l_iload hR dL_law_319 rfl 3 rfl ?_
  refine l_iconst hR dL_law_320 kc_iconst_1 ?_
  refine l_iadd hR dL_law_321 ?_
  refine l_sld hR dL_law_322 h1 ?_
  refine l_aload hR dL_law_323 rfl 0 rfl ?_
  refine l_iload hR dL_law_324 rfl 3 rfl ?_
  refine l_iconst hR dL_law_325 kc_iconst_2 ?_
  refine l_iadd hR dL_law_326 ?_
  refine l_sld hR dL_law_327 h2 ?_
  refine l_callMi hR (np := 2) (q1 := qM2) (c9_drop N e2) ⟨wl_5_43, wl_1_8, wl_5_46, by decide +kernel, by decide, by decide⟩ ⟨wl_5_44, wl_5_45⟩ (As := [.int (xs (ix (x3 + (1 : Int32)))), .int (xs (ix (x3 + (2 : Int32))))]) rfl rfl rfl (Nat.le_of_ble_eq_true rfl) rfl dL_law_328 ?_
  exact l_icmp_eq hR (tgt := 1162) dL_law_331 (by decide) (hk _ _ hs2)
theorem law_sort {adC adM : Nat → Nat} {b L : Nat} {xs : Nat → Int32} {J : LT} (hR : RLw adC adM b L xs J) {N : Nat} {Sim : SS → SS → Prop} (ho : Op_sort N Sim) {qC qM : SS} (hs : Sim qC qM) {x3 : Int32} (h1 : vp_in (x3 + 1) L) (h2 : vp_in (x3 + 2) L) (h3 : vp_in (x3 + 3) L) (h4 : vp_in (x3 + 4) L) (h5 : vp_in (x3 + 5) L) (hk : ∀ qC2 qM2, Sim qC2 qM2 → J [(0, .ref b), (1, .ref (adC 0)), (2, .ref (adM 0)), (3, .int x3)] [] qC2 qM2 1162) : J [(0, .ref b), (1, .ref (adC 0)), (2, .ref (adM 0)), (3, .int x3)] [] qC qM 336 := by
  obtain ⟨r, qC2, qM2, e1, e2, hs2⟩ := ho (xs (ix (x3 + (1 : Int32)))) (xs (ix (x3 + (2 : Int32)))) qC qM hs
  refine l_aload hR dL_law_336 rfl 1 rfl ?_
  refine l_aload hR dL_law_337 rfl 0 rfl ?_
  refine l_iload hR dL_law_338 rfl 3 rfl ?_
  refine l_iconst hR dL_law_339 kc_iconst_1 ?_
  refine l_iadd hR dL_law_340 ?_
  refine l_sld hR dL_law_341 h1 ?_
  refine l_aload hR dL_law_342 rfl 0 rfl ?_
  refine l_iload hR dL_law_343 rfl 3 rfl ?_
  refine l_iconst hR dL_law_344 kc_iconst_2 ?_
  refine l_iadd hR dL_law_345 ?_
  refine l_sld hR dL_law_346 h2 ?_
  refine l_callCi hR (np := 2) (q1 := qC2) (c8_sort N e1) ⟨wl_2_58, wl_1_1, wl_2_61, by decide +kernel, by decide, by decide⟩ ⟨wl_2_59, wl_2_60⟩ (As := [.int (xs (ix (x3 + (1 : Int32)))), .int (xs (ix (x3 + (2 : Int32))))]) rfl rfl rfl (Nat.le_of_ble_eq_true rfl) rfl dL_law_347 ?_
  refine l_aload hR dL_law_350 rfl 2 rfl ?_
  refine l_aload hR dL_law_351 rfl 0 rfl ?_
  refine l_iload hR dL_law_352 rfl 3 rfl ?_
  refine l_iconst hR dL_law_353 kc_iconst_1 ?_
  refine l_iadd hR dL_law_354 ?_
  refine l_sld hR dL_law_355 h1 ?_
  refine l_aload hR dL_law_356 rfl 0 rfl ?_
  refine l_iload hR dL_law_357 rfl 3 rfl ?_
  refine l_iconst hR dL_law_358 kc_iconst_2 ?_
  refine l_iadd hR dL_law_359 ?_
  refine l_sld hR dL_law_360 h2 ?_
  refine l_callMi hR (np := 2) (q1 := qM2) (c9_sort N e2) ⟨wl_5_51, wl_1_8, wl_5_54, by decide +kernel, by decide, by decide⟩ ⟨wl_5_52, wl_5_53⟩ (As := [.int (xs (ix (x3 + (1 : Int32)))), .int (xs (ix (x3 + (2 : Int32))))]) rfl rfl rfl (Nat.le_of_ble_eq_true rfl) rfl dL_law_361 ?_
  exact l_icmp_eq hR (tgt := 1162) dL_law_364 (by decide) (hk _ _ hs2)
theorem law_get {adC adM : Nat → Nat} {b L : Nat} {xs : Nat → Int32} {J : LT} (hR : RLw adC adM b L xs J) {N : Nat} {Sim : SS → SS → Prop} (ho : Op_get N Sim) {qC qM : SS} (hs : Sim qC qM) {x3 : Int32} (h1 : vp_in (x3 + 1) L) (h2 : vp_in (x3 + 2) L) (h3 : vp_in (x3 + 3) L) (h4 : vp_in (x3 + 4) L) (h5 : vp_in (x3 + 5) L) (hk : ∀ qC2 qM2, Sim qC2 qM2 → J [(0, .ref b), (1, .ref (adC 0)), (2, .ref (adM 0)), (3, .int x3)] [] qC2 qM2 1162) : J [(0, .ref b), (1, .ref (adC 0)), (2, .ref (adM 0)), (3, .int x3)] [] qC qM 369 := by
  obtain ⟨r, e1, e2, hs2⟩ := ho (xs (ix (x3 + (1 : Int32)))) (xs (ix (x3 + (2 : Int32)))) (xs (ix (x3 + (3 : Int32)))) qC qM hs
  refine l_aload hR dL_law_369 rfl 1 rfl ?_
  refine l_aload hR dL_law_370 rfl 0 rfl ?_
  refine l_iload hR dL_law_371 rfl 3 rfl ?_
  refine l_iconst hR dL_law_372 kc_iconst_1 ?_
  refine l_iadd hR dL_law_373 ?_
  refine l_sld hR dL_law_374 h1 ?_
  refine l_aload hR dL_law_375 rfl 0 rfl ?_
  refine l_iload hR dL_law_376 rfl 3 rfl ?_
  refine l_iconst hR dL_law_377 kc_iconst_2 ?_
  refine l_iadd hR dL_law_378 ?_
  refine l_sld hR dL_law_379 h2 ?_
  refine l_aload hR dL_law_380 rfl 0 rfl ?_
  refine l_iload hR dL_law_381 rfl 3 rfl ?_
  refine l_iconst hR dL_law_382 kc_iconst_3 ?_
  refine l_iadd hR dL_law_383 ?_
  refine l_sld hR dL_law_384 h3 ?_
  refine l_callCi hR (np := 3) (q1 := qC) (c8_get e1) ⟨wl_2_78, wl_1_1, wl_2_81, by decide +kernel, by decide, by decide⟩ ⟨wl_2_79, wl_2_80⟩ (As := [.int (xs (ix (x3 + (1 : Int32)))), .int (xs (ix (x3 + (2 : Int32)))), .int (xs (ix (x3 + (3 : Int32))))]) rfl rfl rfl (Nat.le_of_ble_eq_true rfl) rfl dL_law_385 ?_
  refine l_aload hR dL_law_388 rfl 2 rfl ?_
  refine l_aload hR dL_law_389 rfl 0 rfl ?_
  refine l_iload hR dL_law_390 rfl 3 rfl ?_
  refine l_iconst hR dL_law_391 kc_iconst_1 ?_
  refine l_iadd hR dL_law_392 ?_
  refine l_sld hR dL_law_393 h1 ?_
  refine l_aload hR dL_law_394 rfl 0 rfl ?_
  refine l_iload hR dL_law_395 rfl 3 rfl ?_
  refine l_iconst hR dL_law_396 kc_iconst_2 ?_
  refine l_iadd hR dL_law_397 ?_
  refine l_sld hR dL_law_398 h2 ?_
  refine l_aload hR dL_law_399 rfl 0 rfl ?_
  refine l_iload hR dL_law_400 rfl 3 rfl ?_
  refine l_iconst hR dL_law_401 kc_iconst_3 ?_
  refine l_iadd hR dL_law_402 ?_
  refine l_sld hR dL_law_403 h3 ?_
  refine l_callMi hR (np := 3) (q1 := qM) (c9_get e2) ⟨wl_5_56, wl_1_8, wl_5_59, by decide +kernel, by decide, by decide⟩ ⟨wl_5_57, wl_5_58⟩ (As := [.int (xs (ix (x3 + (1 : Int32)))), .int (xs (ix (x3 + (2 : Int32)))), .int (xs (ix (x3 + (3 : Int32))))]) rfl rfl rfl (Nat.le_of_ble_eq_true rfl) rfl dL_law_404 ?_
  exact l_icmp_eq hR (tgt := 1162) dL_law_407 (by decide) (hk _ _ hs2)
theorem law_about {adC adM : Nat → Nat} {b L : Nat} {xs : Nat → Int32} {J : LT} (hR : RLw adC adM b L xs J) {N : Nat} {Sim : SS → SS → Prop} (ho : Op_about N Sim) {qC qM : SS} (hs : Sim qC qM) {x3 : Int32} (h1 : vp_in (x3 + 1) L) (h2 : vp_in (x3 + 2) L) (h3 : vp_in (x3 + 3) L) (h4 : vp_in (x3 + 4) L) (h5 : vp_in (x3 + 5) L) (hk : ∀ qC2 qM2, Sim qC2 qM2 → J [(0, .ref b), (1, .ref (adC 0)), (2, .ref (adM 0)), (3, .int x3)] [] qC2 qM2 1162) : J [(0, .ref b), (1, .ref (adC 0)), (2, .ref (adM 0)), (3, .int x3)] [] qC qM 412 := by
  obtain ⟨r, e1, e2, hs2⟩ := ho (xs (ix (x3 + (1 : Int32)))) (xs (ix (x3 + (2 : Int32)))) qC qM hs
  refine l_aload hR dL_law_412 rfl 1 rfl ?_
  refine l_aload hR dL_law_413 rfl 0 rfl ?_
  refine l_iload hR dL_law_414 rfl 3 rfl ?_
  refine l_iconst hR dL_law_415 kc_iconst_1 ?_
  refine l_iadd hR dL_law_416 ?_
  refine l_sld hR dL_law_417 h1 ?_
  refine l_aload hR dL_law_418 rfl 0 rfl ?_
  refine l_iload hR dL_law_419 rfl 3 rfl ?_
  refine l_iconst hR dL_law_420 kc_iconst_2 ?_
  refine l_iadd hR dL_law_421 ?_
  refine l_sld hR dL_law_422 h2 ?_
  refine l_callCi hR (np := 2) (q1 := qC) (c8_about N e1) ⟨wl_2_87, wl_1_1, wl_2_90, by decide +kernel, by decide, by decide⟩ ⟨wl_2_88, wl_2_89⟩ (As := [.int (xs (ix (x3 + (1 : Int32)))), .int (xs (ix (x3 + (2 : Int32))))]) rfl rfl rfl (Nat.le_of_ble_eq_true rfl) rfl dL_law_423 ?_
  refine l_aload hR dL_law_426 rfl 2 rfl ?_
  refine l_aload hR dL_law_427 rfl 0 rfl ?_
  refine l_iload hR dL_law_428 rfl 3 rfl ?_
  refine l_iconst hR dL_law_429 kc_iconst_1 ?_
  refine l_iadd hR dL_law_430 ?_
  refine l_sld hR dL_law_431 h1 ?_
  refine l_aload hR dL_law_432 rfl 0 rfl ?_
  refine l_iload hR dL_law_433 rfl 3 rfl ?_
  refine l_iconst hR dL_law_434 kc_iconst_2 ?_
  refine l_iadd hR dL_law_435 ?_
  refine l_sld hR dL_law_436 h2 ?_
  refine l_callMi hR (np := 2) (q1 := qM) (c9_about N e2) ⟨wl_5_60, wl_1_8, wl_5_63, by decide +kernel, by decide, by decide⟩ ⟨wl_5_61, wl_5_62⟩ (As := [.int (xs (ix (x3 + (1 : Int32)))), .int (xs (ix (x3 + (2 : Int32))))]) rfl rfl rfl (Nat.le_of_ble_eq_true rfl) rfl dL_law_437 ?_
  exact l_icmp_eq hR (tgt := 1162) dL_law_440 (by decide) (hk _ _ hs2)
theorem law_unlike {adC adM : Nat → Nat} {b L : Nat} {xs : Nat → Int32} {J : LT} (hR : RLw adC adM b L xs J) {N : Nat} {Sim : SS → SS → Prop} (ho : Op_unlike N Sim) {qC qM : SS} (hs : Sim qC qM) {x3 : Int32} (h1 : vp_in (x3 + 1) L) (h2 : vp_in (x3 + 2) L) (h3 : vp_in (x3 + 3) L) (h4 : vp_in (x3 + 4) L) (h5 : vp_in (x3 + 5) L) (hk : ∀ qC2 qM2, Sim qC2 qM2 → J [(0, .ref b), (1, .ref (adC 0)), (2, .ref (adM 0)), (3, .int x3)] [] qC2 qM2 1162) : J [(0, .ref b), (1, .ref (adC 0)), (2, .ref (adM 0)), (3, .int x3)] [] qC qM 445 := by
  obtain ⟨r, e1, e2, hs2⟩ := ho (xs (ix (x3 + (1 : Int32)))) (xs (ix (x3 + (2 : Int32)))) qC qM hs
  refine l_aload hR dL_law_445 rfl 1 rfl ?_
  refine l_aload hR dL_law_446 rfl 0 rfl ?_
  refine l_iload hR dL_law_447 rfl 3 rfl ?_
  refine l_iconst hR dL_law_448 kc_iconst_1 ?_
  refine l_iadd hR dL_law_449 ?_
  refine l_sld hR dL_law_450 h1 ?_
  refine l_aload hR dL_law_451 rfl 0 rfl ?_
  refine l_iload hR dL_law_452 rfl 3 rfl ?_
  refine l_iconst hR dL_law_453 kc_iconst_2 ?_
  refine l_iadd hR dL_law_454 ?_
  refine l_sld hR dL_law_455 h2 ?_
  refine l_callCi hR (np := 2) (q1 := qC) (c8_unlike N e1) ⟨wl_2_111, wl_1_1, wl_2_114, by decide +kernel, by decide, by decide⟩ ⟨wl_2_112, wl_2_113⟩ (As := [.int (xs (ix (x3 + (1 : Int32)))), .int (xs (ix (x3 + (2 : Int32))))]) rfl rfl rfl (Nat.le_of_ble_eq_true rfl) rfl dL_law_456 ?_
  refine l_aload hR dL_law_459 rfl 2 rfl ?_
  refine l_aload hR dL_law_460 rfl 0 rfl ?_
  refine l_iload hR dL_law_461 rfl 3 rfl ?_
  refine l_iconst hR dL_law_462 kc_iconst_1 ?_
  refine l_iadd hR dL_law_463 ?_
  refine l_sld hR dL_law_464 h1 ?_
  refine l_aload hR dL_law_465 rfl 0 rfl ?_
  refine l_iload hR dL_law_466 rfl 3 rfl ?_
  refine l_iconst hR dL_law_467 kc_iconst_2 ?_
  refine l_iadd hR dL_law_468 ?_
  refine l_sld hR dL_law_469 h2 ?_
  refine l_callMi hR (np := 2) (q1 := qM) (c9_unlike N e2) ⟨wl_5_75, wl_1_8, wl_5_78, by decide +kernel, by decide, by decide⟩ ⟨wl_5_76, wl_5_77⟩ (As := [.int (xs (ix (x3 + (1 : Int32)))), .int (xs (ix (x3 + (2 : Int32))))]) rfl rfl rfl (Nat.le_of_ble_eq_true rfl) rfl dL_law_470 ?_
  exact l_icmp_eq hR (tgt := 1162) dL_law_473 (by decide) (hk _ _ hs2)
theorem law_rule {adC adM : Nat → Nat} {b L : Nat} {xs : Nat → Int32} {J : LT} (hR : RLw adC adM b L xs J) {N : Nat} {Sim : SS → SS → Prop} (ho : Op_rule N Sim) {qC qM : SS} (hs : Sim qC qM) {x3 : Int32} (h1 : vp_in (x3 + 1) L) (h2 : vp_in (x3 + 2) L) (h3 : vp_in (x3 + 3) L) (h4 : vp_in (x3 + 4) L) (h5 : vp_in (x3 + 5) L) (hk : ∀ qC2 qM2, Sim qC2 qM2 → J [(0, .ref b), (1, .ref (adC 0)), (2, .ref (adM 0)), (3, .int x3)] [] qC2 qM2 1162) : J [(0, .ref b), (1, .ref (adC 0)), (2, .ref (adM 0)), (3, .int x3)] [] qC qM 478 := by
  obtain ⟨r, qC2, qM2, e1, e2, hs2⟩ := ho (xs (ix (x3 + (1 : Int32)))) (xs (ix (x3 + (2 : Int32)))) qC qM hs
  refine l_aload hR dL_law_478 rfl 1 rfl ?_
  refine l_aload hR dL_law_479 rfl 0 rfl ?_
  refine l_iload hR dL_law_480 rfl 3 rfl ?_
  refine l_iconst hR dL_law_481 kc_iconst_1 ?_
  refine l_iadd hR dL_law_482 ?_
  refine l_sld hR dL_law_483 h1 ?_
  refine l_aload hR dL_law_484 rfl 0 rfl ?_
  refine l_iload hR dL_law_485 rfl 3 rfl ?_
  refine l_iconst hR dL_law_486 kc_iconst_2 ?_
  refine l_iadd hR dL_law_487 ?_
  refine l_sld hR dL_law_488 h2 ?_
  refine l_callCi hR (np := 2) (q1 := qC2) (c8_rule e1) ⟨wl_2_120, wl_1_1, wl_2_123, by decide +kernel, by decide, by decide⟩ ⟨wl_2_121, wl_2_122⟩ (As := [.int (xs (ix (x3 + (1 : Int32)))), .int (xs (ix (x3 + (2 : Int32))))]) rfl rfl rfl (Nat.le_of_ble_eq_true rfl) rfl dL_law_489 ?_
  refine l_aload hR dL_law_492 rfl 2 rfl ?_
  refine l_aload hR dL_law_493 rfl 0 rfl ?_
  refine l_iload hR dL_law_494 rfl 3 rfl ?_
  refine l_iconst hR dL_law_495 kc_iconst_1 ?_
  refine l_iadd hR dL_law_496 ?_
  refine l_sld hR dL_law_497 h1 ?_
  refine l_aload hR dL_law_498 rfl 0 rfl ?_
  refine l_iload hR dL_law_499 rfl 3 rfl ?_
  refine l_iconst hR dL_law_500 kc_iconst_2 ?_
  refine l_iadd hR dL_law_501 ?_
  refine l_sld hR dL_law_502 h2 ?_
  refine l_callMi hR (np := 2) (q1 := qM2) (c9_rule e2) ⟨wl_5_83, wl_1_8, wl_5_86, by decide +kernel, by decide, by decide⟩ ⟨wl_5_84, wl_5_85⟩ (As := [.int (xs (ix (x3 + (1 : Int32)))), .int (xs (ix (x3 + (2 : Int32))))]) rfl rfl rfl (Nat.le_of_ble_eq_true rfl) rfl dL_law_503 ?_
  exact l_icmp_eq hR (tgt := 1162) dL_law_506 (by decide) (hk _ _ hs2)
theorem law_size {adC adM : Nat → Nat} {b L : Nat} {xs : Nat → Int32} {J : LT} (hR : RLw adC adM b L xs J) {N : Nat} {Sim : SS → SS → Prop} (ho : Op_size N Sim) {qC qM : SS} (hs : Sim qC qM) {x3 : Int32} (h1 : vp_in (x3 + 1) L) (h2 : vp_in (x3 + 2) L) (h3 : vp_in (x3 + 3) L) (h4 : vp_in (x3 + 4) L) (h5 : vp_in (x3 + 5) L) (hk : ∀ qC2 qM2, Sim qC2 qM2 → J [(0, .ref b), (1, .ref (adC 0)), (2, .ref (adM 0)), (3, .int x3)] [] qC2 qM2 1162) : J [(0, .ref b), (1, .ref (adC 0)), (2, .ref (adM 0)), (3, .int x3)] [] qC qM 511 := by
  obtain ⟨r, qC2, qM2, e1, e2, hs2⟩ := ho (xs (ix (x3 + (1 : Int32)))) (xs (ix (x3 + (2 : Int32)))) qC qM hs
  refine l_aload hR dL_law_511 rfl 1 rfl ?_
  refine l_aload hR dL_law_512 rfl 0 rfl ?_
  refine l_iload hR dL_law_513 rfl 3 rfl ?_
  refine l_iconst hR dL_law_514 kc_iconst_1 ?_
  refine l_iadd hR dL_law_515 ?_
  refine l_sld hR dL_law_516 h1 ?_
  refine l_aload hR dL_law_517 rfl 0 rfl ?_
  refine l_iload hR dL_law_518 rfl 3 rfl ?_
  refine l_iconst hR dL_law_519 kc_iconst_2 ?_
  refine l_iadd hR dL_law_520 ?_
  refine l_sld hR dL_law_521 h2 ?_
  refine l_callCi hR (np := 2) (q1 := qC2) (c8_size N e1) ⟨wl_2_132, wl_1_1, wl_2_135, by decide +kernel, by decide, by decide⟩ ⟨wl_2_133, wl_2_134⟩ (As := [.int (xs (ix (x3 + (1 : Int32)))), .int (xs (ix (x3 + (2 : Int32))))]) rfl rfl rfl (Nat.le_of_ble_eq_true rfl) rfl dL_law_522 ?_
  refine l_aload hR dL_law_525 rfl 2 rfl ?_
  refine l_aload hR dL_law_526 rfl 0 rfl ?_
  refine l_iload hR dL_law_527 rfl 3 rfl ?_
  refine l_iconst hR dL_law_528 kc_iconst_1 ?_
  refine l_iadd hR dL_law_529 ?_
  refine l_sld hR dL_law_530 h1 ?_
  refine l_aload hR dL_law_531 rfl 0 rfl ?_
  refine l_iload hR dL_law_532 rfl 3 rfl ?_
  refine l_iconst hR dL_law_533 kc_iconst_2 ?_
  refine l_iadd hR dL_law_534 ?_
  refine l_sld hR dL_law_535 h2 ?_
  refine l_callMi hR (np := 2) (q1 := qM2) (c9_size N e2) ⟨wl_5_88, wl_1_8, wl_5_91, by decide +kernel, by decide, by decide⟩ ⟨wl_5_89, wl_5_90⟩ (As := [.int (xs (ix (x3 + (1 : Int32)))), .int (xs (ix (x3 + (2 : Int32))))]) rfl rfl rfl (Nat.le_of_ble_eq_true rfl) rfl dL_law_536 ?_
  exact l_icmp_eq hR (tgt := 1162) dL_law_539 (by decide) (hk _ _ hs2)
theorem law_pages {adC adM : Nat → Nat} {b L : Nat} {xs : Nat → Int32} {J : LT} (hR : RLw adC adM b L xs J) {N : Nat} {Sim : SS → SS → Prop} (ho : Op_pages N Sim) {qC qM : SS} (hs : Sim qC qM) {x3 : Int32} (h1 : vp_in (x3 + 1) L) (h2 : vp_in (x3 + 2) L) (h3 : vp_in (x3 + 3) L) (h4 : vp_in (x3 + 4) L) (h5 : vp_in (x3 + 5) L) (hk : ∀ qC2 qM2, Sim qC2 qM2 → J [(0, .ref b), (1, .ref (adC 0)), (2, .ref (adM 0)), (3, .int x3)] [] qC2 qM2 1162) : J [(0, .ref b), (1, .ref (adC 0)), (2, .ref (adM 0)), (3, .int x3)] [] qC qM 544 := by
  obtain ⟨r, qC2, qM2, e1, e2, hs2⟩ := ho (xs (ix (x3 + (1 : Int32)))) (xs (ix (x3 + (2 : Int32)))) qC qM hs
  refine l_aload hR dL_law_544 rfl 1 rfl ?_
  refine l_aload hR dL_law_545 rfl 0 rfl ?_
  refine l_iload hR dL_law_546 rfl 3 rfl ?_
  refine l_iconst hR dL_law_547 kc_iconst_1 ?_
  refine l_iadd hR dL_law_548 ?_
  refine l_sld hR dL_law_549 h1 ?_
  refine l_aload hR dL_law_550 rfl 0 rfl ?_
  refine l_iload hR dL_law_551 rfl 3 rfl ?_
  refine l_iconst hR dL_law_552 kc_iconst_2 ?_
  refine l_iadd hR dL_law_553 ?_
  refine l_sld hR dL_law_554 h2 ?_
  refine l_callCi hR (np := 2) (q1 := qC2) (c8_pages N e1) ⟨wl_2_191, wl_1_1, wl_2_194, by decide +kernel, by decide, by decide⟩ ⟨wl_2_192, wl_2_193⟩ (As := [.int (xs (ix (x3 + (1 : Int32)))), .int (xs (ix (x3 + (2 : Int32))))]) rfl rfl rfl (Nat.le_of_ble_eq_true rfl) rfl dL_law_555 ?_
  refine l_aload hR dL_law_558 rfl 2 rfl ?_
  refine l_aload hR dL_law_559 rfl 0 rfl ?_
  refine l_iload hR dL_law_560 rfl 3 rfl ?_
  refine l_iconst hR dL_law_561 kc_iconst_1 ?_
  refine l_iadd hR dL_law_562 ?_
  refine l_sld hR dL_law_563 h1 ?_
  refine l_aload hR dL_law_564 rfl 0 rfl ?_
  refine l_iload hR dL_law_565 rfl 3 rfl ?_
  refine l_iconst hR dL_law_566 kc_iconst_2 ?_
  refine l_iadd hR dL_law_567 ?_
  refine l_sld hR dL_law_568 h2 ?_
  refine l_callMi hR (np := 2) (q1 := qM2) (c9_pages N e2) ⟨wl_5_132, wl_1_8, wl_5_135, by decide +kernel, by decide, by decide⟩ ⟨wl_5_133, wl_5_134⟩ (As := [.int (xs (ix (x3 + (1 : Int32)))), .int (xs (ix (x3 + (2 : Int32))))]) rfl rfl rfl (Nat.le_of_ble_eq_true rfl) rfl dL_law_569 ?_
  exact l_icmp_eq hR (tgt := 1162) dL_law_572 (by decide) (hk _ _ hs2)
theorem law_joined {adC adM : Nat → Nat} {b L : Nat} {xs : Nat → Int32} {J : LT} (hR : RLw adC adM b L xs J) {N : Nat} {Sim : SS → SS → Prop} (ho : Op_joined N Sim) {qC qM : SS} (hs : Sim qC qM) {x3 : Int32} (h1 : vp_in (x3 + 1) L) (h2 : vp_in (x3 + 2) L) (h3 : vp_in (x3 + 3) L) (h4 : vp_in (x3 + 4) L) (h5 : vp_in (x3 + 5) L) (hk : ∀ qC2 qM2, Sim qC2 qM2 → J [(0, .ref b), (1, .ref (adC 0)), (2, .ref (adM 0)), (3, .int x3)] [] qC2 qM2 1162) : J [(0, .ref b), (1, .ref (adC 0)), (2, .ref (adM 0)), (3, .int x3)] [] qC qM 577 := by
  obtain ⟨r, qC2, qM2, e1, e2, hs2⟩ := ho (xs (ix (x3 + (1 : Int32)))) (xs (ix (x3 + (2 : Int32)))) (xs (ix (x3 + (3 : Int32)))) qC qM hs
  refine l_aload hR dL_law_577 rfl 1 rfl ?_
  refine l_aload hR dL_law_578 rfl 0 rfl ?_
  refine l_iload hR dL_law_579 rfl 3 rfl ?_
  refine l_iconst hR dL_law_580 kc_iconst_1 ?_
  refine l_iadd hR dL_law_581 ?_
  refine l_sld hR dL_law_582 h1 ?_
  refine l_aload hR dL_law_583 rfl 0 rfl ?_
  refine l_iload hR dL_law_584 rfl 3 rfl ?_
  refine l_iconst hR dL_law_585 kc_iconst_2 ?_
  refine l_iadd hR dL_law_586 ?_
  refine l_sld hR dL_law_587 h2 ?_
  refine l_aload hR dL_law_588 rfl 0 rfl ?_
  refine l_iload hR dL_law_589 rfl 3 rfl ?_
  refine l_iconst hR dL_law_590 kc_iconst_3 ?_
  refine l_iadd hR dL_law_591 ?_
  refine l_sld hR dL_law_592 h3 ?_
  refine l_callCi hR (np := 3) (q1 := qC2) (c8_joined N e1) ⟨wl_2_211, wl_1_1, wl_2_214, by decide +kernel, by decide, by decide⟩ ⟨wl_2_212, wl_2_213⟩ (As := [.int (xs (ix (x3 + (1 : Int32)))), .int (xs (ix (x3 + (2 : Int32)))), .int (xs (ix (x3 + (3 : Int32))))]) rfl rfl rfl (Nat.le_of_ble_eq_true rfl) rfl dL_law_593 ?_
  refine l_aload hR dL_law_596 rfl 2 rfl ?_
  refine l_aload hR dL_law_597 rfl 0 rfl ?_
  refine l_iload hR dL_law_598 rfl 3 rfl ?_
  refine l_iconst hR dL_law_599 kc_iconst_1 ?_
  refine l_iadd hR dL_law_600 ?_
  refine l_sld hR dL_law_601 h1 ?_
  refine l_aload hR dL_law_602 rfl 0 rfl ?_
  refine l_iload hR dL_law_603 rfl 3 rfl ?_
  refine l_iconst hR dL_law_604 kc_iconst_2 ?_
  refine l_iadd hR dL_law_605 ?_
  refine l_sld hR dL_law_606 h2 ?_
  refine l_aload hR dL_law_607 rfl 0 rfl ?_
  refine l_iload hR dL_law_608 rfl 3 rfl ?_
  refine l_iconst hR dL_law_609 kc_iconst_3 ?_
  refine l_iadd hR dL_law_610 ?_
  refine l_sld hR dL_law_611 h3 ?_
  refine l_callMi hR (np := 3) (q1 := qM2) (c9_joined N e2) ⟨wl_5_140, wl_1_8, wl_5_143, by decide +kernel, by decide, by decide⟩ ⟨wl_5_141, wl_5_142⟩ (As := [.int (xs (ix (x3 + (1 : Int32)))), .int (xs (ix (x3 + (2 : Int32)))), .int (xs (ix (x3 + (3 : Int32))))]) rfl rfl rfl (Nat.le_of_ble_eq_true rfl) rfl dL_law_612 ?_
  exact l_icmp_eq hR (tgt := 1162) dL_law_615 (by decide) (hk _ _ hs2)
theorem law_value {adC adM : Nat → Nat} {b L : Nat} {xs : Nat → Int32} {J : LT} (hR : RLw adC adM b L xs J) {N : Nat} {Sim : SS → SS → Prop} (ho : Op_value N Sim) {qC qM : SS} (hs : Sim qC qM) {x3 : Int32} (h1 : vp_in (x3 + 1) L) (h2 : vp_in (x3 + 2) L) (h3 : vp_in (x3 + 3) L) (h4 : vp_in (x3 + 4) L) (h5 : vp_in (x3 + 5) L) (hk : ∀ qC2 qM2, Sim qC2 qM2 → J [(0, .ref b), (1, .ref (adC 0)), (2, .ref (adM 0)), (3, .int x3)] [] qC2 qM2 1162) : J [(0, .ref b), (1, .ref (adC 0)), (2, .ref (adM 0)), (3, .int x3)] [] qC qM 620 := by
  obtain ⟨r, qC2, qM2, e1, e2, hs2⟩ := ho (xs (ix (x3 + (1 : Int32)))) (xs (ix (x3 + (2 : Int32)))) (xs (ix (x3 + (3 : Int32)))) qC qM hs
  refine l_aload hR dL_law_620 rfl 1 rfl ?_
  refine l_aload hR dL_law_621 rfl 0 rfl ?_
  refine l_iload hR dL_law_622 rfl 3 rfl ?_
  refine l_iconst hR dL_law_623 kc_iconst_1 ?_
  refine l_iadd hR dL_law_624 ?_
  refine l_sld hR dL_law_625 h1 ?_
  refine l_aload hR dL_law_626 rfl 0 rfl ?_
  refine l_iload hR dL_law_627 rfl 3 rfl ?_
  refine l_iconst hR dL_law_628 kc_iconst_2 ?_
  refine l_iadd hR dL_law_629 ?_
  refine l_sld hR dL_law_630 h2 ?_
  refine l_aload hR dL_law_631 rfl 0 rfl ?_
  refine l_iload hR dL_law_632 rfl 3 rfl ?_
  refine l_iconst hR dL_law_633 kc_iconst_3 ?_
  refine l_iadd hR dL_law_634 ?_
  refine l_sld hR dL_law_635 h3 ?_
  refine l_callCi hR (np := 3) (q1 := qC2) (c8_value N e1) ⟨wl_2_231, wl_1_1, wl_2_234, by decide +kernel, by decide, by decide⟩ ⟨wl_2_232, wl_2_233⟩ (As := [.int (xs (ix (x3 + (1 : Int32)))), .int (xs (ix (x3 + (2 : Int32)))), .int (xs (ix (x3 + (3 : Int32))))]) rfl rfl rfl (Nat.le_of_ble_eq_true rfl) rfl dL_law_636 ?_
  refine l_aload hR dL_law_639 rfl 2 rfl ?_
  refine l_aload hR dL_law_640 rfl 0 rfl ?_
  refine l_iload hR dL_law_641 rfl 3 rfl ?_
  refine l_iconst hR dL_law_642 kc_iconst_1 ?_
  refine l_iadd hR dL_law_643 ?_
  refine l_sld hR dL_law_644 h1 ?_
  refine l_aload hR dL_law_645 rfl 0 rfl ?_
  refine l_iload hR dL_law_646 rfl 3 rfl ?_
  refine l_iconst hR dL_law_647 kc_iconst_2 ?_
  refine l_iadd hR dL_law_648 ?_
  refine l_sld hR dL_law_649 h2 ?_
  refine l_aload hR dL_law_650 rfl 0 rfl ?_
  refine l_iload hR dL_law_651 rfl 3 rfl ?_
  refine l_iconst hR dL_law_652 kc_iconst_3 ?_
  refine l_iadd hR dL_law_653 ?_
  refine l_sld hR dL_law_654 h3 ?_
  refine l_callMi hR (np := 3) (q1 := qM2) (c9_value N e2) ⟨wl_5_152, wl_1_8, wl_5_155, by decide +kernel, by decide, by decide⟩ ⟨wl_5_153, wl_5_154⟩ (As := [.int (xs (ix (x3 + (1 : Int32)))), .int (xs (ix (x3 + (2 : Int32)))), .int (xs (ix (x3 + (3 : Int32))))]) rfl rfl rfl (Nat.le_of_ble_eq_true rfl) rfl dL_law_655 ?_
  exact l_icmp_eq hR (tgt := 1162) dL_law_658 (by decide) (hk _ _ hs2)
theorem law_idle {adC adM : Nat → Nat} {b L : Nat} {xs : Nat → Int32} {J : LT} (hR : RLw adC adM b L xs J) {N : Nat} {Sim : SS → SS → Prop} (ho : Op_idle N Sim) {qC qM : SS} (hs : Sim qC qM) {x3 : Int32} (h1 : vp_in (x3 + 1) L) (h2 : vp_in (x3 + 2) L) (h3 : vp_in (x3 + 3) L) (h4 : vp_in (x3 + 4) L) (h5 : vp_in (x3 + 5) L) (hk : ∀ qC2 qM2, Sim qC2 qM2 → J [(0, .ref b), (1, .ref (adC 0)), (2, .ref (adM 0)), (3, .int x3)] [] qC2 qM2 1162) : J [(0, .ref b), (1, .ref (adC 0)), (2, .ref (adM 0)), (3, .int x3)] [] qC qM 663 := by
  obtain ⟨r, qC2, qM2, e1, e2, hs2⟩ := ho (xs (ix (x3 + (1 : Int32)))) (xs (ix (x3 + (2 : Int32)))) qC qM hs
  refine l_aload hR dL_law_663 rfl 1 rfl ?_
  refine l_aload hR dL_law_664 rfl 0 rfl ?_
  refine l_iload hR dL_law_665 rfl 3 rfl ?_
  refine l_iconst hR dL_law_666 kc_iconst_1 ?_
  refine l_iadd hR dL_law_667 ?_
  refine l_sld hR dL_law_668 h1 ?_
  refine l_aload hR dL_law_669 rfl 0 rfl ?_
  refine l_iload hR dL_law_670 rfl 3 rfl ?_
  refine l_iconst hR dL_law_671 kc_iconst_2 ?_
  refine l_iadd hR dL_law_672 ?_
  refine l_sld hR dL_law_673 h2 ?_
  refine l_callCi hR (np := 2) (q1 := qC2) (c8_idle N e1) ⟨wl_3_1, wl_1_1, wl_3_4, by decide +kernel, by decide, by decide⟩ ⟨wl_3_2, wl_3_3⟩ (As := [.int (xs (ix (x3 + (1 : Int32)))), .int (xs (ix (x3 + (2 : Int32))))]) rfl rfl rfl (Nat.le_of_ble_eq_true rfl) rfl dL_law_674 ?_
  refine l_aload hR dL_law_677 rfl 2 rfl ?_
  refine l_aload hR dL_law_678 rfl 0 rfl ?_
  refine l_iload hR dL_law_679 rfl 3 rfl ?_
  refine l_iconst hR dL_law_680 kc_iconst_1 ?_
  refine l_iadd hR dL_law_681 ?_
  refine l_sld hR dL_law_682 h1 ?_
  refine l_aload hR dL_law_683 rfl 0 rfl ?_
  refine l_iload hR dL_law_684 rfl 3 rfl ?_
  refine l_iconst hR dL_law_685 kc_iconst_2 ?_
  refine l_iadd hR dL_law_686 ?_
  refine l_sld hR dL_law_687 h2 ?_
  refine l_callMi hR (np := 2) (q1 := qM2) (c9_idle N e2) ⟨wl_5_156, wl_1_8, wl_5_159, by decide +kernel, by decide, by decide⟩ ⟨wl_5_157, wl_5_158⟩ (As := [.int (xs (ix (x3 + (1 : Int32)))), .int (xs (ix (x3 + (2 : Int32))))]) rfl rfl rfl (Nat.le_of_ble_eq_true rfl) rfl dL_law_688 ?_
  exact l_icmp_eq hR (tgt := 1162) dL_law_691 (by decide) (hk _ _ hs2)
theorem law_letters {adC adM : Nat → Nat} {b L : Nat} {xs : Nat → Int32} {J : LT} (hR : RLw adC adM b L xs J) {N : Nat} {Sim : SS → SS → Prop} (ho : Op_letters N Sim) {qC qM : SS} (hs : Sim qC qM) {x3 : Int32} (h1 : vp_in (x3 + 1) L) (h2 : vp_in (x3 + 2) L) (h3 : vp_in (x3 + 3) L) (h4 : vp_in (x3 + 4) L) (h5 : vp_in (x3 + 5) L) (hk : ∀ qC2 qM2, Sim qC2 qM2 → J [(0, .ref b), (1, .ref (adC 0)), (2, .ref (adM 0)), (3, .int x3)] [] qC2 qM2 1162) : J [(0, .ref b), (1, .ref (adC 0)), (2, .ref (adM 0)), (3, .int x3)] [] qC qM 696 := by
  obtain ⟨r, qC2, qM2, e1, e2, hs2⟩ := ho ((jlshl (Int32.toInt64 (xs (ix (x3 + (1 : Int32))))) (32 : Int32)) ||| ((Int32.toInt64 (xs (ix (x3 + (2 : Int32))))) &&& ((4294967295 : Int64)))) qC qM hs
  refine l_aload hR dL_law_696 rfl 1 rfl ?_
  refine l_aload hR dL_law_697 rfl 0 rfl ?_
  refine l_iload hR dL_law_698 rfl 3 rfl ?_
  refine l_iconst hR dL_law_699 kc_iconst_1 ?_
  refine l_iadd hR dL_law_700 ?_
  refine l_sld hR dL_law_701 h1 ?_
  refine l_i2l hR dL_law_702 ?_
  refine l_bipush hR dL_law_703 kc_bipush_32 ?_
  refine l_lshl hR dL_law_705 ?_
  refine l_aload hR dL_law_706 rfl 0 rfl ?_
  refine l_iload hR dL_law_707 rfl 3 rfl ?_
  refine l_iconst hR dL_law_708 kc_iconst_2 ?_
  refine l_iadd hR dL_law_709 ?_
  refine l_sld hR dL_law_710 h2 ?_
  refine l_i2l hR dL_law_711 ?_
  refine l_ldc2 hR dL_law_712 wl_6_84 ?_
  refine l_land hR dL_law_715 ?_
  refine l_lor hR dL_law_716 ?_
  refine l_callCi hR (np := 1) (q1 := qC2) (c8_letters N e1) ⟨wl_3_9, wl_1_1, wl_3_12, by decide +kernel, by decide, by decide⟩ ⟨wl_3_10, wl_3_11⟩ (As := [.long ((jlshl (Int32.toInt64 (xs (ix (x3 + (1 : Int32))))) (32 : Int32)) ||| ((Int32.toInt64 (xs (ix (x3 + (2 : Int32))))) &&& ((4294967295 : Int64))))]) rfl rfl rfl (Nat.le_of_ble_eq_true rfl) rfl dL_law_717 ?_
  refine l_aload hR dL_law_720 rfl 2 rfl ?_
  refine l_aload hR dL_law_721 rfl 0 rfl ?_
  refine l_iload hR dL_law_722 rfl 3 rfl ?_
  refine l_iconst hR dL_law_723 kc_iconst_1 ?_
  refine l_iadd hR dL_law_724 ?_
  refine l_sld hR dL_law_725 h1 ?_
  refine l_i2l hR dL_law_726 ?_
  refine l_bipush hR dL_law_727 kc_bipush_32 ?_
  refine l_lshl hR dL_law_729 ?_
  refine l_aload hR dL_law_730 rfl 0 rfl ?_
  refine l_iload hR dL_law_731 rfl 3 rfl ?_
  refine l_iconst hR dL_law_732 kc_iconst_2 ?_
  refine l_iadd hR dL_law_733 ?_
  refine l_sld hR dL_law_734 h2 ?_
  refine l_i2l hR dL_law_735 ?_
  refine l_ldc2 hR dL_law_736 wl_6_84 ?_
  refine l_land hR dL_law_739 ?_
  refine l_lor hR dL_law_740 ?_
  refine l_callMi hR (np := 1) (q1 := qM2) (c9_letters N e2) ⟨wl_5_160, wl_1_8, wl_5_163, by decide +kernel, by decide, by decide⟩ ⟨wl_5_161, wl_5_162⟩ (As := [.long ((jlshl (Int32.toInt64 (xs (ix (x3 + (1 : Int32))))) (32 : Int32)) ||| ((Int32.toInt64 (xs (ix (x3 + (2 : Int32))))) &&& ((4294967295 : Int64))))]) rfl rfl rfl (Nat.le_of_ble_eq_true rfl) rfl dL_law_741 ?_
  exact l_icmp_eq hR (tgt := 1162) dL_law_744 (by decide) (hk _ _ hs2)
theorem law_blank {adC adM : Nat → Nat} {b L : Nat} {xs : Nat → Int32} {J : LT} (hR : RLw adC adM b L xs J) {N : Nat} {Sim : SS → SS → Prop} (ho : Op_blank N Sim) {qC qM : SS} (hs : Sim qC qM) {x3 : Int32} (h1 : vp_in (x3 + 1) L) (h2 : vp_in (x3 + 2) L) (h3 : vp_in (x3 + 3) L) (h4 : vp_in (x3 + 4) L) (h5 : vp_in (x3 + 5) L) (hk : ∀ qC2 qM2, Sim qC2 qM2 → J [(0, .ref b), (1, .ref (adC 0)), (2, .ref (adM 0)), (3, .int x3)] [] qC2 qM2 1162) : J [(0, .ref b), (1, .ref (adC 0)), (2, .ref (adM 0)), (3, .int x3)] [] qC qM 749 := by
  obtain ⟨r, qC2, qM2, e1, e2, hs2⟩ := ho qC qM hs
  refine l_aload hR dL_law_749 rfl 1 rfl ?_
  refine l_callCi hR (np := 0) (q1 := qC2) (c8_blank e1) ⟨wl_3_19, wl_1_1, wl_3_22, by decide +kernel, by decide, by decide⟩ ⟨wl_3_20, wl_3_21⟩ (As := []) rfl rfl rfl (Nat.le_of_ble_eq_true rfl) rfl dL_law_750 ?_
  refine l_aload hR dL_law_753 rfl 2 rfl ?_
  refine l_callMi hR (np := 0) (q1 := qM2) (c9_blank e2) ⟨wl_5_164, wl_1_8, wl_5_167, by decide +kernel, by decide, by decide⟩ ⟨wl_5_165, wl_5_166⟩ (As := []) rfl rfl rfl (Nat.le_of_ble_eq_true rfl) rfl dL_law_754 ?_
  exact l_icmp_eq hR (tgt := 1162) dL_law_757 (by decide) (hk _ _ hs2)
theorem law_good {adC adM : Nat → Nat} {b L : Nat} {xs : Nat → Int32} {J : LT} (hR : RLw adC adM b L xs J) {N : Nat} {Sim : SS → SS → Prop} (ho : Op_good N Sim) {qC qM : SS} (hs : Sim qC qM) {x3 : Int32} (h1 : vp_in (x3 + 1) L) (h2 : vp_in (x3 + 2) L) (h3 : vp_in (x3 + 3) L) (h4 : vp_in (x3 + 4) L) (h5 : vp_in (x3 + 5) L) (hk : ∀ qC2 qM2, Sim qC2 qM2 → J [(0, .ref b), (1, .ref (adC 0)), (2, .ref (adM 0)), (3, .int x3)] [] qC2 qM2 1162) : J [(0, .ref b), (1, .ref (adC 0)), (2, .ref (adM 0)), (3, .int x3)] [] qC qM 762 := by
  obtain ⟨r, qC2, qM2, e1, e2, hs2⟩ := ho qC qM hs
  refine l_aload hR dL_law_762 rfl 1 rfl ?_
  refine l_callCi hR (np := 0) (q1 := qC2) (c8_good N e1) ⟨wl_3_27, wl_1_1, wl_3_30, by decide +kernel, by decide, by decide⟩ ⟨wl_3_28, wl_3_29⟩ (As := []) rfl rfl rfl (Nat.le_of_ble_eq_true rfl) rfl dL_law_763 ?_
  refine l_aload hR dL_law_766 rfl 2 rfl ?_
  refine l_callMi hR (np := 0) (q1 := qM2) (c9_good N e2) ⟨wl_5_168, wl_1_8, wl_5_171, by decide +kernel, by decide, by decide⟩ ⟨wl_5_169, wl_5_170⟩ (As := []) rfl rfl rfl (Nat.le_of_ble_eq_true rfl) rfl dL_law_767 ?_
  exact l_icmp_eq hR (tgt := 1162) dL_law_770 (by decide) (hk _ _ hs2)
theorem law_plan {adC adM : Nat → Nat} {b L : Nat} {xs : Nat → Int32} {J : LT} (hR : RLw adC adM b L xs J) {N : Nat} {Sim : SS → SS → Prop} (ho : Op_plan N Sim) {qC qM : SS} (hs : Sim qC qM) {x3 : Int32} (h1 : vp_in (x3 + 1) L) (h2 : vp_in (x3 + 2) L) (h3 : vp_in (x3 + 3) L) (h4 : vp_in (x3 + 4) L) (h5 : vp_in (x3 + 5) L) (hk : ∀ qC2 qM2, Sim qC2 qM2 → J [(0, .ref b), (1, .ref (adC 0)), (2, .ref (adM 0)), (3, .int x3)] [] qC2 qM2 1162) : J [(0, .ref b), (1, .ref (adC 0)), (2, .ref (adM 0)), (3, .int x3)] [] qC qM 775 := by
  obtain ⟨r, qC2, qM2, e1, e2, hs2⟩ := ho (xs (ix (x3 + (1 : Int32)))) (xs (ix (x3 + (2 : Int32)))) qC qM hs
  refine l_aload hR dL_law_775 rfl 1 rfl ?_
  refine l_aload hR dL_law_776 rfl 0 rfl ?_
  refine l_iload hR dL_law_777 rfl 3 rfl ?_
  refine l_iconst hR dL_law_778 kc_iconst_1 ?_
  refine l_iadd hR dL_law_779 ?_
  refine l_sld hR dL_law_780 h1 ?_
  refine l_aload hR dL_law_781 rfl 0 rfl ?_
  refine l_iload hR dL_law_782 rfl 3 rfl ?_
  refine l_iconst hR dL_law_783 kc_iconst_2 ?_
  refine l_iadd hR dL_law_784 ?_
  refine l_sld hR dL_law_785 h2 ?_
  refine l_callCi hR (np := 2) (q1 := qC2) (c8_plan N e1) ⟨wl_3_64, wl_1_1, wl_3_67, by decide +kernel, by decide, by decide⟩ ⟨wl_3_65, wl_3_66⟩ (As := [.int (xs (ix (x3 + (1 : Int32)))), .int (xs (ix (x3 + (2 : Int32))))]) rfl rfl rfl (Nat.le_of_ble_eq_true rfl) rfl dL_law_786 ?_
  refine l_aload hR dL_law_789 rfl 2 rfl ?_
  refine l_aload hR dL_law_790 rfl 0 rfl ?_
  refine l_iload hR dL_law_791 rfl 3 rfl ?_
  refine l_iconst hR dL_law_792 kc_iconst_1 ?_
  refine l_iadd hR dL_law_793 ?_
  refine l_sld hR dL_law_794 h1 ?_
  refine l_aload hR dL_law_795 rfl 0 rfl ?_
  refine l_iload hR dL_law_796 rfl 3 rfl ?_
  refine l_iconst hR dL_law_797 kc_iconst_2 ?_
  refine l_iadd hR dL_law_798 ?_
  refine l_sld hR dL_law_799 h2 ?_
  refine l_callMi hR (np := 2) (q1 := qM2) (c9_plan N e2) ⟨wl_5_186, wl_1_8, wl_5_189, by decide +kernel, by decide, by decide⟩ ⟨wl_5_187, wl_5_188⟩ (As := [.int (xs (ix (x3 + (1 : Int32)))), .int (xs (ix (x3 + (2 : Int32))))]) rfl rfl rfl (Nat.le_of_ble_eq_true rfl) rfl dL_law_800 ?_
  exact l_icmp_eq hR (tgt := 1162) dL_law_803 (by decide) (hk _ _ hs2)
theorem law_best {adC adM : Nat → Nat} {b L : Nat} {xs : Nat → Int32} {J : LT} (hR : RLw adC adM b L xs J) {N : Nat} {Sim : SS → SS → Prop} (ho : Op_best N Sim) {qC qM : SS} (hs : Sim qC qM) {x3 : Int32} (h1 : vp_in (x3 + 1) L) (h2 : vp_in (x3 + 2) L) (h3 : vp_in (x3 + 3) L) (h4 : vp_in (x3 + 4) L) (h5 : vp_in (x3 + 5) L) (hk : ∀ qC2 qM2, Sim qC2 qM2 → J [(0, .ref b), (1, .ref (adC 0)), (2, .ref (adM 0)), (3, .int x3)] [] qC2 qM2 1162) : J [(0, .ref b), (1, .ref (adC 0)), (2, .ref (adM 0)), (3, .int x3)] [] qC qM 808 := by
  obtain ⟨r, qC2, qM2, e1, e2, hs2⟩ := ho (xs (ix (x3 + (1 : Int32)))) (xs (ix (x3 + (2 : Int32)))) (xs (ix (x3 + (3 : Int32)))) (xs (ix (x3 + (4 : Int32)))) qC qM hs
  refine l_aload hR dL_law_808 rfl 1 rfl ?_
  refine l_aload hR dL_law_809 rfl 0 rfl ?_
  refine l_iload hR dL_law_810 rfl 3 rfl ?_
  refine l_iconst hR dL_law_811 kc_iconst_1 ?_
  refine l_iadd hR dL_law_812 ?_
  refine l_sld hR dL_law_813 h1 ?_
  refine l_aload hR dL_law_814 rfl 0 rfl ?_
  refine l_iload hR dL_law_815 rfl 3 rfl ?_
  refine l_iconst hR dL_law_816 kc_iconst_2 ?_
  refine l_iadd hR dL_law_817 ?_
  refine l_sld hR dL_law_818 h2 ?_
  refine l_aload hR dL_law_819 rfl 0 rfl ?_
  refine l_iload hR dL_law_820 rfl 3 rfl ?_
  refine l_iconst hR dL_law_821 kc_iconst_3 ?_
  refine l_iadd hR dL_law_822 ?_
  refine l_sld hR dL_law_823 h3 ?_
  refine l_aload hR dL_law_824 rfl 0 rfl ?_
  refine l_iload hR dL_law_825 rfl 3 rfl ?_
  refine l_iconst hR dL_law_826 kc_iconst_4 ?_
  refine l_iadd hR dL_law_827 ?_
  refine l_sld hR dL_law_828 h4 ?_
  refine l_callCi hR (np := 4) (q1 := qC2) (c8_best N e1) ⟨wl_3_141, wl_1_1, wl_3_144, by decide +kernel, by decide, by decide⟩ ⟨wl_3_142, wl_3_143⟩ (As := [.int (xs (ix (x3 + (1 : Int32)))), .int (xs (ix (x3 + (2 : Int32)))), .int (xs (ix (x3 + (3 : Int32)))), .int (xs (ix (x3 + (4 : Int32))))]) rfl rfl rfl (Nat.le_of_ble_eq_true rfl) rfl dL_law_829 ?_
  refine l_aload hR dL_law_832 rfl 2 rfl ?_
  refine l_aload hR dL_law_833 rfl 0 rfl ?_
  refine l_iload hR dL_law_834 rfl 3 rfl ?_
  refine l_iconst hR dL_law_835 kc_iconst_1 ?_
  refine l_iadd hR dL_law_836 ?_
  refine l_sld hR dL_law_837 h1 ?_
  refine l_aload hR dL_law_838 rfl 0 rfl ?_
  refine l_iload hR dL_law_839 rfl 3 rfl ?_
  refine l_iconst hR dL_law_840 kc_iconst_2 ?_
  refine l_iadd hR dL_law_841 ?_
  refine l_sld hR dL_law_842 h2 ?_
  refine l_aload hR dL_law_843 rfl 0 rfl ?_
  refine l_iload hR dL_law_844 rfl 3 rfl ?_
  refine l_iconst hR dL_law_845 kc_iconst_3 ?_
  refine l_iadd hR dL_law_846 ?_
  refine l_sld hR dL_law_847 h3 ?_
  refine l_aload hR dL_law_848 rfl 0 rfl ?_
  refine l_iload hR dL_law_849 rfl 3 rfl ?_
  refine l_iconst hR dL_law_850 kc_iconst_4 ?_
  refine l_iadd hR dL_law_851 ?_
  refine l_sld hR dL_law_852 h4 ?_
  refine l_callMi hR (np := 4) (q1 := qM2) (c9_best N e2) ⟨wl_5_218, wl_1_8, wl_5_221, by decide +kernel, by decide, by decide⟩ ⟨wl_5_219, wl_5_220⟩ (As := [.int (xs (ix (x3 + (1 : Int32)))), .int (xs (ix (x3 + (2 : Int32)))), .int (xs (ix (x3 + (3 : Int32)))), .int (xs (ix (x3 + (4 : Int32))))]) rfl rfl rfl (Nat.le_of_ble_eq_true rfl) rfl dL_law_853 ?_
  exact l_icmp_eq hR (tgt := 1162) dL_law_856 (by decide) (hk _ _ hs2)
theorem law_sign {adC adM : Nat → Nat} {b L : Nat} {xs : Nat → Int32} {J : LT} (hR : RLw adC adM b L xs J) {N : Nat} {Sim : SS → SS → Prop} (ho : Op_sign N Sim) {qC qM : SS} (hs : Sim qC qM) {x3 : Int32} (h1 : vp_in (x3 + 1) L) (h2 : vp_in (x3 + 2) L) (h3 : vp_in (x3 + 3) L) (h4 : vp_in (x3 + 4) L) (h5 : vp_in (x3 + 5) L) (hk : ∀ qC2 qM2, Sim qC2 qM2 → J [(0, .ref b), (1, .ref (adC 0)), (2, .ref (adM 0)), (3, .int x3)] [] qC2 qM2 1162) : J [(0, .ref b), (1, .ref (adC 0)), (2, .ref (adM 0)), (3, .int x3)] [] qC qM 861 := by
  obtain ⟨r, qC2, qM2, e1, e2, hs2⟩ := ho (xs (ix (x3 + (1 : Int32)))) (xs (ix (x3 + (2 : Int32)))) (xs (ix (x3 + (3 : Int32)))) (xs (ix (x3 + (4 : Int32)))) (xs (ix (x3 + (5 : Int32)))) qC qM hs
  refine l_aload hR dL_law_861 rfl 1 rfl ?_
  refine l_aload hR dL_law_862 rfl 0 rfl ?_
  refine l_iload hR dL_law_863 rfl 3 rfl ?_
  refine l_iconst hR dL_law_864 kc_iconst_1 ?_
  refine l_iadd hR dL_law_865 ?_
  refine l_sld hR dL_law_866 h1 ?_
  refine l_aload hR dL_law_867 rfl 0 rfl ?_
  refine l_iload hR dL_law_868 rfl 3 rfl ?_
  refine l_iconst hR dL_law_869 kc_iconst_2 ?_
  refine l_iadd hR dL_law_870 ?_
  refine l_sld hR dL_law_871 h2 ?_
  refine l_aload hR dL_law_872 rfl 0 rfl ?_
  refine l_iload hR dL_law_873 rfl 3 rfl ?_
  refine l_iconst hR dL_law_874 kc_iconst_3 ?_
  refine l_iadd hR dL_law_875 ?_
  refine l_sld hR dL_law_876 h3 ?_
  refine l_aload hR dL_law_877 rfl 0 rfl ?_
  refine l_iload hR dL_law_878 rfl 3 rfl ?_
  refine l_iconst hR dL_law_879 kc_iconst_4 ?_
  refine l_iadd hR dL_law_880 ?_
  refine l_sld hR dL_law_881 h4 ?_
  refine l_aload hR dL_law_882 rfl 0 rfl ?_
  refine l_iload hR dL_law_883 rfl 3 rfl ?_
  refine l_iconst hR dL_law_884 kc_iconst_5 ?_
  refine l_iadd hR dL_law_885 ?_
  refine l_sld hR dL_law_886 h5 ?_
  refine l_callCi hR (np := 5) (q1 := qC2) (c8_sign N e1) ⟨wl_3_214, wl_1_1, wl_3_217, by decide +kernel, by decide, by decide⟩ ⟨wl_3_215, wl_3_216⟩ (As := [.int (xs (ix (x3 + (1 : Int32)))), .int (xs (ix (x3 + (2 : Int32)))), .int (xs (ix (x3 + (3 : Int32)))), .int (xs (ix (x3 + (4 : Int32)))), .int (xs (ix (x3 + (5 : Int32))))]) rfl rfl rfl (Nat.le_of_ble_eq_true rfl) rfl dL_law_887 ?_
  refine l_aload hR dL_law_890 rfl 2 rfl ?_
  refine l_aload hR dL_law_891 rfl 0 rfl ?_
  refine l_iload hR dL_law_892 rfl 3 rfl ?_
  refine l_iconst hR dL_law_893 kc_iconst_1 ?_
  refine l_iadd hR dL_law_894 ?_
  refine l_sld hR dL_law_895 h1 ?_
  refine l_aload hR dL_law_896 rfl 0 rfl ?_
  refine l_iload hR dL_law_897 rfl 3 rfl ?_
  refine l_iconst hR dL_law_898 kc_iconst_2 ?_
  refine l_iadd hR dL_law_899 ?_
  refine l_sld hR dL_law_900 h2 ?_
  refine l_aload hR dL_law_901 rfl 0 rfl ?_
  refine l_iload hR dL_law_902 rfl 3 rfl ?_
  refine l_iconst hR dL_law_903 kc_iconst_3 ?_
  refine l_iadd hR dL_law_904 ?_
  refine l_sld hR dL_law_905 h3 ?_
  refine l_aload hR dL_law_906 rfl 0 rfl ?_
  refine l_iload hR dL_law_907 rfl 3 rfl ?_
  refine l_iconst hR dL_law_908 kc_iconst_4 ?_
  refine l_iadd hR dL_law_909 ?_
  refine l_sld hR dL_law_910 h4 ?_
  refine l_aload hR dL_law_911 rfl 0 rfl ?_
  refine l_iload hR dL_law_912 rfl 3 rfl ?_
  refine l_iconst hR dL_law_913 kc_iconst_5 ?_
  refine l_iadd hR dL_law_914 ?_
  refine l_sld hR dL_law_915 h5 ?_
  refine l_callMi hR (np := 5) (q1 := qM2) (c9_sign N e2) ⟨wl_6_14, wl_1_8, wl_6_17, by decide +kernel, by decide, by decide⟩ ⟨wl_6_15, wl_6_16⟩ (As := [.int (xs (ix (x3 + (1 : Int32)))), .int (xs (ix (x3 + (2 : Int32)))), .int (xs (ix (x3 + (3 : Int32)))), .int (xs (ix (x3 + (4 : Int32)))), .int (xs (ix (x3 + (5 : Int32))))]) rfl rfl rfl (Nat.le_of_ble_eq_true rfl) rfl dL_law_916 ?_
  exact l_icmp_eq hR (tgt := 1162) dL_law_919 (by decide) (hk _ _ hs2)
theorem law_regret {adC adM : Nat → Nat} {b L : Nat} {xs : Nat → Int32} {J : LT} (hR : RLw adC adM b L xs J) {N : Nat} {Sim : SS → SS → Prop} (ho : Op_regret N Sim) {qC qM : SS} (hs : Sim qC qM) {x3 : Int32} (h1 : vp_in (x3 + 1) L) (h2 : vp_in (x3 + 2) L) (h3 : vp_in (x3 + 3) L) (h4 : vp_in (x3 + 4) L) (h5 : vp_in (x3 + 5) L) (hk : ∀ qC2 qM2, Sim qC2 qM2 → J [(0, .ref b), (1, .ref (adC 0)), (2, .ref (adM 0)), (3, .int x3)] [] qC2 qM2 1162) : J [(0, .ref b), (1, .ref (adC 0)), (2, .ref (adM 0)), (3, .int x3)] [] qC qM 924 := by
  obtain ⟨r, qC2, qM2, e1, e2, hs2⟩ := ho (xs (ix (x3 + (1 : Int32)))) (xs (ix (x3 + (2 : Int32)))) qC qM hs
  refine l_aload hR dL_law_924 rfl 1 rfl ?_
  refine l_aload hR dL_law_925 rfl 0 rfl ?_
  refine l_iload hR dL_law_926 rfl 3 rfl ?_
  refine l_iconst hR dL_law_927 kc_iconst_1 ?_
  refine l_iadd hR dL_law_928 ?_
  refine l_sld hR dL_law_929 h1 ?_
  refine l_aload hR dL_law_930 rfl 0 rfl ?_
  refine l_iload hR dL_law_931 rfl 3 rfl ?_
  refine l_iconst hR dL_law_932 kc_iconst_2 ?_
  refine l_iadd hR dL_law_933 ?_
  refine l_sld hR dL_law_934 h2 ?_
  refine l_callCi hR (np := 2) (q1 := qC2) (c8_regret N e1) ⟨wl_3_234, wl_1_1, wl_3_237, by decide +kernel, by decide, by decide⟩ ⟨wl_3_235, wl_3_236⟩ (As := [.int (xs (ix (x3 + (1 : Int32)))), .int (xs (ix (x3 + (2 : Int32))))]) rfl rfl rfl (Nat.le_of_ble_eq_true rfl) rfl dL_law_935 ?_
  refine l_aload hR dL_law_938 rfl 2 rfl ?_
  refine l_aload hR dL_law_939 rfl 0 rfl ?_
  refine l_iload hR dL_law_940 rfl 3 rfl ?_
  refine l_iconst hR dL_law_941 kc_iconst_1 ?_
  refine l_iadd hR dL_law_942 ?_
  refine l_sld hR dL_law_943 h1 ?_
  refine l_aload hR dL_law_944 rfl 0 rfl ?_
  refine l_iload hR dL_law_945 rfl 3 rfl ?_
  refine l_iconst hR dL_law_946 kc_iconst_2 ?_
  refine l_iadd hR dL_law_947 ?_
  refine l_sld hR dL_law_948 h2 ?_
  refine l_callMi hR (np := 2) (q1 := qM2) (c9_regret N e2) ⟨wl_6_18, wl_1_8, wl_6_21, by decide +kernel, by decide, by decide⟩ ⟨wl_6_19, wl_6_20⟩ (As := [.int (xs (ix (x3 + (1 : Int32)))), .int (xs (ix (x3 + (2 : Int32))))]) rfl rfl rfl (Nat.le_of_ble_eq_true rfl) rfl dL_law_949 ?_
  exact l_icmp_eq hR (tgt := 1162) dL_law_952 (by decide) (hk _ _ hs2)
theorem law_hangs {adC adM : Nat → Nat} {b L : Nat} {xs : Nat → Int32} {J : LT} (hR : RLw adC adM b L xs J) {N : Nat} {Sim : SS → SS → Prop} (ho : Op_hangs N Sim) {qC qM : SS} (hs : Sim qC qM) {x3 : Int32} (h1 : vp_in (x3 + 1) L) (h2 : vp_in (x3 + 2) L) (h3 : vp_in (x3 + 3) L) (h4 : vp_in (x3 + 4) L) (h5 : vp_in (x3 + 5) L) (hk : ∀ qC2 qM2, Sim qC2 qM2 → J [(0, .ref b), (1, .ref (adC 0)), (2, .ref (adM 0)), (3, .int x3)] [] qC2 qM2 1162) : J [(0, .ref b), (1, .ref (adC 0)), (2, .ref (adM 0)), (3, .int x3)] [] qC qM 957 := by
  obtain ⟨r, qC2, qM2, e1, e2, hs2⟩ := ho (xs (ix (x3 + (1 : Int32)))) qC qM hs
  refine l_aload hR dL_law_957 rfl 1 rfl ?_
  refine l_aload hR dL_law_958 rfl 0 rfl ?_
  refine l_iload hR dL_law_959 rfl 3 rfl ?_
  refine l_iconst hR dL_law_960 kc_iconst_1 ?_
  refine l_iadd hR dL_law_961 ?_
  refine l_sld hR dL_law_962 h1 ?_
  refine l_callCi hR (np := 1) (q1 := qC2) (c8_hangs N e1) ⟨wl_4_2, wl_1_1, wl_4_5, by decide +kernel, by decide, by decide⟩ ⟨wl_4_3, wl_4_4⟩ (As := [.int (xs (ix (x3 + (1 : Int32))))]) rfl rfl rfl (Nat.le_of_ble_eq_true rfl) rfl dL_law_963 ?_
  refine l_aload hR dL_law_966 rfl 2 rfl ?_
  refine l_aload hR dL_law_967 rfl 0 rfl ?_
  refine l_iload hR dL_law_968 rfl 3 rfl ?_
  refine l_iconst hR dL_law_969 kc_iconst_1 ?_
  refine l_iadd hR dL_law_970 ?_
  refine l_sld hR dL_law_971 h1 ?_
  refine l_callMi hR (np := 1) (q1 := qM2) (c9_hangs N e2) ⟨wl_6_22, wl_1_8, wl_6_25, by decide +kernel, by decide, by decide⟩ ⟨wl_6_23, wl_6_24⟩ (As := [.int (xs (ix (x3 + (1 : Int32))))]) rfl rfl rfl (Nat.le_of_ble_eq_true rfl) rfl dL_law_972 ?_
  exact l_icmp_eq hR (tgt := 1162) dL_law_975 (by decide) (hk _ _ hs2)
theorem law_goes {adC adM : Nat → Nat} {b L : Nat} {xs : Nat → Int32} {J : LT} (hR : RLw adC adM b L xs J) {N : Nat} {Sim : SS → SS → Prop} (ho : Op_goes N Sim) {qC qM : SS} (hs : Sim qC qM) {x3 : Int32} (h1 : vp_in (x3 + 1) L) (h2 : vp_in (x3 + 2) L) (h3 : vp_in (x3 + 3) L) (h4 : vp_in (x3 + 4) L) (h5 : vp_in (x3 + 5) L) (hk : ∀ qC2 qM2, Sim qC2 qM2 → J [(0, .ref b), (1, .ref (adC 0)), (2, .ref (adM 0)), (3, .int x3)] [] qC2 qM2 1162) : J [(0, .ref b), (1, .ref (adC 0)), (2, .ref (adM 0)), (3, .int x3)] [] qC qM 980 := by
  obtain ⟨r, qC2, qM2, e1, e2, hs2⟩ := ho (xs (ix (x3 + (1 : Int32)))) (xs (ix (x3 + (2 : Int32)))) qC qM hs
  refine l_aload hR dL_law_980 rfl 1 rfl ?_
  refine l_aload hR dL_law_981 rfl 0 rfl ?_
  refine l_iload hR dL_law_982 rfl 3 rfl ?_
  refine l_iconst hR dL_law_983 kc_iconst_1 ?_
  refine l_iadd hR dL_law_984 ?_
  refine l_sld hR dL_law_985 h1 ?_
  refine l_aload hR dL_law_986 rfl 0 rfl ?_
  refine l_iload hR dL_law_987 rfl 3 rfl ?_
  refine l_iconst hR dL_law_988 kc_iconst_2 ?_
  refine l_iadd hR dL_law_989 ?_
  refine l_sld hR dL_law_990 h2 ?_
  refine l_callCi hR (np := 2) (q1 := qC2) (c8_goes N e1) ⟨wl_4_21, wl_1_1, wl_4_24, by decide +kernel, by decide, by decide⟩ ⟨wl_4_22, wl_4_23⟩ (As := [.int (xs (ix (x3 + (1 : Int32)))), .int (xs (ix (x3 + (2 : Int32))))]) rfl rfl rfl (Nat.le_of_ble_eq_true rfl) rfl dL_law_991 ?_
  refine l_aload hR dL_law_994 rfl 2 rfl ?_
  refine l_aload hR dL_law_995 rfl 0 rfl ?_
  refine l_iload hR dL_law_996 rfl 3 rfl ?_
  refine l_iconst hR dL_law_997 kc_iconst_1 ?_
  refine l_iadd hR dL_law_998 ?_
  refine l_sld hR dL_law_999 h1 ?_
  refine l_aload hR dL_law_1000 rfl 0 rfl ?_
  refine l_iload hR dL_law_1001 rfl 3 rfl ?_
  refine l_iconst hR dL_law_1002 kc_iconst_2 ?_
  refine l_iadd hR dL_law_1003 ?_
  refine l_sld hR dL_law_1004 h2 ?_
  refine l_callMi hR (np := 2) (q1 := qM2) (c9_goes N e2) ⟨wl_6_38, wl_1_8, wl_6_41, by decide +kernel, by decide, by decide⟩ ⟨wl_6_39, wl_6_40⟩ (As := [.int (xs (ix (x3 + (1 : Int32)))), .int (xs (ix (x3 + (2 : Int32))))]) rfl rfl rfl (Nat.le_of_ble_eq_true rfl) rfl dL_law_1005 ?_
  exact l_icmp_eq hR (tgt := 1162) dL_law_1008 (by decide) (hk _ _ hs2)
theorem law_on {adC adM : Nat → Nat} {b L : Nat} {xs : Nat → Int32} {J : LT} (hR : RLw adC adM b L xs J) {N : Nat} {Sim : SS → SS → Prop} (ho : Op_on N Sim) {qC qM : SS} (hs : Sim qC qM) {x3 : Int32} (h1 : vp_in (x3 + 1) L) (h2 : vp_in (x3 + 2) L) (h3 : vp_in (x3 + 3) L) (h4 : vp_in (x3 + 4) L) (h5 : vp_in (x3 + 5) L) (hk : ∀ qC2 qM2, Sim qC2 qM2 → J [(0, .ref b), (1, .ref (adC 0)), (2, .ref (adM 0)), (3, .int x3)] [] qC2 qM2 1162) : J [(0, .ref b), (1, .ref (adC 0)), (2, .ref (adM 0)), (3, .int x3)] [] qC qM 1013 := by
  obtain ⟨r, qC2, qM2, e1, e2, hs2⟩ := ho (xs (ix (x3 + (1 : Int32)))) (xs (ix (x3 + (2 : Int32)))) qC qM hs
  refine l_aload hR dL_law_1013 rfl 1 rfl ?_
  refine l_aload hR dL_law_1014 rfl 0 rfl ?_
  refine l_iload hR dL_law_1015 rfl 3 rfl ?_
  refine l_iconst hR dL_law_1016 kc_iconst_1 ?_
  refine l_iadd hR dL_law_1017 ?_
  refine l_sld hR dL_law_1018 h1 ?_
  refine l_aload hR dL_law_1019 rfl 0 rfl ?_
  refine l_iload hR dL_law_1020 rfl 3 rfl ?_
  refine l_iconst hR dL_law_1021 kc_iconst_2 ?_
  refine l_iadd hR dL_law_1022 ?_
  refine l_sld hR dL_law_1023 h2 ?_
  refine l_callCi hR (np := 2) (q1 := qC2) (c8_on N e1) ⟨wl_4_29, wl_1_1, wl_4_32, by decide +kernel, by decide, by decide⟩ ⟨wl_4_30, wl_4_31⟩ (As := [.int (xs (ix (x3 + (1 : Int32)))), .int (xs (ix (x3 + (2 : Int32))))]) rfl rfl rfl (Nat.le_of_ble_eq_true rfl) rfl dL_law_1024 ?_
  refine l_aload hR dL_law_1027 rfl 2 rfl ?_
  refine l_aload hR dL_law_1028 rfl 0 rfl ?_
  refine l_iload hR dL_law_1029 rfl 3 rfl ?_
  refine l_iconst hR dL_law_1030 kc_iconst_1 ?_
  refine l_iadd hR dL_law_1031 ?_
  refine l_sld hR dL_law_1032 h1 ?_
  refine l_aload hR dL_law_1033 rfl 0 rfl ?_
  refine l_iload hR dL_law_1034 rfl 3 rfl ?_
  refine l_iconst hR dL_law_1035 kc_iconst_2 ?_
  refine l_iadd hR dL_law_1036 ?_
  refine l_sld hR dL_law_1037 h2 ?_
  refine l_callMi hR (np := 2) (q1 := qM2) (c9_on N e2) ⟨wl_6_42, wl_1_8, wl_6_45, by decide +kernel, by decide, by decide⟩ ⟨wl_6_43, wl_6_44⟩ (As := [.int (xs (ix (x3 + (1 : Int32)))), .int (xs (ix (x3 + (2 : Int32))))]) rfl rfl rfl (Nat.le_of_ble_eq_true rfl) rfl dL_law_1038 ?_
  exact l_icmp_eq hR (tgt := 1162) dL_law_1041 (by decide) (hk _ _ hs2)
theorem law_left {adC adM : Nat → Nat} {b L : Nat} {xs : Nat → Int32} {J : LT} (hR : RLw adC adM b L xs J) {N : Nat} {Sim : SS → SS → Prop} (ho : Op_left N Sim) {qC qM : SS} (hs : Sim qC qM) {x3 : Int32} (h1 : vp_in (x3 + 1) L) (h2 : vp_in (x3 + 2) L) (h3 : vp_in (x3 + 3) L) (h4 : vp_in (x3 + 4) L) (h5 : vp_in (x3 + 5) L) (hk : ∀ qC2 qM2, Sim qC2 qM2 → J [(0, .ref b), (1, .ref (adC 0)), (2, .ref (adM 0)), (3, .int x3)] [] qC2 qM2 1162) : J [(0, .ref b), (1, .ref (adC 0)), (2, .ref (adM 0)), (3, .int x3)] [] qC qM 1046 := by
  obtain ⟨r, qC2, qM2, e1, e2, hs2⟩ := ho (xs (ix (x3 + (1 : Int32)))) (xs (ix (x3 + (2 : Int32)))) qC qM hs
  refine l_aload hR dL_law_1046 rfl 1 rfl ?_
  refine l_aload hR dL_law_1047 rfl 0 rfl ?_
  refine l_iload hR dL_law_1048 rfl 3 rfl ?_
  refine l_iconst hR dL_law_1049 kc_iconst_1 ?_
  refine l_iadd hR dL_law_1050 ?_
  refine l_sld hR dL_law_1051 h1 ?_
  refine l_aload hR dL_law_1052 rfl 0 rfl ?_
  refine l_iload hR dL_law_1053 rfl 3 rfl ?_
  refine l_iconst hR dL_law_1054 kc_iconst_2 ?_
  refine l_iadd hR dL_law_1055 ?_
  refine l_sld hR dL_law_1056 h2 ?_
  refine l_callCi hR (np := 2) (q1 := qC2) (c8_left N e1) ⟨wl_4_37, wl_1_1, wl_4_40, by decide +kernel, by decide, by decide⟩ ⟨wl_4_38, wl_4_39⟩ (As := [.int (xs (ix (x3 + (1 : Int32)))), .int (xs (ix (x3 + (2 : Int32))))]) rfl rfl rfl (Nat.le_of_ble_eq_true rfl) rfl dL_law_1057 ?_
  refine l_aload hR dL_law_1060 rfl 2 rfl ?_
  refine l_aload hR dL_law_1061 rfl 0 rfl ?_
  refine l_iload hR dL_law_1062 rfl 3 rfl ?_
  refine l_iconst hR dL_law_1063 kc_iconst_1 ?_
  refine l_iadd hR dL_law_1064 ?_
  refine l_sld hR dL_law_1065 h1 ?_
  refine l_aload hR dL_law_1066 rfl 0 rfl ?_
  refine l_iload hR dL_law_1067 rfl 3 rfl ?_
  refine l_iconst hR dL_law_1068 kc_iconst_2 ?_
  refine l_iadd hR dL_law_1069 ?_
  refine l_sld hR dL_law_1070 h2 ?_
  refine l_callMi hR (np := 2) (q1 := qM2) (c9_left N e2) ⟨wl_6_46, wl_1_8, wl_6_49, by decide +kernel, by decide, by decide⟩ ⟨wl_6_47, wl_6_48⟩ (As := [.int (xs (ix (x3 + (1 : Int32)))), .int (xs (ix (x3 + (2 : Int32))))]) rfl rfl rfl (Nat.le_of_ble_eq_true rfl) rfl dL_law_1071 ?_
  exact l_icmp_eq hR (tgt := 1162) dL_law_1074 (by decide) (hk _ _ hs2)
theorem law_steps {adC adM : Nat → Nat} {b L : Nat} {xs : Nat → Int32} {J : LT} (hR : RLw adC adM b L xs J) {N : Nat} {Sim : SS → SS → Prop} (ho : Op_steps N Sim) {qC qM : SS} (hs : Sim qC qM) {x3 : Int32} (h1 : vp_in (x3 + 1) L) (h2 : vp_in (x3 + 2) L) (h3 : vp_in (x3 + 3) L) (h4 : vp_in (x3 + 4) L) (h5 : vp_in (x3 + 5) L) (hk : ∀ qC2 qM2, Sim qC2 qM2 → J [(0, .ref b), (1, .ref (adC 0)), (2, .ref (adM 0)), (3, .int x3)] [] qC2 qM2 1162) : J [(0, .ref b), (1, .ref (adC 0)), (2, .ref (adM 0)), (3, .int x3)] [] qC qM 1079 := by
  obtain ⟨r, qC2, qM2, e1, e2, hs2⟩ := ho (xs (ix (x3 + (1 : Int32)))) qC qM hs
  refine l_aload hR dL_law_1079 rfl 1 rfl ?_
  refine l_aload hR dL_law_1080 rfl 0 rfl ?_
  refine l_iload hR dL_law_1081 rfl 3 rfl ?_
  refine l_iconst hR dL_law_1082 kc_iconst_1 ?_
  refine l_iadd hR dL_law_1083 ?_
  refine l_sld hR dL_law_1084 h1 ?_
  refine l_callCi hR (np := 1) (q1 := qC2) (c8_steps N e1) ⟨wl_4_63, wl_1_1, wl_4_66, by decide +kernel, by decide, by decide⟩ ⟨wl_4_64, wl_4_65⟩ (As := [.int (xs (ix (x3 + (1 : Int32))))]) rfl rfl rfl (Nat.le_of_ble_eq_true rfl) rfl dL_law_1085 ?_
  refine l_aload hR dL_law_1088 rfl 2 rfl ?_
  refine l_aload hR dL_law_1089 rfl 0 rfl ?_
  refine l_iload hR dL_law_1090 rfl 3 rfl ?_
  refine l_iconst hR dL_law_1091 kc_iconst_1 ?_
  refine l_iadd hR dL_law_1092 ?_
  refine l_sld hR dL_law_1093 h1 ?_
  refine l_callMi hR (np := 1) (q1 := qM2) (c9_steps N e2) ⟨wl_6_58, wl_1_8, wl_6_61, by decide +kernel, by decide, by decide⟩ ⟨wl_6_59, wl_6_60⟩ (As := [.int (xs (ix (x3 + (1 : Int32))))]) rfl rfl rfl (Nat.le_of_ble_eq_true rfl) rfl dL_law_1094 ?_
  exact l_icmp_eq hR (tgt := 1162) dL_law_1097 (by decide) (hk _ _ hs2)
theorem law_cover {adC adM : Nat → Nat} {b L : Nat} {xs : Nat → Int32} {J : LT} (hR : RLw adC adM b L xs J) {N : Nat} {Sim : SS → SS → Prop} (ho : Op_cover N Sim) {qC qM : SS} (hs : Sim qC qM) {x3 : Int32} (h1 : vp_in (x3 + 1) L) (h2 : vp_in (x3 + 2) L) (h3 : vp_in (x3 + 3) L) (h4 : vp_in (x3 + 4) L) (h5 : vp_in (x3 + 5) L) (hk : ∀ qC2 qM2, Sim qC2 qM2 → J [(0, .ref b), (1, .ref (adC 0)), (2, .ref (adM 0)), (3, .int x3)] [] qC2 qM2 1162) : J [(0, .ref b), (1, .ref (adC 0)), (2, .ref (adM 0)), (3, .int x3)] [] qC qM 1102 := by
  obtain ⟨r, e1, e2, hs2⟩ := ho (xs (ix (x3 + (1 : Int32)))) qC qM hs
  refine l_aload hR dL_law_1102 rfl 1 rfl ?_
  refine l_aload hR dL_law_1103 rfl 0 rfl ?_
  refine l_iload hR dL_law_1104 rfl 3 rfl ?_
  refine l_iconst hR dL_law_1105 kc_iconst_1 ?_
  refine l_iadd hR dL_law_1106 ?_
  refine l_sld hR dL_law_1107 h1 ?_
  refine l_callCi hR (np := 1) (q1 := qC) (c8_cover N e1) ⟨wl_4_71, wl_1_1, wl_4_74, by decide +kernel, by decide, by decide⟩ ⟨wl_4_72, wl_4_73⟩ (As := [.int (xs (ix (x3 + (1 : Int32))))]) rfl rfl rfl (Nat.le_of_ble_eq_true rfl) rfl dL_law_1108 ?_
  refine l_aload hR dL_law_1111 rfl 2 rfl ?_
  refine l_aload hR dL_law_1112 rfl 0 rfl ?_
  refine l_iload hR dL_law_1113 rfl 3 rfl ?_
  refine l_iconst hR dL_law_1114 kc_iconst_1 ?_
  refine l_iadd hR dL_law_1115 ?_
  refine l_sld hR dL_law_1116 h1 ?_
  refine l_callMi hR (np := 1) (q1 := qM) (c9_cover N e2) ⟨wl_6_62, wl_1_8, wl_6_65, by decide +kernel, by decide, by decide⟩ ⟨wl_6_63, wl_6_64⟩ (As := [.int (xs (ix (x3 + (1 : Int32))))]) rfl rfl rfl (Nat.le_of_ble_eq_true rfl) rfl dL_law_1117 ?_
  exact l_icmp_eq hR (tgt := 1162) dL_law_1120 (by decide) (hk _ _ hs2)
theorem law_count {adC adM : Nat → Nat} {b L : Nat} {xs : Nat → Int32} {J : LT} (hR : RLw adC adM b L xs J) {N : Nat} {Sim : SS → SS → Prop} (ho : Op_count N Sim) {qC qM : SS} (hs : Sim qC qM) {x3 : Int32} (h1 : vp_in (x3 + 1) L) (h2 : vp_in (x3 + 2) L) (h3 : vp_in (x3 + 3) L) (h4 : vp_in (x3 + 4) L) (h5 : vp_in (x3 + 5) L) (hk : ∀ qC2 qM2, Sim qC2 qM2 → J [(0, .ref b), (1, .ref (adC 0)), (2, .ref (adM 0)), (3, .int x3)] [] qC2 qM2 1162) : J [(0, .ref b), (1, .ref (adC 0)), (2, .ref (adM 0)), (3, .int x3)] [] qC qM 1125 := by
  obtain ⟨r, e1, e2, hs2⟩ := ho (xs (ix (x3 + (1 : Int32)))) qC qM hs
  refine l_aload hR dL_law_1125 rfl 1 rfl ?_
  refine l_aload hR dL_law_1126 rfl 0 rfl ?_
  refine l_iload hR dL_law_1127 rfl 3 rfl ?_
  refine l_iconst hR dL_law_1128 kc_iconst_1 ?_
  refine l_iadd hR dL_law_1129 ?_
  refine l_sld hR dL_law_1130 h1 ?_
  refine l_callCi hR (np := 1) (q1 := qC) (c8_count N e1) ⟨wl_4_80, wl_1_1, wl_4_83, by decide +kernel, by decide, by decide⟩ ⟨wl_4_81, wl_4_82⟩ (As := [.int (xs (ix (x3 + (1 : Int32))))]) rfl rfl rfl (Nat.le_of_ble_eq_true rfl) rfl dL_law_1131 ?_
  refine l_aload hR dL_law_1134 rfl 2 rfl ?_
  refine l_aload hR dL_law_1135 rfl 0 rfl ?_
  refine l_iload hR dL_law_1136 rfl 3 rfl ?_
  refine l_iconst hR dL_law_1137 kc_iconst_1 ?_
  refine l_iadd hR dL_law_1138 ?_
  refine l_sld hR dL_law_1139 h1 ?_
  refine l_callMi hR (np := 1) (q1 := qM) (c9_count N e2) ⟨wl_6_70, wl_1_8, wl_6_73, by decide +kernel, by decide, by decide⟩ ⟨wl_6_71, wl_6_72⟩ (As := [.int (xs (ix (x3 + (1 : Int32))))]) rfl rfl rfl (Nat.le_of_ble_eq_true rfl) rfl dL_law_1140 ?_
  exact l_icmp_eq hR (tgt := 1162) dL_law_1143 (by decide) (hk _ _ hs2)
theorem law_digest {adC adM : Nat → Nat} {b L : Nat} {xs : Nat → Int32} {J : LT} (hR : RLw adC adM b L xs J) {N : Nat} {Sim : SS → SS → Prop} (ho : Op_digest N Sim) {qC qM : SS} (hs : Sim qC qM) {x3 : Int32} (h1 : vp_in (x3 + 1) L) (h2 : vp_in (x3 + 2) L) (h3 : vp_in (x3 + 3) L) (h4 : vp_in (x3 + 4) L) (h5 : vp_in (x3 + 5) L) (hk : ∀ qC2 qM2, Sim qC2 qM2 → J [(0, .ref b), (1, .ref (adC 0)), (2, .ref (adM 0)), (3, .int x3)] [] qC2 qM2 1162) : J [(0, .ref b), (1, .ref (adC 0)), (2, .ref (adM 0)), (3, .int x3)] [] qC qM 1148 := by
  obtain ⟨r, qC2, qM2, e1, e2, hs2⟩ := ho qC qM hs
  refine l_aload hR dL_law_1148 rfl 1 rfl ?_
  refine l_callCl hR (np := 0) (q1 := qC2) (c8_digest N e1) ⟨wl_4_92, wl_1_1, wl_4_95, by decide +kernel, by decide, by decide⟩ ⟨wl_4_93, wl_4_94⟩ (As := []) rfl rfl rfl (Nat.le_of_ble_eq_true rfl) rfl dL_law_1149 ?_
  refine l_aload hR dL_law_1152 rfl 2 rfl ?_
  refine l_callMl hR (np := 0) (q1 := qM2) (c9_digest N e2) ⟨wl_6_78, wl_1_8, wl_6_81, by decide +kernel, by decide, by decide⟩ ⟨wl_6_79, wl_6_80⟩ (As := []) rfl rfl rfl (Nat.le_of_ble_eq_true rfl) rfl dL_law_1153 ?_
  refine l_lcmp hR dL_law_1156 ?_
  exact l_if_eq hR (tgt := 1162) dL_law_1157 (by decide) ((lg_cmp_eq _ _).mpr rfl) (hk _ _ hs2)
theorem law_loop {adC adM : Nat → Nat} {b L : Nat} {xs : Nat → Int32} {J : LT} (hR : RLw adC adM b L xs J) (hL : L ≤ 3072) {N : Nat} {Sim : SS → SS → Prop} (ho : OpsOk N Sim) :
    ∀ (n i : Nat) (qC qM : SS), i ≤ L → L < i + n → Sim qC qM → ∀ x3 : Int32, x3 = nI i → J [(0, .ref b), (1, .ref (adC 0)), (2, .ref (adM 0)), (3, .int x3)] [] qC qM 18 := by
  obtain ⟨o_table, o_row, o_fill, o_drop, o_sort, o_get, o_about, o_unlike, o_rule, o_size, o_pages, o_joined, o_value, o_idle, o_letters, o_blank, o_good, o_plan, o_best, o_sign, o_regret, o_hangs, o_goes, o_on, o_left, o_steps, o_cover, o_count, o_digest⟩ := ho
  intro n
  induction n with
  | zero => intro i qC qM h1 h2; omega
  | succ n ih =>
    intro i qC qM hi hin hs x3 ex
    refine l_iload hR dL_law_18 rfl 3 rfl ?_
    refine l_aload hR dL_law_19 rfl 0 rfl ?_
    refine l_slen hR dL_law_20 ?_
    refine l_bipush hR dL_law_21 lk_b6 ?_
    refine l_isub hR dL_law_23 ?_
    refine l_icmp_gt hR (tgt := 1168) dL_law_24 (by decide) (fun c_24 => ?_) (fun c_24 => ?_)
    · refine l_iconst hR dL_law_1168 lk_i1 ?_
      exact l_ret hR dL_law_1169
    · have hlt : i + 6 ≤ L := by
        rcases Nat.lt_or_ge L (i + 6) with q | q
        · exact absurd (law_cmp hL hi q ex) c_24
        · exact q
      have hin0 : vp_in x3 L := by rw [ex]; exact vp_in_nI (by omega) (by omega)
      have hj : ∀ j : Nat, j < 6 → vp_in (x3 + nI j) L := fun j hj => by rw [ex, nI_add]; exact vp_in_nI (by omega) (by omega)
      have hk : ∀ qC2 qM2, Sim qC2 qM2 → J [(0, .ref b), (1, .ref (adC 0)), (2, .ref (adM 0)), (3, .int x3)] [] qC2 qM2 1162 := fun qC2 qM2 hs2 => by
        refine l_iinc hR (i := 3) (v := x3 + 6) (lv' := [(3, .int (x3 + 6)), (0, .ref b), (1, .ref (adC 0)), (2, .ref (adM 0))]) dL_law_1162 3 rfl (by rw [lk_i6]) (by decide) rfl ?_
        refine l_goto hR (tgt := 18) dL_law_1165 (by decide) ?_
        exact l_sub hR [1, 2, 3, 0] rfl (ih (i + 6) qC2 qM2 (by omega) (by omega) hs2 (x3 + 6) (by rw [ex]; exact nI_add i 6))
      refine l_aload hR dL_law_27 rfl 0 rfl ?_
      refine l_iload hR dL_law_28 rfl 3 rfl ?_
      refine l_sld hR dL_law_29 hin0 ?_
      refine l_bipush hR dL_law_30 lk_b31 ?_
      refine l_iand hR dL_law_32 ?_
      obtain ⟨j, hj32, ej⟩ := pk_andE (xs (ix x3)) (m := 31) 5 (by decide)
      have h1 := hj 1 (by decide)
      have h2 := hj 2 (by decide)
      have h3 := hj 3 (by decide)
      have h4 := hj 4 (by decide)
      have h5 := hj 5 (by decide)
      rw [ej]
      rcases (show j = 0 ∨ j = 1 ∨ j = 2 ∨ j = 3 ∨ j = 4 ∨ j = 5 ∨ j = 6 ∨ j = 7 ∨ j = 8 ∨ j = 9 ∨ j = 10 ∨ j = 11 ∨ j = 12 ∨ j = 13 ∨ j = 14 ∨ j = 15 ∨ j = 16 ∨ j = 17 ∨ j = 18 ∨ j = 19 ∨ j = 20 ∨ j = 21 ∨ j = 22 ∨ j = 23 ∨ j = 24 ∨ j = 25 ∨ j = 26 ∨ j = 27 ∨ j = 28 ∨ 29 ≤ j by omega) with rfl | rfl | rfl | rfl | rfl | rfl | rfl | rfl | rfl | rfl | rfl | rfl | rfl | rfl | rfl | rfl | rfl | rfl | rfl | rfl | rfl | rfl | rfl | rfl | rfl | rfl | rfl | rfl | rfl | hj29
      · exact l_tableIn hR (off := 131) (tgt := 164) dL_law_33 (by decide) (by decide) (by decide) (by decide) (law_table hR o_table hs h1 h2 h3 h4 h5 hk)
      · exact l_tableIn hR (off := 164) (tgt := 197) dL_law_33 (by decide) (by decide) (by decide) (by decide) (law_row hR o_row hs h1 h2 h3 h4 h5 hk)
      · exact l_tableIn hR (off := 217) (tgt := 250) dL_law_33 (by decide) (by decide) (by decide) (by decide) (law_fill hR o_fill hs h1 h2 h3 h4 h5 hk)
      · exact l_tableIn hR (off := 270) (tgt := 303) dL_law_33 (by decide) (by decide) (by decide) (by decide) (law_drop hR o_drop hs h1 h2 h3 h4 h5 hk)
      · exact l_tableIn hR (off := 303) (tgt := 336) dL_law_33 (by decide) (by decide) (by decide) (by decide) (law_sort hR o_sort hs h1 h2 h3 h4 h5 hk)
      · exact l_tableIn hR (off := 336) (tgt := 369) dL_law_33 (by decide) (by decide) (by decide) (by decide) (law_get hR o_get hs h1 h2 h3 h4 h5 hk)
      · exact l_tableIn hR (off := 379) (tgt := 412) dL_law_33 (by decide) (by decide) (by decide) (by decide) (law_about hR o_about hs h1 h2 h3 h4 h5 hk)
      · exact l_tableIn hR (off := 412) (tgt := 445) dL_law_33 (by decide) (by decide) (by decide) (by decide) (law_unlike hR o_unlike hs h1 h2 h3 h4 h5 hk)
      · exact l_tableIn hR (off := 445) (tgt := 478) dL_law_33 (by decide) (by decide) (by decide) (by decide) (law_rule hR o_rule hs h1 h2 h3 h4 h5 hk)
      · exact l_tableIn hR (off := 478) (tgt := 511) dL_law_33 (by decide) (by decide) (by decide) (by decide) (law_size hR o_size hs h1 h2 h3 h4 h5 hk)
      · exact l_tableIn hR (off := 511) (tgt := 544) dL_law_33 (by decide) (by decide) (by decide) (by decide) (law_pages hR o_pages hs h1 h2 h3 h4 h5 hk)
      · exact l_tableIn hR (off := 544) (tgt := 577) dL_law_33 (by decide) (by decide) (by decide) (by decide) (law_joined hR o_joined hs h1 h2 h3 h4 h5 hk)
      · exact l_tableIn hR (off := 587) (tgt := 620) dL_law_33 (by decide) (by decide) (by decide) (by decide) (law_value hR o_value hs h1 h2 h3 h4 h5 hk)
      · exact l_tableIn hR (off := 630) (tgt := 663) dL_law_33 (by decide) (by decide) (by decide) (by decide) (law_idle hR o_idle hs h1 h2 h3 h4 h5 hk)
      · exact l_tableIn hR (off := 663) (tgt := 696) dL_law_33 (by decide) (by decide) (by decide) (by decide) (law_letters hR o_letters hs h1 h2 h3 h4 h5 hk)
      · exact l_tableIn hR (off := 716) (tgt := 749) dL_law_33 (by decide) (by decide) (by decide) (by decide) (law_blank hR o_blank hs h1 h2 h3 h4 h5 hk)
      · exact l_tableIn hR (off := 729) (tgt := 762) dL_law_33 (by decide) (by decide) (by decide) (by decide) (law_good hR o_good hs h1 h2 h3 h4 h5 hk)
      · exact l_tableIn hR (off := 742) (tgt := 775) dL_law_33 (by decide) (by decide) (by decide) (by decide) (law_plan hR o_plan hs h1 h2 h3 h4 h5 hk)
      · exact l_tableIn hR (off := 775) (tgt := 808) dL_law_33 (by decide) (by decide) (by decide) (by decide) (law_best hR o_best hs h1 h2 h3 h4 h5 hk)
      · exact l_tableIn hR (off := 828) (tgt := 861) dL_law_33 (by decide) (by decide) (by decide) (by decide) (law_sign hR o_sign hs h1 h2 h3 h4 h5 hk)
      · exact l_tableIn hR (off := 891) (tgt := 924) dL_law_33 (by decide) (by decide) (by decide) (by decide) (law_regret hR o_regret hs h1 h2 h3 h4 h5 hk)
      · exact l_tableIn hR (off := 924) (tgt := 957) dL_law_33 (by decide) (by decide) (by decide) (by decide) (law_hangs hR o_hangs hs h1 h2 h3 h4 h5 hk)
      · exact l_tableIn hR (off := 947) (tgt := 980) dL_law_33 (by decide) (by decide) (by decide) (by decide) (law_goes hR o_goes hs h1 h2 h3 h4 h5 hk)
      · exact l_tableIn hR (off := 980) (tgt := 1013) dL_law_33 (by decide) (by decide) (by decide) (by decide) (law_on hR o_on hs h1 h2 h3 h4 h5 hk)
      · exact l_tableIn hR (off := 1013) (tgt := 1046) dL_law_33 (by decide) (by decide) (by decide) (by decide) (law_left hR o_left hs h1 h2 h3 h4 h5 hk)
      · exact l_tableIn hR (off := 1046) (tgt := 1079) dL_law_33 (by decide) (by decide) (by decide) (by decide) (law_steps hR o_steps hs h1 h2 h3 h4 h5 hk)
      · exact l_tableIn hR (off := 1069) (tgt := 1102) dL_law_33 (by decide) (by decide) (by decide) (by decide) (law_cover hR o_cover hs h1 h2 h3 h4 h5 hk)
      · exact l_tableIn hR (off := 1092) (tgt := 1125) dL_law_33 (by decide) (by decide) (by decide) (by decide) (law_count hR o_count hs h1 h2 h3 h4 h5 hk)
      · exact l_tableIn hR (off := 1115) (tgt := 1148) dL_law_33 (by decide) (by decide) (by decide) (by decide) (law_digest hR o_digest hs h1 h2 h3 h4 h5 hk)
      · refine l_tableOut hR (tgt := 1162) dL_law_33 (Or.inr ?_) (by decide) (hk _ _ hs)
        rw [nI_toInt (by omega)]
        omega
