theorem aw_1_25 : am_w (.classLink RL 8 RX11) := am_wm1 25 rfl rfl
theorem aw_1_26 : am_w (.instantiable RX11 12) := am_wm1 26 rfl rfl
theorem aw_1_29 : am_w (.code yX11_init cX11_init 1 none) := am_wm1 29 rfl rfl
theorem aw_1_27 : am_w (.methodLink RL 18 yX11_init) := am_wm1 27 rfl rfl
theorem aw_1_28 : am_w (.instanceMethod yX11_init) := am_wm1 28 rfl rfl
theorem aw_4_229 : am_w (.classLink RL 19 RX12) := am_wm4 229 rfl rfl
theorem aw_4_230 : am_w (.instantiable RX12 49) := am_wm4 230 rfl rfl
theorem aw_4_233 : am_w (.code yX12_init cX12_init 1 none) := am_wm4 233 rfl rfl
theorem aw_4_231 : am_w (.methodLink RL 21 yX12_init) := am_wm4 231 rfl rfl
theorem aw_4_232 : am_w (.instanceMethod yX12_init) := am_wm4 232 rfl rfl
theorem aw_2_69 : am_w (.code yX11_feed cX11_feed 6 (some .int)) := am_wm2 69 rfl rfl
theorem aw_2_66 : am_w (.methodLink RL 22 yX11_feed) := am_wm2 66 rfl rfl
theorem aw_2_68 : am_w (.selects RX11 yX11_feed yX11_feed) := am_wm2 68 rfl rfl
theorem aw_2_67 : am_w (.instanceMethod yX11_feed) := am_wm2 67 rfl rfl
theorem aw_5_150 : am_w (.code yX12_feed cX12_feed 6 (some .int)) := am_wm5 150 rfl rfl
theorem aw_5_147 : am_w (.methodLink RL 26 yX12_feed) := am_wm5 147 rfl rfl
theorem aw_5_149 : am_w (.selects RX12 yX12_feed yX12_feed) := am_wm5 149 rfl rfl
theorem aw_5_148 : am_w (.instanceMethod yX12_feed) := am_wm5 148 rfl rfl
theorem aw_2_77 : am_w (.code yX11_text cX11_text 4 (some .int)) := am_wm2 77 rfl rfl
theorem aw_2_74 : am_w (.methodLink RL 27 yX11_text) := am_wm2 74 rfl rfl
theorem aw_2_76 : am_w (.selects RX11 yX11_text yX11_text) := am_wm2 76 rfl rfl
theorem aw_2_75 : am_w (.instanceMethod yX11_text) := am_wm2 75 rfl rfl
theorem aw_5_158 : am_w (.code yX12_text cX12_text 3 (some .int)) := am_wm5 158 rfl rfl
theorem aw_5_155 : am_w (.methodLink RL 31 yX12_text) := am_wm5 155 rfl rfl
theorem aw_5_157 : am_w (.selects RX12 yX12_text yX12_text) := am_wm5 157 rfl rfl
theorem aw_5_156 : am_w (.instanceMethod yX12_text) := am_wm5 156 rfl rfl
theorem aw_3_146 : am_w (.code yX11_rect cX11_rect 4 (some .int)) := am_wm3 146 rfl rfl
theorem aw_3_143 : am_w (.methodLink RL 32 yX11_rect) := am_wm3 143 rfl rfl
theorem aw_3_145 : am_w (.selects RX11 yX11_rect yX11_rect) := am_wm3 145 rfl rfl
theorem aw_3_144 : am_w (.instanceMethod yX11_rect) := am_wm3 144 rfl rfl
theorem aw_6_109 : am_w (.code yX12_rect cX12_rect 3 (some .int)) := am_wm6 109 rfl rfl
theorem aw_6_106 : am_w (.methodLink RL 36 yX12_rect) := am_wm6 106 rfl rfl
theorem aw_6_108 : am_w (.selects RX12 yX12_rect yX12_rect) := am_wm6 108 rfl rfl
theorem aw_6_107 : am_w (.instanceMethod yX12_rect) := am_wm6 107 rfl rfl
theorem aw_6_150 : am_w (.code yX12_square cX12_square 4 (some .int)) := am_wm6 150 rfl rfl
theorem aw_6_147 : am_w (.methodLink RL 42 yX12_square) := am_wm6 147 rfl rfl
theorem aw_6_149 : am_w (.selects RX12 yX12_square yX12_square) := am_wm6 149 rfl rfl
theorem aw_6_148 : am_w (.instanceMethod yX12_square) := am_wm6 148 rfl rfl
theorem aw_5_146 : am_w (.code yX12_thrown cX12_thrown 1 (some .int)) := am_wm5 146 rfl rfl
theorem aw_5_143 : am_w (.methodLink RL 43 yX12_thrown) := am_wm5 143 rfl rfl
theorem aw_5_145 : am_w (.selects RX12 yX12_thrown yX12_thrown) := am_wm5 145 rfl rfl
theorem aw_5_144 : am_w (.instanceMethod yX12_thrown) := am_wm5 144 rfl rfl
theorem aw_3_182 : am_w (.code yX11_laid cX11_laid 3 (some .int)) := am_wm3 182 rfl rfl
theorem aw_3_179 : am_w (.methodLink RL 47 yX11_laid) := am_wm3 179 rfl rfl
theorem aw_3_181 : am_w (.selects RX11 yX11_laid yX11_laid) := am_wm3 181 rfl rfl
theorem aw_3_180 : am_w (.instanceMethod yX11_laid) := am_wm3 180 rfl rfl
theorem aw_6_158 : am_w (.code yX12_laid cX12_laid 2 (some .int)) := am_wm6 158 rfl rfl
theorem aw_6_155 : am_w (.methodLink RL 50 yX12_laid) := am_wm6 155 rfl rfl
theorem aw_6_157 : am_w (.selects RX12 yX12_laid yX12_laid) := am_wm6 157 rfl rfl
theorem aw_6_156 : am_w (.instanceMethod yX12_laid) := am_wm6 156 rfl rfl
theorem aw_3_186 : am_w (.code yX11_area cX11_area 3 (some .long)) := am_wm3 186 rfl rfl
theorem aw_3_183 : am_w (.methodLink RL 51 yX11_area) := am_wm3 183 rfl rfl
theorem aw_3_185 : am_w (.selects RX11 yX11_area yX11_area) := am_wm3 185 rfl rfl
theorem aw_3_184 : am_w (.instanceMethod yX11_area) := am_wm3 184 rfl rfl
theorem aw_6_162 : am_w (.code yX12_area cX12_area 2 (some .long)) := am_wm6 162 rfl rfl
theorem aw_6_159 : am_w (.methodLink RL 55 yX12_area) := am_wm6 159 rfl rfl
theorem aw_6_161 : am_w (.selects RX12 yX12_area yX12_area) := am_wm6 161 rfl rfl
theorem aw_6_160 : am_w (.instanceMethod yX12_area) := am_wm6 160 rfl rfl
theorem aw_3_193 : am_w (.code yX11_least cX11_least 3 (some .int)) := am_wm3 193 rfl rfl
theorem aw_3_190 : am_w (.methodLink RL 56 yX11_least) := am_wm3 190 rfl rfl
theorem aw_3_192 : am_w (.selects RX11 yX11_least yX11_least) := am_wm3 192 rfl rfl
theorem aw_3_191 : am_w (.instanceMethod yX11_least) := am_wm3 191 rfl rfl
theorem aw_6_167 : am_w (.code yX12_least cX12_least 4 (some .int)) := am_wm6 167 rfl rfl
theorem aw_6_164 : am_w (.methodLink RL 59 yX12_least) := am_wm6 164 rfl rfl
theorem aw_6_166 : am_w (.selects RX12 yX12_least yX12_least) := am_wm6 166 rfl rfl
theorem aw_6_165 : am_w (.instanceMethod yX12_least) := am_wm6 165 rfl rfl
theorem aw_3_201 : am_w (.code yX11_print cX11_print 3 (some .int)) := am_wm3 201 rfl rfl
theorem aw_3_198 : am_w (.methodLink RL 60 yX11_print) := am_wm3 198 rfl rfl
theorem aw_3_200 : am_w (.selects RX11 yX11_print yX11_print) := am_wm3 200 rfl rfl
theorem aw_3_199 : am_w (.instanceMethod yX11_print) := am_wm3 199 rfl rfl
theorem aw_6_171 : am_w (.code yX12_print cX12_print 3 (some .int)) := am_wm6 171 rfl rfl
theorem aw_6_168 : am_w (.methodLink RL 63 yX12_print) := am_wm6 168 rfl rfl
theorem aw_6_170 : am_w (.selects RX12 yX12_print yX12_print) := am_wm6 170 rfl rfl
theorem aw_6_169 : am_w (.instanceMethod yX12_print) := am_wm6 169 rfl rfl
theorem aw_3_222 : am_w (.code yX11_at cX11_at 2 (some .int)) := am_wm3 222 rfl rfl
theorem aw_3_219 : am_w (.methodLink RL 64 yX11_at) := am_wm3 219 rfl rfl
theorem aw_3_221 : am_w (.selects RX11 yX11_at yX11_at) := am_wm3 221 rfl rfl
theorem aw_3_220 : am_w (.instanceMethod yX11_at) := am_wm3 220 rfl rfl
theorem aw_6_187 : am_w (.code yX12_at cX12_at 2 (some .int)) := am_wm6 187 rfl rfl
theorem aw_6_184 : am_w (.methodLink RL 67 yX12_at) := am_wm6 184 rfl rfl
theorem aw_6_186 : am_w (.selects RX12 yX12_at yX12_at) := am_wm6 186 rfl rfl
theorem aw_6_185 : am_w (.instanceMethod yX12_at) := am_wm6 185 rfl rfl
theorem aw_3_226 : am_w (.code yX11_groups cX11_groups 3 (some .int)) := am_wm3 226 rfl rfl
theorem aw_3_223 : am_w (.methodLink RL 68 yX11_groups) := am_wm3 223 rfl rfl
theorem aw_3_225 : am_w (.selects RX11 yX11_groups yX11_groups) := am_wm3 225 rfl rfl
theorem aw_3_224 : am_w (.instanceMethod yX11_groups) := am_wm3 224 rfl rfl
theorem aw_6_191 : am_w (.code yX12_groups cX12_groups 4 (some .int)) := am_wm6 191 rfl rfl
theorem aw_6_188 : am_w (.methodLink RL 71 yX12_groups) := am_wm6 188 rfl rfl
theorem aw_6_190 : am_w (.selects RX12 yX12_groups yX12_groups) := am_wm6 190 rfl rfl
theorem aw_6_189 : am_w (.instanceMethod yX12_groups) := am_wm6 189 rfl rfl
theorem aw_3_235 : am_w (.code yX11_trees cX11_trees 3 (some .long)) := am_wm3 235 rfl rfl
theorem aw_3_232 : am_w (.methodLink RL 72 yX11_trees) := am_wm3 232 rfl rfl
theorem aw_3_234 : am_w (.selects RX11 yX11_trees yX11_trees) := am_wm3 234 rfl rfl
theorem aw_3_233 : am_w (.instanceMethod yX11_trees) := am_wm3 233 rfl rfl
theorem aw_6_195 : am_w (.code yX12_trees cX12_trees 2 (some .long)) := am_wm6 195 rfl rfl
theorem aw_6_192 : am_w (.methodLink RL 75 yX12_trees) := am_wm6 192 rfl rfl
theorem aw_6_194 : am_w (.selects RX12 yX12_trees yX12_trees) := am_wm6 194 rfl rfl
theorem aw_6_193 : am_w (.instanceMethod yX12_trees) := am_wm6 193 rfl rfl
theorem aw_4_1 : am_w (.code yX11_current cX11_current 4 (some .int)) := am_wm4 1 rfl rfl
theorem aw_3_238 : am_w (.methodLink RL 76 yX11_current) := am_wm3 238 rfl rfl
theorem aw_4_0 : am_w (.selects RX11 yX11_current yX11_current) := am_wm4 0 rfl rfl
theorem aw_3_239 : am_w (.instanceMethod yX11_current) := am_wm3 239 rfl rfl
theorem aw_6_203 : am_w (.code yX12_current cX12_current 3 (some .int)) := am_wm6 203 rfl rfl
theorem aw_6_200 : am_w (.methodLink RL 79 yX12_current) := am_wm6 200 rfl rfl
theorem aw_6_202 : am_w (.selects RX12 yX12_current yX12_current) := am_wm6 202 rfl rfl
theorem aw_6_201 : am_w (.instanceMethod yX12_current) := am_wm6 201 rfl rfl
theorem aw_4_10 : am_w (.code yX11_level cX11_level 4 (some .int)) := am_wm4 10 rfl rfl
theorem aw_4_7 : am_w (.methodLink RL 80 yX11_level) := am_wm4 7 rfl rfl
theorem aw_4_9 : am_w (.selects RX11 yX11_level yX11_level) := am_wm4 9 rfl rfl
theorem aw_4_8 : am_w (.instanceMethod yX11_level) := am_wm4 8 rfl rfl
theorem aw_6_208 : am_w (.code yX12_level cX12_level 3 (some .int)) := am_wm6 208 rfl rfl
theorem aw_6_205 : am_w (.methodLink RL 83 yX12_level) := am_wm6 205 rfl rfl
theorem aw_6_207 : am_w (.selects RX12 yX12_level yX12_level) := am_wm6 207 rfl rfl
theorem aw_6_206 : am_w (.instanceMethod yX12_level) := am_wm6 206 rfl rfl
theorem aw_4_14 : am_w (.code yX11_layings cX11_layings 3 (some .int)) := am_wm4 14 rfl rfl
theorem aw_4_11 : am_w (.methodLink RL 84 yX11_layings) := am_wm4 11 rfl rfl
theorem aw_4_13 : am_w (.selects RX11 yX11_layings yX11_layings) := am_wm4 13 rfl rfl
theorem aw_4_12 : am_w (.instanceMethod yX11_layings) := am_wm4 12 rfl rfl
theorem aw_6_212 : am_w (.code yX12_layings cX12_layings 2 (some .int)) := am_wm6 212 rfl rfl
theorem aw_6_209 : am_w (.methodLink RL 87 yX12_layings) := am_wm6 209 rfl rfl
theorem aw_6_211 : am_w (.selects RX12 yX12_layings yX12_layings) := am_wm6 211 rfl rfl
theorem aw_6_210 : am_w (.instanceMethod yX12_layings) := am_wm6 210 rfl rfl
theorem aw_4_18 : am_w (.code yX11_lines cX11_lines 3 (some .int)) := am_wm4 18 rfl rfl
theorem aw_4_15 : am_w (.methodLink RL 88 yX11_lines) := am_wm4 15 rfl rfl
theorem aw_4_17 : am_w (.selects RX11 yX11_lines yX11_lines) := am_wm4 17 rfl rfl
theorem aw_4_16 : am_w (.instanceMethod yX11_lines) := am_wm4 16 rfl rfl
theorem aw_6_216 : am_w (.code yX12_lines cX12_lines 2 (some .int)) := am_wm6 216 rfl rfl
theorem aw_6_213 : am_w (.methodLink RL 91 yX12_lines) := am_wm6 213 rfl rfl
theorem aw_6_215 : am_w (.selects RX12 yX12_lines yX12_lines) := am_wm6 215 rfl rfl
theorem aw_6_214 : am_w (.instanceMethod yX12_lines) := am_wm6 214 rfl rfl
theorem aw_6_232 : am_w (.code yX12_line cX12_line 5 (some .int)) := am_wm6 232 rfl rfl
theorem aw_6_229 : am_w (.methodLink RL 94 yX12_line) := am_wm6 229 rfl rfl
theorem aw_6_231 : am_w (.selects RX12 yX12_line yX12_line) := am_wm6 231 rfl rfl
theorem aw_6_230 : am_w (.instanceMethod yX12_line) := am_wm6 230 rfl rfl
theorem aw_4_50 : am_w (.code yX11_alike cX11_alike 8 (some .int)) := am_wm4 50 rfl rfl
theorem aw_4_47 : am_w (.methodLink RL 100 yX11_alike) := am_wm4 47 rfl rfl
theorem aw_4_49 : am_w (.selects RX11 yX11_alike yX11_alike) := am_wm4 49 rfl rfl
theorem aw_4_48 : am_w (.instanceMethod yX11_alike) := am_wm4 48 rfl rfl
theorem aw_7_1 : am_w (.code yX12_alike cX12_alike 4 (some .int)) := am_wm7 1 rfl rfl
theorem aw_6_238 : am_w (.methodLink RL 103 yX12_alike) := am_wm6 238 rfl rfl
theorem aw_7_0 : am_w (.selects RX12 yX12_alike yX12_alike) := am_wm7 0 rfl rfl
theorem aw_6_239 : am_w (.instanceMethod yX12_alike) := am_wm6 239 rfl rfl
theorem aw_4_107 : am_w (.code yX11_turn cX11_turn 4 (some .int)) := am_wm4 107 rfl rfl
theorem aw_4_104 : am_w (.methodLink RL 113 yX11_turn) := am_wm4 104 rfl rfl
theorem aw_4_106 : am_w (.selects RX11 yX11_turn yX11_turn) := am_wm4 106 rfl rfl
theorem aw_4_105 : am_w (.instanceMethod yX11_turn) := am_wm4 105 rfl rfl
theorem aw_7_54 : am_w (.code yX12_turn cX12_turn 3 (some .int)) := am_wm7 54 rfl rfl
theorem aw_7_51 : am_w (.methodLink RL 116 yX12_turn) := am_wm7 51 rfl rfl
theorem aw_7_53 : am_w (.selects RX12 yX12_turn yX12_turn) := am_wm7 53 rfl rfl
theorem aw_7_52 : am_w (.instanceMethod yX12_turn) := am_wm7 52 rfl rfl
theorem aw_4_111 : am_w (.code yX11_times cX11_times 8 (some .int)) := am_wm4 111 rfl rfl
theorem aw_4_108 : am_w (.methodLink RL 117 yX11_times) := am_wm4 108 rfl rfl
theorem aw_4_110 : am_w (.selects RX11 yX11_times yX11_times) := am_wm4 110 rfl rfl
theorem aw_4_109 : am_w (.instanceMethod yX11_times) := am_wm4 109 rfl rfl
theorem aw_7_58 : am_w (.code yX12_times cX12_times 3 (some .int)) := am_wm7 58 rfl rfl
theorem aw_7_55 : am_w (.methodLink RL 120 yX12_times) := am_wm7 55 rfl rfl
theorem aw_7_57 : am_w (.selects RX12 yX12_times yX12_times) := am_wm7 57 rfl rfl
theorem aw_7_56 : am_w (.instanceMethod yX12_times) := am_wm7 56 rfl rfl
theorem aw_4_115 : am_w (.code yX11_lessen cX11_lessen 3 (some .int)) := am_wm4 115 rfl rfl
theorem aw_4_112 : am_w (.methodLink RL 121 yX11_lessen) := am_wm4 112 rfl rfl
theorem aw_4_114 : am_w (.selects RX11 yX11_lessen yX11_lessen) := am_wm4 114 rfl rfl
theorem aw_4_113 : am_w (.instanceMethod yX11_lessen) := am_wm4 113 rfl rfl
theorem aw_7_67 : am_w (.code yX12_lessen cX12_lessen 5 (some .int)) := am_wm7 67 rfl rfl
theorem aw_7_64 : am_w (.methodLink RL 124 yX12_lessen) := am_wm7 64 rfl rfl
theorem aw_7_66 : am_w (.selects RX12 yX12_lessen yX12_lessen) := am_wm7 66 rfl rfl
theorem aw_7_65 : am_w (.instanceMethod yX12_lessen) := am_wm7 65 rfl rfl
theorem aw_4_119 : am_w (.code yX11_undo cX11_undo 1 (some .int)) := am_wm4 119 rfl rfl
theorem aw_4_116 : am_w (.methodLink RL 125 yX11_undo) := am_wm4 116 rfl rfl
theorem aw_4_118 : am_w (.selects RX11 yX11_undo yX11_undo) := am_wm4 118 rfl rfl
theorem aw_4_117 : am_w (.instanceMethod yX11_undo) := am_wm4 117 rfl rfl
theorem aw_7_71 : am_w (.code yX12_undo cX12_undo 1 (some .int)) := am_wm7 71 rfl rfl
theorem aw_7_68 : am_w (.methodLink RL 128 yX12_undo) := am_wm7 68 rfl rfl
theorem aw_7_70 : am_w (.selects RX12 yX12_undo yX12_undo) := am_wm7 70 rfl rfl
theorem aw_7_69 : am_w (.instanceMethod yX12_undo) := am_wm7 69 rfl rfl
theorem aw_4_135 : am_w (.code yX11_count cX11_count 2 (some .int)) := am_wm4 135 rfl rfl
theorem aw_4_132 : am_w (.methodLink RL 134 yX11_count) := am_wm4 132 rfl rfl
theorem aw_4_134 : am_w (.selects RX11 yX11_count yX11_count) := am_wm4 134 rfl rfl
theorem aw_4_133 : am_w (.instanceMethod yX11_count) := am_wm4 133 rfl rfl
theorem aw_7_79 : am_w (.code yX12_count cX12_count 4 (some .int)) := am_wm7 79 rfl rfl
theorem aw_7_76 : am_w (.methodLink RL 137 yX12_count) := am_wm7 76 rfl rfl
theorem aw_7_78 : am_w (.selects RX12 yX12_count yX12_count) := am_wm7 78 rfl rfl
theorem aw_7_77 : am_w (.instanceMethod yX12_count) := am_wm7 77 rfl rfl
theorem aw_4_41 : am_w (.code yX11_side cX11_side 5 (some .int)) := am_wm4 41 rfl rfl
theorem aw_4_38 : am_w (.methodLink RL 95 yX11_side) := am_wm4 38 rfl rfl
theorem aw_4_40 : am_w (.selects RX11 yX11_side yX11_side) := am_wm4 40 rfl rfl
theorem aw_4_39 : am_w (.instanceMethod yX11_side) := am_wm4 39 rfl rfl
theorem aw_6_237 : am_w (.code yX12_side cX12_side 6 (some .int)) := am_wm6 237 rfl rfl
theorem aw_6_234 : am_w (.methodLink RL 99 yX12_side) := am_wm6 234 rfl rfl
theorem aw_6_236 : am_w (.selects RX12 yX12_side yX12_side) := am_wm6 236 rfl rfl
theorem aw_6_235 : am_w (.instanceMethod yX12_side) := am_wm6 235 rfl rfl
theorem aw_4_79 : am_w (.code yX11_join cX11_join 19 (some .int)) := am_wm4 79 rfl rfl
theorem aw_4_76 : am_w (.methodLink RL 104 yX11_join) := am_wm4 76 rfl rfl
theorem aw_4_78 : am_w (.selects RX11 yX11_join yX11_join) := am_wm4 78 rfl rfl
theorem aw_4_77 : am_w (.instanceMethod yX11_join) := am_wm4 77 rfl rfl
theorem aw_7_25 : am_w (.code yX12_join cX12_join 18 (some .int)) := am_wm7 25 rfl rfl
theorem aw_7_22 : am_w (.methodLink RL 107 yX12_join) := am_wm7 22 rfl rfl
theorem aw_7_24 : am_w (.selects RX12 yX12_join yX12_join) := am_wm7 24 rfl rfl
theorem aw_7_23 : am_w (.instanceMethod yX12_join) := am_wm7 23 rfl rfl
theorem aw_4_102 : am_w (.code yX11_grow cX11_grow 10 (some .int)) := am_wm4 102 rfl rfl
theorem aw_4_99 : am_w (.methodLink RL 108 yX11_grow) := am_wm4 99 rfl rfl
theorem aw_4_101 : am_w (.selects RX11 yX11_grow yX11_grow) := am_wm4 101 rfl rfl
theorem aw_4_100 : am_w (.instanceMethod yX11_grow) := am_wm4 100 rfl rfl
theorem aw_7_50 : am_w (.code yX12_grow cX12_grow 4 (some .int)) := am_wm7 50 rfl rfl
theorem aw_7_47 : am_w (.methodLink RL 112 yX12_grow) := am_wm7 47 rfl rfl
theorem aw_7_49 : am_w (.selects RX12 yX12_grow yX12_grow) := am_wm7 49 rfl rfl
theorem aw_7_48 : am_w (.instanceMethod yX12_grow) := am_wm7 48 rfl rfl
theorem aw_4_127 : am_w (.code yX11_keep cX11_keep 4 (some .boolean)) := am_wm4 127 rfl rfl
theorem aw_4_124 : am_w (.methodLink RL 129 yX11_keep) := am_wm4 124 rfl rfl
theorem aw_4_126 : am_w (.selects RX11 yX11_keep yX11_keep) := am_wm4 126 rfl rfl
theorem aw_4_125 : am_w (.instanceMethod yX11_keep) := am_wm4 125 rfl rfl
theorem aw_7_75 : am_w (.code yX12_keep cX12_keep 4 (some .boolean)) := am_wm7 75 rfl rfl
theorem aw_7_72 : am_w (.methodLink RL 133 yX12_keep) := am_wm7 72 rfl rfl
theorem aw_7_74 : am_w (.selects RX12 yX12_keep yX12_keep) := am_wm7 74 rfl rfl
theorem aw_7_73 : am_w (.instanceMethod yX12_keep) := am_wm7 73 rfl rfl
theorem nwL_8 : am_NW RL 8 11 12 := ⟨_, _, tyX11, rfl, aw_1_25, aw_1_26, aw_1_1, uw_11, tyX11_ok, by decide, by decide, fun j hj => match j, hj with | 0, _ => rfl | 1, _ => rfl | 2, _ => rfl | 3, _ => rfl | 4, _ => rfl | 5, _ => rfl | 6, _ => rfl | 7, _ => rfl | 8, _ => rfl | 9, _ => rfl | 10, _ => rfl | 11, _ => rfl | (j + 12), h => absurd h (by omega)⟩
theorem cbL_18 : am_CB RL 18 yX11_init cX11_init 1 none 0 := ⟨aw_1_1, aw_1_29, ⟨by decide, by decide⟩, by decide +kernel⟩
theorem ciL_18 : am_CI RL 18 yX11_init cX11_init 1 0 := ⟨cbL_18, aw_1_27, aw_1_28, rfl⟩
theorem nwL_19 : am_NW RL 19 12 49 := ⟨_, _, tyX12, rfl, aw_4_229, aw_4_230, aw_1_11, uw_12, tyX12_ok, by decide, by decide, fun j hj => match j, hj with | 0, _ => rfl | 1, _ => rfl | 2, _ => rfl | 3, _ => rfl | 4, _ => rfl | 5, _ => rfl | 6, _ => rfl | 7, _ => rfl | 8, _ => rfl | 9, _ => rfl | 10, _ => rfl | 11, _ => rfl | 12, _ => rfl | 13, _ => rfl | 14, _ => rfl | 15, _ => rfl | 16, _ => rfl | 17, _ => rfl | 18, _ => rfl | 19, _ => rfl | 20, _ => rfl | 21, _ => rfl | 22, _ => rfl | 23, _ => rfl | 24, _ => rfl | 25, _ => rfl | 26, _ => rfl | 27, _ => rfl | 28, _ => rfl | 29, _ => rfl | 30, _ => rfl | 31, _ => rfl | 32, _ => rfl | 33, _ => rfl | 34, _ => rfl | 35, _ => rfl | 36, _ => rfl | 37, _ => rfl | 38, _ => rfl | 39, _ => rfl | 40, _ => rfl | 41, _ => rfl | 42, _ => rfl | 43, _ => rfl | 44, _ => rfl | 45, _ => rfl | 46, _ => rfl | 47, _ => rfl | 48, _ => rfl | (j + 49), h => absurd h (by omega)⟩
theorem cbL_21 : am_CB RL 21 yX12_init cX12_init 1 none 0 := ⟨aw_1_11, aw_4_233, ⟨by decide, by decide⟩, by decide +kernel⟩
theorem ciL_21 : am_CI RL 21 yX12_init cX12_init 1 0 := ⟨cbL_21, aw_4_231, aw_4_232, rfl⟩
theorem cbL_22 : am_CB RL 22 yX11_feed cX11_feed 6 (some .int) 5 := ⟨aw_1_1, aw_2_69, ⟨by decide, by decide⟩, by decide +kernel⟩
theorem cvL_22 : am_CV RL 22 yX11_feed cX11_feed 6 (some .int) 5 11 := ⟨cbL_22, aw_2_66, aw_2_67, aw_2_68, by decide, _, _, rfl⟩
theorem cbL_26 : am_CB RL 26 yX12_feed cX12_feed 6 (some .int) 5 := ⟨aw_1_11, aw_5_150, ⟨by decide, by decide⟩, by decide +kernel⟩
theorem cvL_26 : am_CV RL 26 yX12_feed cX12_feed 6 (some .int) 5 12 := ⟨cbL_26, aw_5_147, aw_5_148, aw_5_149, by decide, _, _, rfl⟩
theorem cbL_27 : am_CB RL 27 yX11_text cX11_text 4 (some .int) 1 := ⟨aw_1_1, aw_2_77, ⟨by decide, by decide⟩, by decide +kernel⟩
theorem cvL_27 : am_CV RL 27 yX11_text cX11_text 4 (some .int) 1 11 := ⟨cbL_27, aw_2_74, aw_2_75, aw_2_76, by decide, _, _, rfl⟩
theorem cbL_31 : am_CB RL 31 yX12_text cX12_text 3 (some .int) 1 := ⟨aw_1_11, aw_5_158, ⟨by decide, by decide⟩, by decide +kernel⟩
theorem cvL_31 : am_CV RL 31 yX12_text cX12_text 3 (some .int) 1 12 := ⟨cbL_31, aw_5_155, aw_5_156, aw_5_157, by decide, _, _, rfl⟩
theorem cbL_32 : am_CB RL 32 yX11_rect cX11_rect 4 (some .int) 2 := ⟨aw_1_1, aw_3_146, ⟨by decide, by decide⟩, by decide +kernel⟩
theorem cvL_32 : am_CV RL 32 yX11_rect cX11_rect 4 (some .int) 2 11 := ⟨cbL_32, aw_3_143, aw_3_144, aw_3_145, by decide, _, _, rfl⟩
theorem cbL_36 : am_CB RL 36 yX12_rect cX12_rect 3 (some .int) 2 := ⟨aw_1_11, aw_6_109, ⟨by decide, by decide⟩, by decide +kernel⟩
theorem cvL_36 : am_CV RL 36 yX12_rect cX12_rect 3 (some .int) 2 12 := ⟨cbL_36, aw_6_106, aw_6_107, aw_6_108, by decide, _, _, rfl⟩
theorem cbL_42 : am_CB RL 42 yX12_square cX12_square 4 (some .int) 3 := ⟨aw_1_11, aw_6_150, ⟨by decide, by decide⟩, by decide +kernel⟩
theorem cvL_42 : am_CV RL 42 yX12_square cX12_square 4 (some .int) 3 12 := ⟨cbL_42, aw_6_147, aw_6_148, aw_6_149, by decide, _, _, rfl⟩
theorem cbL_43 : am_CB RL 43 yX12_thrown cX12_thrown 1 (some .int) 0 := ⟨aw_1_11, aw_5_146, ⟨by decide, by decide⟩, by decide +kernel⟩
theorem cvL_43 : am_CV RL 43 yX12_thrown cX12_thrown 1 (some .int) 0 12 := ⟨cbL_43, aw_5_143, aw_5_144, aw_5_145, by decide, _, _, rfl⟩
theorem cbL_47 : am_CB RL 47 yX11_laid cX11_laid 3 (some .int) 1 := ⟨aw_1_1, aw_3_182, ⟨by decide, by decide⟩, by decide +kernel⟩
theorem cvL_47 : am_CV RL 47 yX11_laid cX11_laid 3 (some .int) 1 11 := ⟨cbL_47, aw_3_179, aw_3_180, aw_3_181, by decide, _, _, rfl⟩
theorem cbL_50 : am_CB RL 50 yX12_laid cX12_laid 2 (some .int) 1 := ⟨aw_1_11, aw_6_158, ⟨by decide, by decide⟩, by decide +kernel⟩
theorem cvL_50 : am_CV RL 50 yX12_laid cX12_laid 2 (some .int) 1 12 := ⟨cbL_50, aw_6_155, aw_6_156, aw_6_157, by decide, _, _, rfl⟩
theorem cbL_51 : am_CB RL 51 yX11_area cX11_area 3 (some .long) 1 := ⟨aw_1_1, aw_3_186, ⟨by decide, by decide⟩, by decide +kernel⟩
theorem cvL_51 : am_CV RL 51 yX11_area cX11_area 3 (some .long) 1 11 := ⟨cbL_51, aw_3_183, aw_3_184, aw_3_185, by decide, _, _, rfl⟩
theorem cbL_55 : am_CB RL 55 yX12_area cX12_area 2 (some .long) 1 := ⟨aw_1_11, aw_6_162, ⟨by decide, by decide⟩, by decide +kernel⟩
theorem cvL_55 : am_CV RL 55 yX12_area cX12_area 2 (some .long) 1 12 := ⟨cbL_55, aw_6_159, aw_6_160, aw_6_161, by decide, _, _, rfl⟩
theorem cbL_56 : am_CB RL 56 yX11_least cX11_least 3 (some .int) 1 := ⟨aw_1_1, aw_3_193, ⟨by decide, by decide⟩, by decide +kernel⟩
theorem cvL_56 : am_CV RL 56 yX11_least cX11_least 3 (some .int) 1 11 := ⟨cbL_56, aw_3_190, aw_3_191, aw_3_192, by decide, _, _, rfl⟩
theorem cbL_59 : am_CB RL 59 yX12_least cX12_least 4 (some .int) 1 := ⟨aw_1_11, aw_6_167, ⟨by decide, by decide⟩, by decide +kernel⟩
theorem cvL_59 : am_CV RL 59 yX12_least cX12_least 4 (some .int) 1 12 := ⟨cbL_59, aw_6_164, aw_6_165, aw_6_166, by decide, _, _, rfl⟩
theorem cbL_60 : am_CB RL 60 yX11_print cX11_print 3 (some .int) 1 := ⟨aw_1_1, aw_3_201, ⟨by decide, by decide⟩, by decide +kernel⟩
theorem cvL_60 : am_CV RL 60 yX11_print cX11_print 3 (some .int) 1 11 := ⟨cbL_60, aw_3_198, aw_3_199, aw_3_200, by decide, _, _, rfl⟩
theorem cbL_63 : am_CB RL 63 yX12_print cX12_print 3 (some .int) 1 := ⟨aw_1_11, aw_6_171, ⟨by decide, by decide⟩, by decide +kernel⟩
theorem cvL_63 : am_CV RL 63 yX12_print cX12_print 3 (some .int) 1 12 := ⟨cbL_63, aw_6_168, aw_6_169, aw_6_170, by decide, _, _, rfl⟩
theorem cbL_64 : am_CB RL 64 yX11_at cX11_at 2 (some .int) 1 := ⟨aw_1_1, aw_3_222, ⟨by decide, by decide⟩, by decide +kernel⟩
theorem cvL_64 : am_CV RL 64 yX11_at cX11_at 2 (some .int) 1 11 := ⟨cbL_64, aw_3_219, aw_3_220, aw_3_221, by decide, _, _, rfl⟩
theorem cbL_67 : am_CB RL 67 yX12_at cX12_at 2 (some .int) 1 := ⟨aw_1_11, aw_6_187, ⟨by decide, by decide⟩, by decide +kernel⟩
theorem cvL_67 : am_CV RL 67 yX12_at cX12_at 2 (some .int) 1 12 := ⟨cbL_67, aw_6_184, aw_6_185, aw_6_186, by decide, _, _, rfl⟩
theorem cbL_68 : am_CB RL 68 yX11_groups cX11_groups 3 (some .int) 1 := ⟨aw_1_1, aw_3_226, ⟨by decide, by decide⟩, by decide +kernel⟩
theorem cvL_68 : am_CV RL 68 yX11_groups cX11_groups 3 (some .int) 1 11 := ⟨cbL_68, aw_3_223, aw_3_224, aw_3_225, by decide, _, _, rfl⟩
theorem cbL_71 : am_CB RL 71 yX12_groups cX12_groups 4 (some .int) 1 := ⟨aw_1_11, aw_6_191, ⟨by decide, by decide⟩, by decide +kernel⟩
theorem cvL_71 : am_CV RL 71 yX12_groups cX12_groups 4 (some .int) 1 12 := ⟨cbL_71, aw_6_188, aw_6_189, aw_6_190, by decide, _, _, rfl⟩
theorem cbL_72 : am_CB RL 72 yX11_trees cX11_trees 3 (some .long) 1 := ⟨aw_1_1, aw_3_235, ⟨by decide, by decide⟩, by decide +kernel⟩
theorem cvL_72 : am_CV RL 72 yX11_trees cX11_trees 3 (some .long) 1 11 := ⟨cbL_72, aw_3_232, aw_3_233, aw_3_234, by decide, _, _, rfl⟩
theorem cbL_75 : am_CB RL 75 yX12_trees cX12_trees 2 (some .long) 1 := ⟨aw_1_11, aw_6_195, ⟨by decide, by decide⟩, by decide +kernel⟩
theorem cvL_75 : am_CV RL 75 yX12_trees cX12_trees 2 (some .long) 1 12 := ⟨cbL_75, aw_6_192, aw_6_193, aw_6_194, by decide, _, _, rfl⟩
theorem cbL_76 : am_CB RL 76 yX11_current cX11_current 4 (some .int) 2 := ⟨aw_1_1, aw_4_1, ⟨by decide, by decide⟩, by decide +kernel⟩
theorem cvL_76 : am_CV RL 76 yX11_current cX11_current 4 (some .int) 2 11 := ⟨cbL_76, aw_3_238, aw_3_239, aw_4_0, by decide, _, _, rfl⟩
theorem cbL_79 : am_CB RL 79 yX12_current cX12_current 3 (some .int) 2 := ⟨aw_1_11, aw_6_203, ⟨by decide, by decide⟩, by decide +kernel⟩
theorem cvL_79 : am_CV RL 79 yX12_current cX12_current 3 (some .int) 2 12 := ⟨cbL_79, aw_6_200, aw_6_201, aw_6_202, by decide, _, _, rfl⟩
theorem cbL_80 : am_CB RL 80 yX11_level cX11_level 4 (some .int) 2 := ⟨aw_1_1, aw_4_10, ⟨by decide, by decide⟩, by decide +kernel⟩
theorem cvL_80 : am_CV RL 80 yX11_level cX11_level 4 (some .int) 2 11 := ⟨cbL_80, aw_4_7, aw_4_8, aw_4_9, by decide, _, _, rfl⟩
theorem cbL_83 : am_CB RL 83 yX12_level cX12_level 3 (some .int) 2 := ⟨aw_1_11, aw_6_208, ⟨by decide, by decide⟩, by decide +kernel⟩
theorem cvL_83 : am_CV RL 83 yX12_level cX12_level 3 (some .int) 2 12 := ⟨cbL_83, aw_6_205, aw_6_206, aw_6_207, by decide, _, _, rfl⟩
theorem cbL_84 : am_CB RL 84 yX11_layings cX11_layings 3 (some .int) 1 := ⟨aw_1_1, aw_4_14, ⟨by decide, by decide⟩, by decide +kernel⟩
theorem cvL_84 : am_CV RL 84 yX11_layings cX11_layings 3 (some .int) 1 11 := ⟨cbL_84, aw_4_11, aw_4_12, aw_4_13, by decide, _, _, rfl⟩
theorem cbL_87 : am_CB RL 87 yX12_layings cX12_layings 2 (some .int) 1 := ⟨aw_1_11, aw_6_212, ⟨by decide, by decide⟩, by decide +kernel⟩
theorem cvL_87 : am_CV RL 87 yX12_layings cX12_layings 2 (some .int) 1 12 := ⟨cbL_87, aw_6_209, aw_6_210, aw_6_211, by decide, _, _, rfl⟩
theorem cbL_88 : am_CB RL 88 yX11_lines cX11_lines 3 (some .int) 1 := ⟨aw_1_1, aw_4_18, ⟨by decide, by decide⟩, by decide +kernel⟩
theorem cvL_88 : am_CV RL 88 yX11_lines cX11_lines 3 (some .int) 1 11 := ⟨cbL_88, aw_4_15, aw_4_16, aw_4_17, by decide, _, _, rfl⟩
theorem cbL_91 : am_CB RL 91 yX12_lines cX12_lines 2 (some .int) 1 := ⟨aw_1_11, aw_6_216, ⟨by decide, by decide⟩, by decide +kernel⟩
theorem cvL_91 : am_CV RL 91 yX12_lines cX12_lines 2 (some .int) 1 12 := ⟨cbL_91, aw_6_213, aw_6_214, aw_6_215, by decide, _, _, rfl⟩
theorem cbL_94 : am_CB RL 94 yX12_line cX12_line 5 (some .int) 3 := ⟨aw_1_11, aw_6_232, ⟨by decide, by decide⟩, by decide +kernel⟩
theorem cvL_94 : am_CV RL 94 yX12_line cX12_line 5 (some .int) 3 12 := ⟨cbL_94, aw_6_229, aw_6_230, aw_6_231, by decide, _, _, rfl⟩
theorem cbL_100 : am_CB RL 100 yX11_alike cX11_alike 8 (some .int) 2 := ⟨aw_1_1, aw_4_50, ⟨by decide, by decide⟩, by decide +kernel⟩
theorem cvL_100 : am_CV RL 100 yX11_alike cX11_alike 8 (some .int) 2 11 := ⟨cbL_100, aw_4_47, aw_4_48, aw_4_49, by decide, _, _, rfl⟩
theorem cbL_103 : am_CB RL 103 yX12_alike cX12_alike 4 (some .int) 2 := ⟨aw_1_11, aw_7_1, ⟨by decide, by decide⟩, by decide +kernel⟩
theorem cvL_103 : am_CV RL 103 yX12_alike cX12_alike 4 (some .int) 2 12 := ⟨cbL_103, aw_6_238, aw_6_239, aw_7_0, by decide, _, _, rfl⟩
theorem cbL_113 : am_CB RL 113 yX11_turn cX11_turn 4 (some .int) 2 := ⟨aw_1_1, aw_4_107, ⟨by decide, by decide⟩, by decide +kernel⟩
theorem cvL_113 : am_CV RL 113 yX11_turn cX11_turn 4 (some .int) 2 11 := ⟨cbL_113, aw_4_104, aw_4_105, aw_4_106, by decide, _, _, rfl⟩
theorem cbL_116 : am_CB RL 116 yX12_turn cX12_turn 3 (some .int) 2 := ⟨aw_1_11, aw_7_54, ⟨by decide, by decide⟩, by decide +kernel⟩
theorem cvL_116 : am_CV RL 116 yX12_turn cX12_turn 3 (some .int) 2 12 := ⟨cbL_116, aw_7_51, aw_7_52, aw_7_53, by decide, _, _, rfl⟩
theorem cbL_117 : am_CB RL 117 yX11_times cX11_times 8 (some .int) 2 := ⟨aw_1_1, aw_4_111, ⟨by decide, by decide⟩, by decide +kernel⟩
theorem cvL_117 : am_CV RL 117 yX11_times cX11_times 8 (some .int) 2 11 := ⟨cbL_117, aw_4_108, aw_4_109, aw_4_110, by decide, _, _, rfl⟩
theorem cbL_120 : am_CB RL 120 yX12_times cX12_times 3 (some .int) 2 := ⟨aw_1_11, aw_7_58, ⟨by decide, by decide⟩, by decide +kernel⟩
theorem cvL_120 : am_CV RL 120 yX12_times cX12_times 3 (some .int) 2 12 := ⟨cbL_120, aw_7_55, aw_7_56, aw_7_57, by decide, _, _, rfl⟩
theorem cbL_121 : am_CB RL 121 yX11_lessen cX11_lessen 3 (some .int) 1 := ⟨aw_1_1, aw_4_115, ⟨by decide, by decide⟩, by decide +kernel⟩
theorem cvL_121 : am_CV RL 121 yX11_lessen cX11_lessen 3 (some .int) 1 11 := ⟨cbL_121, aw_4_112, aw_4_113, aw_4_114, by decide, _, _, rfl⟩
theorem cbL_124 : am_CB RL 124 yX12_lessen cX12_lessen 5 (some .int) 1 := ⟨aw_1_11, aw_7_67, ⟨by decide, by decide⟩, by decide +kernel⟩
theorem cvL_124 : am_CV RL 124 yX12_lessen cX12_lessen 5 (some .int) 1 12 := ⟨cbL_124, aw_7_64, aw_7_65, aw_7_66, by decide, _, _, rfl⟩
theorem cbL_125 : am_CB RL 125 yX11_undo cX11_undo 1 (some .int) 0 := ⟨aw_1_1, aw_4_119, ⟨by decide, by decide⟩, by decide +kernel⟩
theorem cvL_125 : am_CV RL 125 yX11_undo cX11_undo 1 (some .int) 0 11 := ⟨cbL_125, aw_4_116, aw_4_117, aw_4_118, by decide, _, _, rfl⟩
theorem cbL_128 : am_CB RL 128 yX12_undo cX12_undo 1 (some .int) 0 := ⟨aw_1_11, aw_7_71, ⟨by decide, by decide⟩, by decide +kernel⟩
theorem cvL_128 : am_CV RL 128 yX12_undo cX12_undo 1 (some .int) 0 12 := ⟨cbL_128, aw_7_68, aw_7_69, aw_7_70, by decide, _, _, rfl⟩
theorem cbL_134 : am_CB RL 134 yX11_count cX11_count 2 (some .int) 1 := ⟨aw_1_1, aw_4_135, ⟨by decide, by decide⟩, by decide +kernel⟩
theorem cvL_134 : am_CV RL 134 yX11_count cX11_count 2 (some .int) 1 11 := ⟨cbL_134, aw_4_132, aw_4_133, aw_4_134, by decide, _, _, rfl⟩
theorem cbL_137 : am_CB RL 137 yX12_count cX12_count 4 (some .int) 1 := ⟨aw_1_11, aw_7_79, ⟨by decide, by decide⟩, by decide +kernel⟩
theorem cvL_137 : am_CV RL 137 yX12_count cX12_count 4 (some .int) 1 12 := ⟨cbL_137, aw_7_76, aw_7_77, aw_7_78, by decide, _, _, rfl⟩
theorem cbL_95 : am_CB RL 95 yX11_side cX11_side 5 (some .int) 3 := ⟨aw_1_1, aw_4_41, ⟨by decide, by decide⟩, by decide +kernel⟩
theorem cvL_95 : am_CV RL 95 yX11_side cX11_side 5 (some .int) 3 11 := ⟨cbL_95, aw_4_38, aw_4_39, aw_4_40, by decide, _, _, rfl⟩
theorem cbL_99 : am_CB RL 99 yX12_side cX12_side 6 (some .int) 3 := ⟨aw_1_11, aw_6_237, ⟨by decide, by decide⟩, by decide +kernel⟩
theorem cvL_99 : am_CV RL 99 yX12_side cX12_side 6 (some .int) 3 12 := ⟨cbL_99, aw_6_234, aw_6_235, aw_6_236, by decide, _, _, rfl⟩
theorem cbL_104 : am_CB RL 104 yX11_join cX11_join 19 (some .int) 3 := ⟨aw_1_1, aw_4_79, ⟨by decide, by decide⟩, by decide +kernel⟩
theorem cvL_104 : am_CV RL 104 yX11_join cX11_join 19 (some .int) 3 11 := ⟨cbL_104, aw_4_76, aw_4_77, aw_4_78, by decide, _, _, rfl⟩
theorem cbL_107 : am_CB RL 107 yX12_join cX12_join 18 (some .int) 3 := ⟨aw_1_11, aw_7_25, ⟨by decide, by decide⟩, by decide +kernel⟩
theorem cvL_107 : am_CV RL 107 yX12_join cX12_join 18 (some .int) 3 12 := ⟨cbL_107, aw_7_22, aw_7_23, aw_7_24, by decide, _, _, rfl⟩
theorem cbL_108 : am_CB RL 108 yX11_grow cX11_grow 10 (some .int) 2 := ⟨aw_1_1, aw_4_102, ⟨by decide, by decide⟩, by decide +kernel⟩
theorem cvL_108 : am_CV RL 108 yX11_grow cX11_grow 10 (some .int) 2 11 := ⟨cbL_108, aw_4_99, aw_4_100, aw_4_101, by decide, _, _, rfl⟩
theorem cbL_112 : am_CB RL 112 yX12_grow cX12_grow 4 (some .int) 2 := ⟨aw_1_11, aw_7_50, ⟨by decide, by decide⟩, by decide +kernel⟩
theorem cvL_112 : am_CV RL 112 yX12_grow cX12_grow 4 (some .int) 2 12 := ⟨cbL_112, aw_7_47, aw_7_48, aw_7_49, by decide, _, _, rfl⟩
theorem cbL_129 : am_CB RL 129 yX11_keep cX11_keep 4 (some .boolean) 2 := ⟨aw_1_1, aw_4_127, ⟨by decide, by decide⟩, by decide +kernel⟩
theorem cvL_129 : am_CV RL 129 yX11_keep cX11_keep 4 (some .boolean) 2 11 := ⟨cbL_129, aw_4_124, aw_4_125, aw_4_126, by decide, _, _, rfl⟩
theorem cbL_133 : am_CB RL 133 yX12_keep cX12_keep 4 (some .boolean) 2 := ⟨aw_1_11, aw_7_75, ⟨by decide, by decide⟩, by decide +kernel⟩
theorem cvL_133 : am_CV RL 133 yX12_keep cX12_keep 4 (some .boolean) 2 12 := ⟨cbL_133, aw_7_72, aw_7_73, aw_7_74, by decide, _, _, rfl⟩
def fnL_law_b1166 (N : Nat) (Ls : Nat) (xs : Nat → Int32) (k23 : Nat → Nat → Nat → Int32 → am_Mem → Option (Int32 × am_Mem)) (r1 : Nat) (r2 : Nat) (r3 : Nat) (x4 : Int32) (M : am_Mem) : Option (Int32 × am_Mem) :=
  k23 r1 r2 r3 (x4 + (6 : Int32)) M
def fnL_law_b372 (N : Nat) (Ls : Nat) (xs : Nat → Int32) (k23 : Nat → Nat → Nat → Int32 → am_Mem → Option (Int32 × am_Mem)) (r1 : Nat) (r2 : Nat) (r3 : Nat) (x4 : Int32) (M : am_Mem) : Option (Int32 × am_Mem) :=
  fnL_law_b1166 N Ls xs k23 r1 r2 r3 x4 M
def fnL_law_b753 (N : Nat) (Ls : Nat) (xs : Nat → Int32) (k23 : Nat → Nat → Nat → Int32 → am_Mem → Option (Int32 × am_Mem)) (r1 : Nat) (r2 : Nat) (r3 : Nat) (x4 : Int32) (M : am_Mem) : Option (Int32 × am_Mem) :=
  fnL_law_b1166 N Ls xs k23 r1 r2 r3 x4 M
def fnL_law_b813 (N : Nat) (Ls : Nat) (xs : Nat → Int32) (k23 : Nat → Nat → Nat → Int32 → am_Mem → Option (Int32 × am_Mem)) (a0 : Int32) (c1 : Nat) (a2 : Int32) (a3 : Int32) (a4 : Int32) (r1 : Nat) (r2 : Nat) (r3 : Nat) (x4 : Int32) (M : am_Mem) : Option (Int32 × am_Mem) :=
  am_ck (am_k M c1 12) (am_bd (fn12_side N M c1 a2 a3 a4) (fun v2 M3 => if a0 = v2 then fnL_law_b1166 N Ls xs k23 r1 r2 r3 x4 M3 else some ((0 : Int32), M3)))
def fnL_law_b783 (N : Nat) (Ls : Nat) (xs : Nat → Int32) (k23 : Nat → Nat → Nat → Int32 → am_Mem → Option (Int32 × am_Mem)) (c0 : Nat) (a1 : Int32) (a2 : Int32) (a3 : Int32) (r1 : Nat) (r2 : Nat) (r3 : Nat) (x4 : Int32) (M : am_Mem) : Option (Int32 × am_Mem) :=
  am_ck (am_k M c0 11) (am_bd (fn11_side N M c0 a1 a2 a3) (fun v2 M3 => am_ck (am_in (x4 + (1 : Int32)) Ls) (am_ck (am_in (x4 + (2 : Int32)) Ls) (am_ck (am_in (x4 + (3 : Int32)) Ls) (if (xs (x4 + (3 : Int32)).toNatClampNeg) = 0 then fnL_law_b813 N Ls xs k23 v2 r2 (xs (x4 + (1 : Int32)).toNatClampNeg) (xs (x4 + (2 : Int32)).toNatClampNeg) (0 : Int32) r1 r2 r3 x4 M3 else fnL_law_b813 N Ls xs k23 v2 r2 (xs (x4 + (1 : Int32)).toNatClampNeg) (xs (x4 + (2 : Int32)).toNatClampNeg) (1 : Int32) r1 r2 r3 x4 M3)))))
def fnL_law_b915 (N : Nat) (Ls : Nat) (xs : Nat → Int32) (k23 : Nat → Nat → Nat → Int32 → am_Mem → Option (Int32 × am_Mem)) (a0 : Int32) (c1 : Nat) (a2 : Int32) (a3 : Int32) (a4 : Int32) (r1 : Nat) (r2 : Nat) (r3 : Nat) (x4 : Int32) (M : am_Mem) : Option (Int32 × am_Mem) :=
  am_ck (am_k M c1 12) (am_bd (fn12_join N M c1 a2 a3 a4) (fun v2 M3 => if a0 = v2 then fnL_law_b1166 N Ls xs k23 r1 r2 r3 x4 M3 else some ((0 : Int32), M3)))
def fnL_law_b885 (N : Nat) (Ls : Nat) (xs : Nat → Int32) (k23 : Nat → Nat → Nat → Int32 → am_Mem → Option (Int32 × am_Mem)) (c0 : Nat) (a1 : Int32) (a2 : Int32) (a3 : Int32) (r1 : Nat) (r2 : Nat) (r3 : Nat) (x4 : Int32) (M : am_Mem) : Option (Int32 × am_Mem) :=
  am_ck (am_k M c0 11) (am_bd (fn11_join N M c0 a1 a2 a3) (fun v2 M3 => am_ck (am_in (x4 + (1 : Int32)) Ls) (am_ck (am_in (x4 + (2 : Int32)) Ls) (am_ck (am_in (x4 + (3 : Int32)) Ls) (if (xs (x4 + (3 : Int32)).toNatClampNeg) = 0 then fnL_law_b915 N Ls xs k23 v2 r2 (xs (x4 + (1 : Int32)).toNatClampNeg) (xs (x4 + (2 : Int32)).toNatClampNeg) (0 : Int32) r1 r2 r3 x4 M3 else fnL_law_b915 N Ls xs k23 v2 r2 (xs (x4 + (1 : Int32)).toNatClampNeg) (xs (x4 + (2 : Int32)).toNatClampNeg) (1 : Int32) r1 r2 r3 x4 M3)))))
def fnL_law_b968 (N : Nat) (Ls : Nat) (xs : Nat → Int32) (k23 : Nat → Nat → Nat → Int32 → am_Mem → Option (Int32 × am_Mem)) (a0 : Int32) (c1 : Nat) (a2 : Int32) (a3 : Int32) (r1 : Nat) (r2 : Nat) (r3 : Nat) (x4 : Int32) (M : am_Mem) : Option (Int32 × am_Mem) :=
  am_ck (am_k M c1 12) (am_bd (fn12_grow N M c1 a2 a3) (fun v2 M3 => if a0 = v2 then fnL_law_b1166 N Ls xs k23 r1 r2 r3 x4 M3 else some ((0 : Int32), M3)))
def fnL_law_b944 (N : Nat) (Ls : Nat) (xs : Nat → Int32) (k23 : Nat → Nat → Nat → Int32 → am_Mem → Option (Int32 × am_Mem)) (c0 : Nat) (a1 : Int32) (a2 : Int32) (r1 : Nat) (r2 : Nat) (r3 : Nat) (x4 : Int32) (M : am_Mem) : Option (Int32 × am_Mem) :=
  am_ck (am_k M c0 11) (am_bd (fn11_grow N M c0 a1 a2) (fun v2 M3 => am_ck (am_in (x4 + (1 : Int32)) Ls) (am_ck (am_in (x4 + (2 : Int32)) Ls) (if (xs (x4 + (2 : Int32)).toNatClampNeg) = 0 then fnL_law_b968 N Ls xs k23 v2 r2 (xs (x4 + (1 : Int32)).toNatClampNeg) (0 : Int32) r1 r2 r3 x4 M3 else fnL_law_b968 N Ls xs k23 v2 r2 (xs (x4 + (1 : Int32)).toNatClampNeg) (1 : Int32) r1 r2 r3 x4 M3))))
def fnL_law_b1133 (N : Nat) (Ls : Nat) (xs : Nat → Int32) (k23 : Nat → Nat → Nat → Int32 → am_Mem → Option (Int32 × am_Mem)) (a0 : Int32) (c1 : Nat) (a2 : Int32) (a3 : Int32) (r1 : Nat) (r2 : Nat) (r3 : Nat) (x4 : Int32) (M : am_Mem) : Option (Int32 × am_Mem) :=
  am_ck (am_k M c1 12) (am_bd (fn12_keep N M c1 a2 a3) (fun v2 M3 => if a0 = v2 then fnL_law_b1166 N Ls xs k23 r1 r2 r3 x4 M3 else some ((0 : Int32), M3)))
def fnL_law_b1109 (N : Nat) (Ls : Nat) (xs : Nat → Int32) (k23 : Nat → Nat → Nat → Int32 → am_Mem → Option (Int32 × am_Mem)) (c0 : Nat) (a1 : Int32) (a2 : Int32) (r1 : Nat) (r2 : Nat) (r3 : Nat) (x4 : Int32) (M : am_Mem) : Option (Int32 × am_Mem) :=
  am_ck (am_k M c0 11) (am_bd (fn11_keep N M c0 a1 a2) (fun v2 M3 => am_ck (am_in (x4 + (1 : Int32)) Ls) (am_ck (am_in (x4 + (2 : Int32)) Ls) (if (xs (x4 + (2 : Int32)).toNatClampNeg) = 0 then fnL_law_b1133 N Ls xs k23 v2 r2 (xs (x4 + (1 : Int32)).toNatClampNeg) (0 : Int32) r1 r2 r3 x4 M3 else fnL_law_b1133 N Ls xs k23 v2 r2 (xs (x4 + (1 : Int32)).toNatClampNeg) (1 : Int32) r1 r2 r3 x4 M3))))
def fnL_law_b23B (N : Nat) (Ls : Nat) (xs : Nat → Int32) (k23 : Nat → Nat → Nat → Int32 → am_Mem → Option (Int32 × am_Mem)) (r1 : Nat) (r2 : Nat) (r3 : Nat) (x4 : Int32) (M : am_Mem) : Option (Int32 × am_Mem) :=
  if ((Int32.ofNat Ls) - (6 : Int32)) < x4 then some ((1 : Int32), M) else am_ck (am_in x4 Ls) (if ((xs x4.toNatClampNeg) &&& (31 : Int32)) = (0 : Int32) then (am_ck (am_in (x4 + (1 : Int32)) Ls) (am_ck (am_in (x4 + (2 : Int32)) Ls) (am_ck (am_in (x4 + (3 : Int32)) Ls) (am_ck (am_in (x4 + (4 : Int32)) Ls) (am_ck (am_in (x4 + (5 : Int32)) Ls) (am_ck (am_k M r1 11) (am_bd (fn11_feed N M r1 (xs (x4 + (1 : Int32)).toNatClampNeg) (xs (x4 + (2 : Int32)).toNatClampNeg) (xs (x4 + (3 : Int32)).toNatClampNeg) (xs (x4 + (4 : Int32)).toNatClampNeg) (xs (x4 + (5 : Int32)).toNatClampNeg)) (fun v9 M10 => am_ck (am_in (x4 + (1 : Int32)) Ls) (am_ck (am_in (x4 + (2 : Int32)) Ls) (am_ck (am_in (x4 + (3 : Int32)) Ls) (am_ck (am_in (x4 + (4 : Int32)) Ls) (am_ck (am_in (x4 + (5 : Int32)) Ls) (am_ck (am_k M10 r2 12) (am_bd (fn12_feed N M10 r2 (xs (x4 + (1 : Int32)).toNatClampNeg) (xs (x4 + (2 : Int32)).toNatClampNeg) (xs (x4 + (3 : Int32)).toNatClampNeg) (xs (x4 + (4 : Int32)).toNatClampNeg) (xs (x4 + (5 : Int32)).toNatClampNeg)) (fun v18 M19 => if v9 = v18 then fnL_law_b1166 N Ls xs k23 r1 r2 r3 x4 M19 else some ((0 : Int32), M19)))))))))))))))) else (if ((xs x4.toNatClampNeg) &&& (31 : Int32)) = (1 : Int32) then (am_ck (am_in (x4 + (1 : Int32)) Ls) (am_ck (am_k M r1 11) (am_bd (fn11_text N M r1 (xs (x4 + (1 : Int32)).toNatClampNeg)) (fun v24 M25 => am_ck (am_in (x4 + (1 : Int32)) Ls) (am_ck (am_k M25 r2 12) (am_bd (fn12_text N M25 r2 (xs (x4 + (1 : Int32)).toNatClampNeg)) (fun v29 M30 => if v24 = v29 then fnL_law_b1166 N Ls xs k23 r1 r2 r3 x4 M30 else some ((0 : Int32), M30)))))))) else (if ((xs x4.toNatClampNeg) &&& (31 : Int32)) = (2 : Int32) then (am_ck (am_in (x4 + (1 : Int32)) Ls) (am_ck (am_in (x4 + (2 : Int32)) Ls) (am_ck (am_k M r1 11) (am_bd (fn11_rect N M r1 (xs (x4 + (1 : Int32)).toNatClampNeg) (xs (x4 + (2 : Int32)).toNatClampNeg)) (fun v36 M37 => am_ck (am_in (x4 + (1 : Int32)) Ls) (am_ck (am_in (x4 + (2 : Int32)) Ls) (am_ck (am_k M37 r2 12) (am_bd (fn12_rect N M37 r2 (xs (x4 + (1 : Int32)).toNatClampNeg) (xs (x4 + (2 : Int32)).toNatClampNeg)) (fun v42 M43 => if v36 = v42 then fnL_law_b1166 N Ls xs k23 r1 r2 r3 x4 M43 else some ((0 : Int32), M43)))))))))) else (if ((xs x4.toNatClampNeg) &&& (31 : Int32)) = (3 : Int32) then (am_ck (am_in (x4 + (1 : Int32)) Ls) (am_ck (am_in (x4 + (2 : Int32)) Ls) (am_ck (am_in (x4 + (3 : Int32)) Ls) (am_bd (fnL_square M r1 (xs (x4 + (1 : Int32)).toNatClampNeg) (xs (x4 + (2 : Int32)).toNatClampNeg) (xs (x4 + (3 : Int32)).toNatClampNeg) r3) (fun v49 M50 => am_ck (am_in (x4 + (1 : Int32)) Ls) (am_ck (am_in (x4 + (2 : Int32)) Ls) (am_ck (am_in (x4 + (3 : Int32)) Ls) (am_ck (am_k M50 r2 12) (am_bd (fn12_square M50 r2 (xs (x4 + (1 : Int32)).toNatClampNeg) (xs (x4 + (2 : Int32)).toNatClampNeg) (xs (x4 + (3 : Int32)).toNatClampNeg)) (fun v56 M57 => am_ck (am_k M57 r2 12) (am_bd (fn12_thrown M57 r2) (fun v60 M61 => if v60 = v49 then if v49 = 0 then am_ck (am_k M61 r3 15) (am_ck (am_in (0 : Int32) (am_L M61 r3)) (if (lg_cmp (am_J M61 r3 (0 : Int32).toNatClampNeg) v56.toInt64) = 0 then fnL_law_b372 N Ls xs k23 r1 r2 r3 x4 M61 else some ((0 : Int32), M61))) else fnL_law_b372 N Ls xs k23 r1 r2 r3 x4 M61 else some ((0 : Int32), M61))))))))))))) else (if ((xs x4.toNatClampNeg) &&& (31 : Int32)) = (4 : Int32) then (am_ck (am_in (x4 + (1 : Int32)) Ls) (am_ck (am_k M r1 11) (am_bd (fn11_laid M r1 (xs (x4 + (1 : Int32)).toNatClampNeg)) (fun v68 M69 => am_ck (am_in (x4 + (1 : Int32)) Ls) (am_ck (am_k M69 r2 12) (am_bd (fn12_laid M69 r2 (xs (x4 + (1 : Int32)).toNatClampNeg)) (fun v73 M74 => if v68 = v73 then fnL_law_b1166 N Ls xs k23 r1 r2 r3 x4 M74 else some ((0 : Int32), M74)))))))) else (if ((xs x4.toNatClampNeg) &&& (31 : Int32)) = (5 : Int32) then (am_ck (am_in (x4 + (1 : Int32)) Ls) (am_ck (am_k M r1 11) (am_bd (fn11_area M r1 (xs (x4 + (1 : Int32)).toNatClampNeg)) (fun v79 M80 => am_ck (am_in (x4 + (1 : Int32)) Ls) (am_ck (am_k M80 r2 12) (am_bd (fn12_area M80 r2 (xs (x4 + (1 : Int32)).toNatClampNeg)) (fun v84 M85 => if (lg_cmp v79 v84) = 0 then fnL_law_b1166 N Ls xs k23 r1 r2 r3 x4 M85 else some ((0 : Int32), M85)))))))) else (if ((xs x4.toNatClampNeg) &&& (31 : Int32)) = (6 : Int32) then (am_ck (am_in (x4 + (1 : Int32)) Ls) (am_ck (am_k M r1 11) (am_bd (fn11_least N M r1 (xs (x4 + (1 : Int32)).toNatClampNeg)) (fun v90 M91 => am_ck (am_in (x4 + (1 : Int32)) Ls) (am_ck (am_k M91 r2 12) (am_bd (fn12_least N M91 r2 (xs (x4 + (1 : Int32)).toNatClampNeg)) (fun v95 M96 => if v90 = v95 then fnL_law_b1166 N Ls xs k23 r1 r2 r3 x4 M96 else some ((0 : Int32), M96)))))))) else (if ((xs x4.toNatClampNeg) &&& (31 : Int32)) = (7 : Int32) then (am_ck (am_in (x4 + (1 : Int32)) Ls) (am_ck (am_k M r1 11) (am_bd (fn11_print N M r1 (xs (x4 + (1 : Int32)).toNatClampNeg)) (fun v101 M102 => am_ck (am_in (x4 + (1 : Int32)) Ls) (am_ck (am_k M102 r2 12) (am_bd (fn12_print N M102 r2 (xs (x4 + (1 : Int32)).toNatClampNeg)) (fun v106 M107 => if v101 = v106 then fnL_law_b1166 N Ls xs k23 r1 r2 r3 x4 M107 else some ((0 : Int32), M107)))))))) else (if ((xs x4.toNatClampNeg) &&& (31 : Int32)) = (8 : Int32) then (am_ck (am_in (x4 + (1 : Int32)) Ls) (am_ck (am_k M r1 11) (am_bd (fn11_at M r1 (xs (x4 + (1 : Int32)).toNatClampNeg)) (fun v112 M113 => am_ck (am_in (x4 + (1 : Int32)) Ls) (am_ck (am_k M113 r2 12) (am_bd (fn12_at M113 r2 (xs (x4 + (1 : Int32)).toNatClampNeg)) (fun v117 M118 => if v112 = v117 then fnL_law_b1166 N Ls xs k23 r1 r2 r3 x4 M118 else some ((0 : Int32), M118)))))))) else (if ((xs x4.toNatClampNeg) &&& (31 : Int32)) = (9 : Int32) then (am_ck (am_in (x4 + (1 : Int32)) Ls) (am_ck (am_k M r1 11) (am_bd (fn11_groups N M r1 (xs (x4 + (1 : Int32)).toNatClampNeg)) (fun v123 M124 => am_ck (am_in (x4 + (1 : Int32)) Ls) (am_ck (am_k M124 r2 12) (am_bd (fn12_groups N M124 r2 (xs (x4 + (1 : Int32)).toNatClampNeg)) (fun v128 M129 => if v123 = v128 then fnL_law_b1166 N Ls xs k23 r1 r2 r3 x4 M129 else some ((0 : Int32), M129)))))))) else (if ((xs x4.toNatClampNeg) &&& (31 : Int32)) = (10 : Int32) then (am_ck (am_in (x4 + (1 : Int32)) Ls) (am_ck (am_k M r1 11) (am_bd (fn11_trees M r1 (xs (x4 + (1 : Int32)).toNatClampNeg)) (fun v134 M135 => am_ck (am_in (x4 + (1 : Int32)) Ls) (am_ck (am_k M135 r2 12) (am_bd (fn12_trees M135 r2 (xs (x4 + (1 : Int32)).toNatClampNeg)) (fun v139 M140 => if (lg_cmp v134 v139) = 0 then fnL_law_b1166 N Ls xs k23 r1 r2 r3 x4 M140 else some ((0 : Int32), M140)))))))) else (if ((xs x4.toNatClampNeg) &&& (31 : Int32)) = (11 : Int32) then (am_ck (am_in (x4 + (1 : Int32)) Ls) (am_ck (am_in (x4 + (2 : Int32)) Ls) (am_ck (am_k M r1 11) (am_bd (fn11_current M r1 (xs (x4 + (1 : Int32)).toNatClampNeg) (xs (x4 + (2 : Int32)).toNatClampNeg)) (fun v146 M147 => am_ck (am_in (x4 + (1 : Int32)) Ls) (am_ck (am_in (x4 + (2 : Int32)) Ls) (am_ck (am_k M147 r2 12) (am_bd (fn12_current M147 r2 (xs (x4 + (1 : Int32)).toNatClampNeg) (xs (x4 + (2 : Int32)).toNatClampNeg)) (fun v152 M153 => if v146 = v152 then fnL_law_b1166 N Ls xs k23 r1 r2 r3 x4 M153 else some ((0 : Int32), M153)))))))))) else (if ((xs x4.toNatClampNeg) &&& (31 : Int32)) = (12 : Int32) then (am_ck (am_in (x4 + (1 : Int32)) Ls) (am_ck (am_in (x4 + (2 : Int32)) Ls) (am_ck (am_k M r1 11) (am_bd (fn11_level M r1 (xs (x4 + (1 : Int32)).toNatClampNeg) (xs (x4 + (2 : Int32)).toNatClampNeg)) (fun v159 M160 => am_ck (am_in (x4 + (1 : Int32)) Ls) (am_ck (am_in (x4 + (2 : Int32)) Ls) (am_ck (am_k M160 r2 12) (am_bd (fn12_level M160 r2 (xs (x4 + (1 : Int32)).toNatClampNeg) (xs (x4 + (2 : Int32)).toNatClampNeg)) (fun v165 M166 => if v159 = v165 then fnL_law_b1166 N Ls xs k23 r1 r2 r3 x4 M166 else some ((0 : Int32), M166)))))))))) else (if ((xs x4.toNatClampNeg) &&& (31 : Int32)) = (13 : Int32) then (am_ck (am_in (x4 + (1 : Int32)) Ls) (am_ck (am_k M r1 11) (am_bd (fn11_layings M r1 (xs (x4 + (1 : Int32)).toNatClampNeg)) (fun v171 M172 => am_ck (am_in (x4 + (1 : Int32)) Ls) (am_ck (am_k M172 r2 12) (am_bd (fn12_layings M172 r2 (xs (x4 + (1 : Int32)).toNatClampNeg)) (fun v176 M177 => if v171 = v176 then fnL_law_b1166 N Ls xs k23 r1 r2 r3 x4 M177 else some ((0 : Int32), M177)))))))) else (if ((xs x4.toNatClampNeg) &&& (31 : Int32)) = (14 : Int32) then (am_ck (am_in (x4 + (1 : Int32)) Ls) (am_ck (am_k M r1 11) (am_bd (fn11_lines N M r1 (xs (x4 + (1 : Int32)).toNatClampNeg)) (fun v182 M183 => am_ck (am_in (x4 + (1 : Int32)) Ls) (am_ck (am_k M183 r2 12) (am_bd (fn12_lines N M183 r2 (xs (x4 + (1 : Int32)).toNatClampNeg)) (fun v187 M188 => if v182 = v187 then fnL_law_b1166 N Ls xs k23 r1 r2 r3 x4 M188 else some ((0 : Int32), M188)))))))) else (if ((xs x4.toNatClampNeg) &&& (31 : Int32)) = (15 : Int32) then (am_ck (am_in (x4 + (1 : Int32)) Ls) (am_ck (am_in (x4 + (2 : Int32)) Ls) (am_ck (am_in (x4 + (3 : Int32)) Ls) (am_bd (fnL_line N M r1 (xs (x4 + (1 : Int32)).toNatClampNeg) (xs (x4 + (2 : Int32)).toNatClampNeg) (xs (x4 + (3 : Int32)).toNatClampNeg) r3) (fun v194 M195 => am_ck (am_in (x4 + (1 : Int32)) Ls) (am_ck (am_in (x4 + (2 : Int32)) Ls) (am_ck (am_in (x4 + (3 : Int32)) Ls) (am_ck (am_k M195 r2 12) (am_bd (fn12_line N M195 r2 (xs (x4 + (1 : Int32)).toNatClampNeg) (xs (x4 + (2 : Int32)).toNatClampNeg) (xs (x4 + (3 : Int32)).toNatClampNeg)) (fun v201 M202 => am_ck (am_k M202 r2 12) (am_bd (fn12_thrown M202 r2) (fun v205 M206 => if v205 = v194 then if v194 = 0 then am_ck (am_k M206 r3 15) (am_ck (am_in (0 : Int32) (am_L M206 r3)) (if (lg_cmp (am_J M206 r3 (0 : Int32).toNatClampNeg) v201.toInt64) = 0 then fnL_law_b753 N Ls xs k23 r1 r2 r3 x4 M206 else some ((0 : Int32), M206))) else fnL_law_b753 N Ls xs k23 r1 r2 r3 x4 M206 else some ((0 : Int32), M206))))))))))))) else (if ((xs x4.toNatClampNeg) &&& (31 : Int32)) = (16 : Int32) then (am_ck (am_in (x4 + (1 : Int32)) Ls) (am_ck (am_in (x4 + (2 : Int32)) Ls) (am_ck (am_in (x4 + (3 : Int32)) Ls) (if (xs (x4 + (3 : Int32)).toNatClampNeg) = 0 then fnL_law_b783 N Ls xs k23 r1 (xs (x4 + (1 : Int32)).toNatClampNeg) (xs (x4 + (2 : Int32)).toNatClampNeg) (0 : Int32) r1 r2 r3 x4 M else fnL_law_b783 N Ls xs k23 r1 (xs (x4 + (1 : Int32)).toNatClampNeg) (xs (x4 + (2 : Int32)).toNatClampNeg) (1 : Int32) r1 r2 r3 x4 M)))) else (if ((xs x4.toNatClampNeg) &&& (31 : Int32)) = (17 : Int32) then (am_ck (am_in (x4 + (1 : Int32)) Ls) (am_ck (am_in (x4 + (2 : Int32)) Ls) (am_ck (am_k M r1 11) (am_bd (fn11_alike N M r1 (xs (x4 + (1 : Int32)).toNatClampNeg) (xs (x4 + (2 : Int32)).toNatClampNeg)) (fun v218 M219 => am_ck (am_in (x4 + (1 : Int32)) Ls) (am_ck (am_in (x4 + (2 : Int32)) Ls) (am_ck (am_k M219 r2 12) (am_bd (fn12_alike N M219 r2 (xs (x4 + (1 : Int32)).toNatClampNeg) (xs (x4 + (2 : Int32)).toNatClampNeg)) (fun v224 M225 => if v218 = v224 then fnL_law_b1166 N Ls xs k23 r1 r2 r3 x4 M225 else some ((0 : Int32), M225)))))))))) else (if ((xs x4.toNatClampNeg) &&& (31 : Int32)) = (18 : Int32) then (am_ck (am_in (x4 + (1 : Int32)) Ls) (am_ck (am_in (x4 + (2 : Int32)) Ls) (am_ck (am_in (x4 + (3 : Int32)) Ls) (if (xs (x4 + (3 : Int32)).toNatClampNeg) = 0 then fnL_law_b885 N Ls xs k23 r1 (xs (x4 + (1 : Int32)).toNatClampNeg) (xs (x4 + (2 : Int32)).toNatClampNeg) (0 : Int32) r1 r2 r3 x4 M else fnL_law_b885 N Ls xs k23 r1 (xs (x4 + (1 : Int32)).toNatClampNeg) (xs (x4 + (2 : Int32)).toNatClampNeg) (1 : Int32) r1 r2 r3 x4 M)))) else (if ((xs x4.toNatClampNeg) &&& (31 : Int32)) = (19 : Int32) then (am_ck (am_in (x4 + (1 : Int32)) Ls) (am_ck (am_in (x4 + (2 : Int32)) Ls) (if (xs (x4 + (2 : Int32)).toNatClampNeg) = 0 then fnL_law_b944 N Ls xs k23 r1 (xs (x4 + (1 : Int32)).toNatClampNeg) (0 : Int32) r1 r2 r3 x4 M else fnL_law_b944 N Ls xs k23 r1 (xs (x4 + (1 : Int32)).toNatClampNeg) (1 : Int32) r1 r2 r3 x4 M))) else (if ((xs x4.toNatClampNeg) &&& (31 : Int32)) = (20 : Int32) then (am_ck (am_in (x4 + (1 : Int32)) Ls) (am_ck (am_in (x4 + (2 : Int32)) Ls) (am_ck (am_k M r1 11) (am_bd (fn11_turn N M r1 (xs (x4 + (1 : Int32)).toNatClampNeg) (xs (x4 + (2 : Int32)).toNatClampNeg)) (fun v238 M239 => am_ck (am_in (x4 + (1 : Int32)) Ls) (am_ck (am_in (x4 + (2 : Int32)) Ls) (am_ck (am_k M239 r2 12) (am_bd (fn12_turn N M239 r2 (xs (x4 + (1 : Int32)).toNatClampNeg) (xs (x4 + (2 : Int32)).toNatClampNeg)) (fun v244 M245 => if v238 = v244 then fnL_law_b1166 N Ls xs k23 r1 r2 r3 x4 M245 else some ((0 : Int32), M245)))))))))) else (if ((xs x4.toNatClampNeg) &&& (31 : Int32)) = (21 : Int32) then (am_ck (am_in (x4 + (1 : Int32)) Ls) (am_ck (am_in (x4 + (2 : Int32)) Ls) (am_ck (am_k M r1 11) (am_bd (fn11_times N M r1 (xs (x4 + (1 : Int32)).toNatClampNeg) (xs (x4 + (2 : Int32)).toNatClampNeg)) (fun v251 M252 => am_ck (am_in (x4 + (1 : Int32)) Ls) (am_ck (am_in (x4 + (2 : Int32)) Ls) (am_ck (am_k M252 r2 12) (am_bd (fn12_times N M252 r2 (xs (x4 + (1 : Int32)).toNatClampNeg) (xs (x4 + (2 : Int32)).toNatClampNeg)) (fun v257 M258 => if v251 = v257 then fnL_law_b1166 N Ls xs k23 r1 r2 r3 x4 M258 else some ((0 : Int32), M258)))))))))) else (if ((xs x4.toNatClampNeg) &&& (31 : Int32)) = (22 : Int32) then (am_ck (am_in (x4 + (1 : Int32)) Ls) (am_ck (am_k M r1 11) (am_bd (fn11_lessen N M r1 (xs (x4 + (1 : Int32)).toNatClampNeg)) (fun v263 M264 => am_ck (am_in (x4 + (1 : Int32)) Ls) (am_ck (am_k M264 r2 12) (am_bd (fn12_lessen N M264 r2 (xs (x4 + (1 : Int32)).toNatClampNeg)) (fun v268 M269 => if v263 = v268 then fnL_law_b1166 N Ls xs k23 r1 r2 r3 x4 M269 else some ((0 : Int32), M269)))))))) else (if ((xs x4.toNatClampNeg) &&& (31 : Int32)) = (23 : Int32) then (am_ck (am_k M r1 11) (am_bd (fn11_undo M r1) (fun v273 M274 => am_ck (am_k M274 r2 12) (am_bd (fn12_undo M274 r2) (fun v277 M278 => if v273 = v277 then fnL_law_b1166 N Ls xs k23 r1 r2 r3 x4 M278 else some ((0 : Int32), M278)))))) else (if ((xs x4.toNatClampNeg) &&& (31 : Int32)) = (24 : Int32) then (am_ck (am_in (x4 + (1 : Int32)) Ls) (am_ck (am_in (x4 + (2 : Int32)) Ls) (if (xs (x4 + (2 : Int32)).toNatClampNeg) = 0 then fnL_law_b1109 N Ls xs k23 r1 (xs (x4 + (1 : Int32)).toNatClampNeg) (0 : Int32) r1 r2 r3 x4 M else fnL_law_b1109 N Ls xs k23 r1 (xs (x4 + (1 : Int32)).toNatClampNeg) (1 : Int32) r1 r2 r3 x4 M))) else (if ((xs x4.toNatClampNeg) &&& (31 : Int32)) = (25 : Int32) then (am_ck (am_in (x4 + (1 : Int32)) Ls) (am_ck (am_k M r1 11) (am_bd (fn11_count N M r1 (xs (x4 + (1 : Int32)).toNatClampNeg)) (fun v286 M287 => am_ck (am_in (x4 + (1 : Int32)) Ls) (am_ck (am_k M287 r2 12) (am_bd (fn12_count N M287 r2 (xs (x4 + (1 : Int32)).toNatClampNeg)) (fun v291 M292 => if v286 = v291 then fnL_law_b1166 N Ls xs k23 r1 r2 r3 x4 M292 else some ((0 : Int32), M292)))))))) else (fnL_law_b1166 N Ls xs k23 r1 r2 r3 x4 M)))))))))))))))))))))))))))
def fnL_law_b23 (N : Nat) (Ls : Nat) (xs : Nat → Int32)  : Nat → Nat → Nat → Nat → Int32 → am_Mem → Option (Int32 × am_Mem)
  | 0 => fun _ _ _ _ _ => none
  | i + 1 => fnL_law_b23B N Ls xs (fnL_law_b23 N Ls xs  i)
def fnL_law_b0 (N : Nat) (Ls : Nat) (xs : Nat → Int32)   (M : am_Mem) : Option (Int32 × am_Mem) :=
  am_ck (am_k (am_new M 11 0) (am_n M + 1) 11) (am_bd (fn11_init N (am_new M 11 0) (am_n M + 1)) (fun v2 M3 => am_ck (am_k (am_new M3 12 0) (am_n M3 + 1) 12) (am_bd (fn12_init (am_new M3 12 0) (am_n M3 + 1)) (fun v6 M7 => fnL_law_b23 N Ls xs  513 (am_n M + 1) (am_n M3 + 1) (am_n M7 + 1) (0 : Int32) (am_new M7 15 (1 : Int32).toNatClampNeg)))))
def rmL_law : Room := room_1
set_option maxRecDepth 20000 in
theorem snL_law_b1166 {l : Launch} {G : am_G} {v : Int32} {M' : am_Mem} {N : Nat} {i : Nat} {Ls : Nat} {xs : Nat → Int32} {k23 : Nat → Nat → Nat → Int32 → am_Mem → Option (Int32 × am_Mem)} (cx : am_Ctx l rmL_law yL_law cL_law 7 (some .boolean) (some (.inl v)) M' 601024 7293034 G) (sc : am_Scr l rmL_law yL_law cL_law 7 Ls xs G) (hst : l.stackTraces = false) (hk23 : ∀ (r1 : Nat) (r2 : Nat) (r3 : Nat) (x4 : Int32) (M : am_Mem), k23 r1 r2 r3 x4 M = some (v, M') → G 23 [(0, .inr (.inr (.inr 7))), (1, .inr (.inr (.inl r1))), (2, .inr (.inr (.inl r2))), (3, .inr (.inr (.inl r3))), (4, .inl x4)] [] M (144 + (513 - i) * 49) (13685 + (513 - i) * 1169)) (hib : i + 1 ≤ 513) {r1 : Nat} {r2 : Nat} {r3 : Nat} {x4 : Int32} {M : am_Mem} (hres : fnL_law_b1166 N Ls xs k23 r1 r2 r3 x4 M = some (v, M')) : G 1166 [(0, .inr (.inr (.inr 7))), (1, .inr (.inr (.inl r1))), (2, .inr (.inr (.inl r2))), (3, .inr (.inr (.inl r3))), (4, .inl x4)] [] M (144 + (513 - (i + 1)) * 49 + 49) (13685 + (513 - (i + 1)) * 1169 + 1169) := by
  unfold fnL_law_b1166 at hres
  refine am_iincw cx (lv' := [(0, .inr (.inr (.inr 7))), (1, .inr (.inr (.inl r1))), (2, .inr (.inr (.inl r2))), (3, .inr (.inr (.inl r3))), (4, .inl (x4 + (6 : Int32)))]) (w := (6 : Int32)) 4 dL_law_1166 (by decide) rfl (Nat.le_of_ble_eq_true rfl) rfl ?_
  refine am_goto cx (tgt := 23) dL_law_1169 (by decide) ?_
  refine am_widen cx (k' := (144 + (513 - i) * 49)) (n' := (13685 + (513 - i) * 1169)) (by omega) (by omega) ?_
  exact hk23 _ _ _ _ _ hres
set_option maxRecDepth 20000 in
theorem snL_law_b372 {l : Launch} {G : am_G} {v : Int32} {M' : am_Mem} {N : Nat} {i : Nat} {Ls : Nat} {xs : Nat → Int32} {k23 : Nat → Nat → Nat → Int32 → am_Mem → Option (Int32 × am_Mem)} (cx : am_Ctx l rmL_law yL_law cL_law 7 (some .boolean) (some (.inl v)) M' 601024 7293034 G) (sc : am_Scr l rmL_law yL_law cL_law 7 Ls xs G) (hst : l.stackTraces = false) (hk23 : ∀ (r1 : Nat) (r2 : Nat) (r3 : Nat) (x4 : Int32) (M : am_Mem), k23 r1 r2 r3 x4 M = some (v, M') → G 23 [(0, .inr (.inr (.inr 7))), (1, .inr (.inr (.inl r1))), (2, .inr (.inr (.inl r2))), (3, .inr (.inr (.inl r3))), (4, .inl x4)] [] M (144 + (513 - i) * 49) (13685 + (513 - i) * 1169)) (hib : i + 1 ≤ 513) {r1 : Nat} {r2 : Nat} {r3 : Nat} {x4 : Int32} {M : am_Mem} (hres : fnL_law_b372 N Ls xs k23 r1 r2 r3 x4 M = some (v, M')) : G 372 [(0, .inr (.inr (.inr 7))), (1, .inr (.inr (.inl r1))), (2, .inr (.inr (.inl r2))), (3, .inr (.inr (.inl r3))), (4, .inl x4)] [] M (144 + (513 - (i + 1)) * 49 + 1) (13685 + (513 - (i + 1)) * 1169 + 6) := by
  unfold fnL_law_b372 at hres
  refine am_goto cx (tgt := 1166) dL_law_372 (by decide) ?_
  refine am_widen cx (k' := (144 + (513 - (i + 1)) * 49 + 49)) (n' := (13685 + (513 - (i + 1)) * 1169 + 1169)) (by omega) (by omega) ?_
  exact snL_law_b1166 cx sc hst hk23 hib hres
set_option maxRecDepth 20000 in
theorem snL_law_b753 {l : Launch} {G : am_G} {v : Int32} {M' : am_Mem} {N : Nat} {i : Nat} {Ls : Nat} {xs : Nat → Int32} {k23 : Nat → Nat → Nat → Int32 → am_Mem → Option (Int32 × am_Mem)} (cx : am_Ctx l rmL_law yL_law cL_law 7 (some .boolean) (some (.inl v)) M' 601024 7293034 G) (sc : am_Scr l rmL_law yL_law cL_law 7 Ls xs G) (hst : l.stackTraces = false) (hk23 : ∀ (r1 : Nat) (r2 : Nat) (r3 : Nat) (x4 : Int32) (M : am_Mem), k23 r1 r2 r3 x4 M = some (v, M') → G 23 [(0, .inr (.inr (.inr 7))), (1, .inr (.inr (.inl r1))), (2, .inr (.inr (.inl r2))), (3, .inr (.inr (.inl r3))), (4, .inl x4)] [] M (144 + (513 - i) * 49) (13685 + (513 - i) * 1169)) (hib : i + 1 ≤ 513) {r1 : Nat} {r2 : Nat} {r3 : Nat} {x4 : Int32} {M : am_Mem} (hres : fnL_law_b753 N Ls xs k23 r1 r2 r3 x4 M = some (v, M')) : G 753 [(0, .inr (.inr (.inr 7))), (1, .inr (.inr (.inl r1))), (2, .inr (.inr (.inl r2))), (3, .inr (.inr (.inl r3))), (4, .inl x4)] [] M (144 + (513 - (i + 1)) * 49 + 1) (13685 + (513 - (i + 1)) * 1169 + 6) := by
  unfold fnL_law_b753 at hres
  refine am_goto cx (tgt := 1166) dL_law_753 (by decide) ?_
  refine am_widen cx (k' := (144 + (513 - (i + 1)) * 49 + 49)) (n' := (13685 + (513 - (i + 1)) * 1169 + 1169)) (by omega) (by omega) ?_
  exact snL_law_b1166 cx sc hst hk23 hib hres
set_option maxRecDepth 20000 in
theorem snL_law_b813 {l : Launch} {G : am_G} {v : Int32} {M' : am_Mem} {N : Nat} {i : Nat} {Ls : Nat} {xs : Nat → Int32} {k23 : Nat → Nat → Nat → Int32 → am_Mem → Option (Int32 × am_Mem)} (cx : am_Ctx l rmL_law yL_law cL_law 7 (some .boolean) (some (.inl v)) M' 601024 7293034 G) (sc : am_Scr l rmL_law yL_law cL_law 7 Ls xs G) (hst : l.stackTraces = false) (hk23 : ∀ (r1 : Nat) (r2 : Nat) (r3 : Nat) (x4 : Int32) (M : am_Mem), k23 r1 r2 r3 x4 M = some (v, M') → G 23 [(0, .inr (.inr (.inr 7))), (1, .inr (.inr (.inl r1))), (2, .inr (.inr (.inl r2))), (3, .inr (.inr (.inl r3))), (4, .inl x4)] [] M (144 + (513 - i) * 49) (13685 + (513 - i) * 1169)) (hib : i + 1 ≤ 513) {a0 : Int32} {c1 : Nat} {a2 : Int32} {a3 : Int32} {a4 : Int32} {r1 : Nat} {r2 : Nat} {r3 : Nat} {x4 : Int32} {M : am_Mem} (hres : fnL_law_b813 N Ls xs k23 a0 c1 a2 a3 a4 r1 r2 r3 x4 M = some (v, M')) : G 813 [(0, .inr (.inr (.inr 7))), (1, .inr (.inr (.inl r1))), (2, .inr (.inr (.inl r2))), (3, .inr (.inr (.inl r3))), (4, .inl x4)] [.inl a4, .inl a3, .inl a2, .inr (.inr (.inl c1)), .inl a0] M (144 + (513 - (i + 1)) * 49) (13685 + (513 - (i + 1)) * 1169) := by
  unfold fnL_law_b813 at hres
  obtain ⟨q1, hres⟩ := am_ck_some hres
  obtain ⟨v2, M3, q4, hres⟩ := am_bd_some hres
  refine am_callV1 cx [.inl a2, .inl a3, .inl a4] dL_law_813 cvL_99 (mt12_side q4) (am_ke q1) ⟨rfl, rfl, Nat.le_of_ble_eq_true rfl, Nat.le_of_ble_eq_true rfl⟩ rfl (Nat.le_of_ble_eq_true rfl) ⟨by show _ ≤ (601024 : Nat); omega, by show _ ≤ (7293034 : Nat); omega⟩ ?_
  refine am_icmp_eq cx (tgt := 1166) dL_law_816 (by decide) (fun h => ?_) (fun h => ?_)
  · have hres := am_ifp h hres
    refine am_widen cx (k' := (144 + (513 - (i + 1)) * 49 + 49)) (n' := (13685 + (513 - (i + 1)) * 1169 + 1169)) (by omega) (by omega) ?_
    exact snL_law_b1166 cx sc hst hk23 hib hres
  · have hres := am_ifn h hres
    refine am_iconst cx (v := (0 : Int32)) dL_law_819 (by decide) ?_
    obtain ⟨rfl, rfl⟩ := am_fin hres
    refine am_widen cx (k' := 601024) (n' := 7293034) (by omega) (by omega) ?_
    exact am_zret cx rfl dL_law_820
set_option maxRecDepth 20000 in
theorem snL_law_b783 {l : Launch} {G : am_G} {v : Int32} {M' : am_Mem} {N : Nat} {i : Nat} {Ls : Nat} {xs : Nat → Int32} {k23 : Nat → Nat → Nat → Int32 → am_Mem → Option (Int32 × am_Mem)} (cx : am_Ctx l rmL_law yL_law cL_law 7 (some .boolean) (some (.inl v)) M' 601024 7293034 G) (sc : am_Scr l rmL_law yL_law cL_law 7 Ls xs G) (hst : l.stackTraces = false) (hk23 : ∀ (r1 : Nat) (r2 : Nat) (r3 : Nat) (x4 : Int32) (M : am_Mem), k23 r1 r2 r3 x4 M = some (v, M') → G 23 [(0, .inr (.inr (.inr 7))), (1, .inr (.inr (.inl r1))), (2, .inr (.inr (.inl r2))), (3, .inr (.inr (.inl r3))), (4, .inl x4)] [] M (144 + (513 - i) * 49) (13685 + (513 - i) * 1169)) (hib : i + 1 ≤ 513) {c0 : Nat} {a1 : Int32} {a2 : Int32} {a3 : Int32} {r1 : Nat} {r2 : Nat} {r3 : Nat} {x4 : Int32} {M : am_Mem} (hres : fnL_law_b783 N Ls xs k23 c0 a1 a2 a3 r1 r2 r3 x4 M = some (v, M')) : G 783 [(0, .inr (.inr (.inr 7))), (1, .inr (.inr (.inl r1))), (2, .inr (.inr (.inl r2))), (3, .inr (.inr (.inl r3))), (4, .inl x4)] [.inl a3, .inl a2, .inl a1, .inr (.inr (.inl c0))] M (144 + (513 - (i + 1)) * 49) (13685 + (513 - (i + 1)) * 1169) := by
  unfold fnL_law_b783 at hres
  obtain ⟨q1, hres⟩ := am_ck_some hres
  obtain ⟨v2, M3, q4, hres⟩ := am_bd_some hres
  refine am_callV1 cx [.inl a1, .inl a2, .inl a3] dL_law_783 cvL_95 (mt11_side q4) (am_ke q1) ⟨rfl, rfl, Nat.le_of_ble_eq_true rfl, Nat.le_of_ble_eq_true rfl⟩ rfl (Nat.le_of_ble_eq_true rfl) ⟨by show _ ≤ (601024 : Nat); omega, by show _ ≤ (7293034 : Nat); omega⟩ ?_
  refine am_aload_n cx 2 dL_law_786 rfl ?_
  refine am_aload_nS cx 0 dL_law_787 rfl ?_
  refine am_iload cx 4 dL_law_788 rfl ?_
  refine am_iconst cx (v := (1 : Int32)) dL_law_790 (by decide) ?_
  refine am_iadd cx dL_law_791 ?_
  obtain ⟨q5, hres⟩ := am_ck_some hres
  refine am_xld sc dL_law_792 q5 ?_
  refine am_aload_nS cx 0 dL_law_793 rfl ?_
  refine am_iload cx 4 dL_law_794 rfl ?_
  refine am_iconst cx (v := (2 : Int32)) dL_law_796 (by decide) ?_
  refine am_iadd cx dL_law_797 ?_
  obtain ⟨q6, hres⟩ := am_ck_some hres
  refine am_xld sc dL_law_798 q6 ?_
  refine am_aload_nS cx 0 dL_law_799 rfl ?_
  refine am_iload cx 4 dL_law_800 rfl ?_
  refine am_iconst cx (v := (3 : Int32)) dL_law_802 (by decide) ?_
  refine am_iadd cx dL_law_803 ?_
  obtain ⟨q7, hres⟩ := am_ck_some hres
  refine am_xld sc dL_law_804 q7 ?_
  refine am_if_eq cx (tgt := 812) dL_law_805 (by decide) (fun h => ?_) (fun h => ?_)
  · have hres := am_ifp h hres
    refine am_iconst cx (v := (0 : Int32)) dL_law_812 (by decide) ?_
    exact snL_law_b813 cx sc hst hk23 hib hres
  · have hres := am_ifn h hres
    refine am_iconst cx (v := (1 : Int32)) dL_law_808 (by decide) ?_
    refine am_goto cx (tgt := 813) dL_law_809 (by decide) ?_
    exact snL_law_b813 cx sc hst hk23 hib hres
set_option maxRecDepth 20000 in
theorem snL_law_b915 {l : Launch} {G : am_G} {v : Int32} {M' : am_Mem} {N : Nat} {i : Nat} {Ls : Nat} {xs : Nat → Int32} {k23 : Nat → Nat → Nat → Int32 → am_Mem → Option (Int32 × am_Mem)} (cx : am_Ctx l rmL_law yL_law cL_law 7 (some .boolean) (some (.inl v)) M' 601024 7293034 G) (sc : am_Scr l rmL_law yL_law cL_law 7 Ls xs G) (hst : l.stackTraces = false) (hk23 : ∀ (r1 : Nat) (r2 : Nat) (r3 : Nat) (x4 : Int32) (M : am_Mem), k23 r1 r2 r3 x4 M = some (v, M') → G 23 [(0, .inr (.inr (.inr 7))), (1, .inr (.inr (.inl r1))), (2, .inr (.inr (.inl r2))), (3, .inr (.inr (.inl r3))), (4, .inl x4)] [] M (144 + (513 - i) * 49) (13685 + (513 - i) * 1169)) (hib : i + 1 ≤ 513) {a0 : Int32} {c1 : Nat} {a2 : Int32} {a3 : Int32} {a4 : Int32} {r1 : Nat} {r2 : Nat} {r3 : Nat} {x4 : Int32} {M : am_Mem} (hres : fnL_law_b915 N Ls xs k23 a0 c1 a2 a3 a4 r1 r2 r3 x4 M = some (v, M')) : G 915 [(0, .inr (.inr (.inr 7))), (1, .inr (.inr (.inl r1))), (2, .inr (.inr (.inl r2))), (3, .inr (.inr (.inl r3))), (4, .inl x4)] [.inl a4, .inl a3, .inl a2, .inr (.inr (.inl c1)), .inl a0] M (144 + (513 - (i + 1)) * 49 + 4) (13685 + (513 - (i + 1)) * 1169 + 131) := by
  unfold fnL_law_b915 at hres
  obtain ⟨q1, hres⟩ := am_ck_some hres
  obtain ⟨v2, M3, q4, hres⟩ := am_bd_some hres
  refine am_callV1 cx [.inl a2, .inl a3, .inl a4] dL_law_915 cvL_107 (mt12_join q4) (am_ke q1) ⟨rfl, rfl, Nat.le_of_ble_eq_true rfl, Nat.le_of_ble_eq_true rfl⟩ rfl (Nat.le_of_ble_eq_true rfl) ⟨by show _ ≤ (601024 : Nat); omega, by show _ ≤ (7293034 : Nat); omega⟩ ?_
  refine am_icmp_eq cx (tgt := 1166) dL_law_918 (by decide) (fun h => ?_) (fun h => ?_)
  · have hres := am_ifp h hres
    refine am_widen cx (k' := (144 + (513 - (i + 1)) * 49 + 49)) (n' := (13685 + (513 - (i + 1)) * 1169 + 1169)) (by omega) (by omega) ?_
    exact snL_law_b1166 cx sc hst hk23 hib hres
  · have hres := am_ifn h hres
    refine am_iconst cx (v := (0 : Int32)) dL_law_921 (by decide) ?_
    obtain ⟨rfl, rfl⟩ := am_fin hres
    refine am_widen cx (k' := 601024) (n' := 7293034) (by omega) (by omega) ?_
    exact am_zret cx rfl dL_law_922
set_option maxRecDepth 20000 in
theorem snL_law_b885 {l : Launch} {G : am_G} {v : Int32} {M' : am_Mem} {N : Nat} {i : Nat} {Ls : Nat} {xs : Nat → Int32} {k23 : Nat → Nat → Nat → Int32 → am_Mem → Option (Int32 × am_Mem)} (cx : am_Ctx l rmL_law yL_law cL_law 7 (some .boolean) (some (.inl v)) M' 601024 7293034 G) (sc : am_Scr l rmL_law yL_law cL_law 7 Ls xs G) (hst : l.stackTraces = false) (hk23 : ∀ (r1 : Nat) (r2 : Nat) (r3 : Nat) (x4 : Int32) (M : am_Mem), k23 r1 r2 r3 x4 M = some (v, M') → G 23 [(0, .inr (.inr (.inr 7))), (1, .inr (.inr (.inl r1))), (2, .inr (.inr (.inl r2))), (3, .inr (.inr (.inl r3))), (4, .inl x4)] [] M (144 + (513 - i) * 49) (13685 + (513 - i) * 1169)) (hib : i + 1 ≤ 513) {c0 : Nat} {a1 : Int32} {a2 : Int32} {a3 : Int32} {r1 : Nat} {r2 : Nat} {r3 : Nat} {x4 : Int32} {M : am_Mem} (hres : fnL_law_b885 N Ls xs k23 c0 a1 a2 a3 r1 r2 r3 x4 M = some (v, M')) : G 885 [(0, .inr (.inr (.inr 7))), (1, .inr (.inr (.inl r1))), (2, .inr (.inr (.inl r2))), (3, .inr (.inr (.inl r3))), (4, .inl x4)] [.inl a3, .inl a2, .inl a1, .inr (.inr (.inl c0))] M (144 + (513 - (i + 1)) * 49) (13685 + (513 - (i + 1)) * 1169) := by
  unfold fnL_law_b885 at hres
  obtain ⟨q1, hres⟩ := am_ck_some hres
  obtain ⟨v2, M3, q4, hres⟩ := am_bd_some hres
  refine am_callV1 cx [.inl a1, .inl a2, .inl a3] dL_law_885 cvL_104 (mt11_join q4) (am_ke q1) ⟨rfl, rfl, Nat.le_of_ble_eq_true rfl, Nat.le_of_ble_eq_true rfl⟩ rfl (Nat.le_of_ble_eq_true rfl) ⟨by show _ ≤ (601024 : Nat); omega, by show _ ≤ (7293034 : Nat); omega⟩ ?_
  refine am_aload_n cx 2 dL_law_888 rfl ?_
  refine am_aload_nS cx 0 dL_law_889 rfl ?_
  refine am_iload cx 4 dL_law_890 rfl ?_
  refine am_iconst cx (v := (1 : Int32)) dL_law_892 (by decide) ?_
  refine am_iadd cx dL_law_893 ?_
  obtain ⟨q5, hres⟩ := am_ck_some hres
  refine am_xld sc dL_law_894 q5 ?_
  refine am_aload_nS cx 0 dL_law_895 rfl ?_
  refine am_iload cx 4 dL_law_896 rfl ?_
  refine am_iconst cx (v := (2 : Int32)) dL_law_898 (by decide) ?_
  refine am_iadd cx dL_law_899 ?_
  obtain ⟨q6, hres⟩ := am_ck_some hres
  refine am_xld sc dL_law_900 q6 ?_
  refine am_aload_nS cx 0 dL_law_901 rfl ?_
  refine am_iload cx 4 dL_law_902 rfl ?_
  refine am_iconst cx (v := (3 : Int32)) dL_law_904 (by decide) ?_
  refine am_iadd cx dL_law_905 ?_
  obtain ⟨q7, hres⟩ := am_ck_some hres
  refine am_xld sc dL_law_906 q7 ?_
  refine am_if_eq cx (tgt := 914) dL_law_907 (by decide) (fun h => ?_) (fun h => ?_)
  · have hres := am_ifp h hres
    refine am_iconst cx (v := (0 : Int32)) dL_law_914 (by decide) ?_
    exact snL_law_b915 cx sc hst hk23 hib hres
  · have hres := am_ifn h hres
    refine am_iconst cx (v := (1 : Int32)) dL_law_910 (by decide) ?_
    refine am_goto cx (tgt := 915) dL_law_911 (by decide) ?_
    exact snL_law_b915 cx sc hst hk23 hib hres
set_option maxRecDepth 20000 in
theorem snL_law_b968 {l : Launch} {G : am_G} {v : Int32} {M' : am_Mem} {N : Nat} {i : Nat} {Ls : Nat} {xs : Nat → Int32} {k23 : Nat → Nat → Nat → Int32 → am_Mem → Option (Int32 × am_Mem)} (cx : am_Ctx l rmL_law yL_law cL_law 7 (some .boolean) (some (.inl v)) M' 601024 7293034 G) (sc : am_Scr l rmL_law yL_law cL_law 7 Ls xs G) (hst : l.stackTraces = false) (hk23 : ∀ (r1 : Nat) (r2 : Nat) (r3 : Nat) (x4 : Int32) (M : am_Mem), k23 r1 r2 r3 x4 M = some (v, M') → G 23 [(0, .inr (.inr (.inr 7))), (1, .inr (.inr (.inl r1))), (2, .inr (.inr (.inl r2))), (3, .inr (.inr (.inl r3))), (4, .inl x4)] [] M (144 + (513 - i) * 49) (13685 + (513 - i) * 1169)) (hib : i + 1 ≤ 513) {a0 : Int32} {c1 : Nat} {a2 : Int32} {a3 : Int32} {r1 : Nat} {r2 : Nat} {r3 : Nat} {x4 : Int32} {M : am_Mem} (hres : fnL_law_b968 N Ls xs k23 a0 c1 a2 a3 r1 r2 r3 x4 M = some (v, M')) : G 968 [(0, .inr (.inr (.inr 7))), (1, .inr (.inr (.inl r1))), (2, .inr (.inr (.inl r2))), (3, .inr (.inr (.inl r3))), (4, .inl x4)] [.inl a3, .inl a2, .inr (.inr (.inl c1)), .inl a0] M (144 + (513 - (i + 1)) * 49 + 4) (13685 + (513 - (i + 1)) * 1169 + 131) := by
  unfold fnL_law_b968 at hres
  obtain ⟨q1, hres⟩ := am_ck_some hres
  obtain ⟨v2, M3, q4, hres⟩ := am_bd_some hres
  refine am_callV1 cx [.inl a2, .inl a3] dL_law_968 cvL_112 (mt12_grow q4) (am_ke q1) ⟨rfl, rfl, Nat.le_of_ble_eq_true rfl, Nat.le_of_ble_eq_true rfl⟩ rfl (Nat.le_of_ble_eq_true rfl) ⟨by show _ ≤ (601024 : Nat); omega, by show _ ≤ (7293034 : Nat); omega⟩ ?_
  refine am_icmp_eq cx (tgt := 1166) dL_law_971 (by decide) (fun h => ?_) (fun h => ?_)
  · have hres := am_ifp h hres
    refine am_widen cx (k' := (144 + (513 - (i + 1)) * 49 + 49)) (n' := (13685 + (513 - (i + 1)) * 1169 + 1169)) (by omega) (by omega) ?_
    exact snL_law_b1166 cx sc hst hk23 hib hres
  · have hres := am_ifn h hres
    refine am_iconst cx (v := (0 : Int32)) dL_law_974 (by decide) ?_
    obtain ⟨rfl, rfl⟩ := am_fin hres
    refine am_widen cx (k' := 601024) (n' := 7293034) (by omega) (by omega) ?_
    exact am_zret cx rfl dL_law_975
set_option maxRecDepth 20000 in
theorem snL_law_b944 {l : Launch} {G : am_G} {v : Int32} {M' : am_Mem} {N : Nat} {i : Nat} {Ls : Nat} {xs : Nat → Int32} {k23 : Nat → Nat → Nat → Int32 → am_Mem → Option (Int32 × am_Mem)} (cx : am_Ctx l rmL_law yL_law cL_law 7 (some .boolean) (some (.inl v)) M' 601024 7293034 G) (sc : am_Scr l rmL_law yL_law cL_law 7 Ls xs G) (hst : l.stackTraces = false) (hk23 : ∀ (r1 : Nat) (r2 : Nat) (r3 : Nat) (x4 : Int32) (M : am_Mem), k23 r1 r2 r3 x4 M = some (v, M') → G 23 [(0, .inr (.inr (.inr 7))), (1, .inr (.inr (.inl r1))), (2, .inr (.inr (.inl r2))), (3, .inr (.inr (.inl r3))), (4, .inl x4)] [] M (144 + (513 - i) * 49) (13685 + (513 - i) * 1169)) (hib : i + 1 ≤ 513) {c0 : Nat} {a1 : Int32} {a2 : Int32} {r1 : Nat} {r2 : Nat} {r3 : Nat} {x4 : Int32} {M : am_Mem} (hres : fnL_law_b944 N Ls xs k23 c0 a1 a2 r1 r2 r3 x4 M = some (v, M')) : G 944 [(0, .inr (.inr (.inr 7))), (1, .inr (.inr (.inl r1))), (2, .inr (.inr (.inl r2))), (3, .inr (.inr (.inl r3))), (4, .inl x4)] [.inl a2, .inl a1, .inr (.inr (.inl c0))] M (144 + (513 - (i + 1)) * 49) (13685 + (513 - (i + 1)) * 1169) := by
  unfold fnL_law_b944 at hres
  obtain ⟨q1, hres⟩ := am_ck_some hres
  obtain ⟨v2, M3, q4, hres⟩ := am_bd_some hres
  refine am_callV1 cx [.inl a1, .inl a2] dL_law_944 cvL_108 (mt11_grow q4) (am_ke q1) ⟨rfl, rfl, Nat.le_of_ble_eq_true rfl, Nat.le_of_ble_eq_true rfl⟩ rfl (Nat.le_of_ble_eq_true rfl) ⟨by show _ ≤ (601024 : Nat); omega, by show _ ≤ (7293034 : Nat); omega⟩ ?_
  refine am_aload_n cx 2 dL_law_947 rfl ?_
  refine am_aload_nS cx 0 dL_law_948 rfl ?_
  refine am_iload cx 4 dL_law_949 rfl ?_
  refine am_iconst cx (v := (1 : Int32)) dL_law_951 (by decide) ?_
  refine am_iadd cx dL_law_952 ?_
  obtain ⟨q5, hres⟩ := am_ck_some hres
  refine am_xld sc dL_law_953 q5 ?_
  refine am_aload_nS cx 0 dL_law_954 rfl ?_
  refine am_iload cx 4 dL_law_955 rfl ?_
  refine am_iconst cx (v := (2 : Int32)) dL_law_957 (by decide) ?_
  refine am_iadd cx dL_law_958 ?_
  obtain ⟨q6, hres⟩ := am_ck_some hres
  refine am_xld sc dL_law_959 q6 ?_
  refine am_if_eq cx (tgt := 967) dL_law_960 (by decide) (fun h => ?_) (fun h => ?_)
  · have hres := am_ifp h hres
    refine am_iconst cx (v := (0 : Int32)) dL_law_967 (by decide) ?_
    exact snL_law_b968 cx sc hst hk23 hib hres
  · have hres := am_ifn h hres
    refine am_iconst cx (v := (1 : Int32)) dL_law_963 (by decide) ?_
    refine am_goto cx (tgt := 968) dL_law_964 (by decide) ?_
    exact snL_law_b968 cx sc hst hk23 hib hres
set_option maxRecDepth 20000 in
theorem snL_law_b1133 {l : Launch} {G : am_G} {v : Int32} {M' : am_Mem} {N : Nat} {i : Nat} {Ls : Nat} {xs : Nat → Int32} {k23 : Nat → Nat → Nat → Int32 → am_Mem → Option (Int32 × am_Mem)} (cx : am_Ctx l rmL_law yL_law cL_law 7 (some .boolean) (some (.inl v)) M' 601024 7293034 G) (sc : am_Scr l rmL_law yL_law cL_law 7 Ls xs G) (hst : l.stackTraces = false) (hk23 : ∀ (r1 : Nat) (r2 : Nat) (r3 : Nat) (x4 : Int32) (M : am_Mem), k23 r1 r2 r3 x4 M = some (v, M') → G 23 [(0, .inr (.inr (.inr 7))), (1, .inr (.inr (.inl r1))), (2, .inr (.inr (.inl r2))), (3, .inr (.inr (.inl r3))), (4, .inl x4)] [] M (144 + (513 - i) * 49) (13685 + (513 - i) * 1169)) (hib : i + 1 ≤ 513) {a0 : Int32} {c1 : Nat} {a2 : Int32} {a3 : Int32} {r1 : Nat} {r2 : Nat} {r3 : Nat} {x4 : Int32} {M : am_Mem} (hres : fnL_law_b1133 N Ls xs k23 a0 c1 a2 a3 r1 r2 r3 x4 M = some (v, M')) : G 1133 [(0, .inr (.inr (.inr 7))), (1, .inr (.inr (.inl r1))), (2, .inr (.inr (.inl r2))), (3, .inr (.inr (.inl r3))), (4, .inl x4)] [.inl a3, .inl a2, .inr (.inr (.inl c1)), .inl a0] M (144 + (513 - (i + 1)) * 49) (13685 + (513 - (i + 1)) * 1169) := by
  unfold fnL_law_b1133 at hres
  obtain ⟨q1, hres⟩ := am_ck_some hres
  obtain ⟨v2, M3, q4, hres⟩ := am_bd_some hres
  refine am_callV1 cx [.inl a2, .inl a3] dL_law_1133 cvL_133 (mt12_keep q4) (am_ke q1) ⟨rfl, rfl, Nat.le_of_ble_eq_true rfl, Nat.le_of_ble_eq_true rfl⟩ rfl (Nat.le_of_ble_eq_true rfl) ⟨by show _ ≤ (601024 : Nat); omega, by show _ ≤ (7293034 : Nat); omega⟩ ?_
  refine am_icmp_eq cx (tgt := 1166) dL_law_1136 (by decide) (fun h => ?_) (fun h => ?_)
  · have hres := am_ifp h hres
    refine am_widen cx (k' := (144 + (513 - (i + 1)) * 49 + 49)) (n' := (13685 + (513 - (i + 1)) * 1169 + 1169)) (by omega) (by omega) ?_
    exact snL_law_b1166 cx sc hst hk23 hib hres
  · have hres := am_ifn h hres
    refine am_iconst cx (v := (0 : Int32)) dL_law_1139 (by decide) ?_
    obtain ⟨rfl, rfl⟩ := am_fin hres
    refine am_widen cx (k' := 601024) (n' := 7293034) (by omega) (by omega) ?_
    exact am_zret cx rfl dL_law_1140
set_option maxRecDepth 20000 in
theorem snL_law_b1109 {l : Launch} {G : am_G} {v : Int32} {M' : am_Mem} {N : Nat} {i : Nat} {Ls : Nat} {xs : Nat → Int32} {k23 : Nat → Nat → Nat → Int32 → am_Mem → Option (Int32 × am_Mem)} (cx : am_Ctx l rmL_law yL_law cL_law 7 (some .boolean) (some (.inl v)) M' 601024 7293034 G) (sc : am_Scr l rmL_law yL_law cL_law 7 Ls xs G) (hst : l.stackTraces = false) (hk23 : ∀ (r1 : Nat) (r2 : Nat) (r3 : Nat) (x4 : Int32) (M : am_Mem), k23 r1 r2 r3 x4 M = some (v, M') → G 23 [(0, .inr (.inr (.inr 7))), (1, .inr (.inr (.inl r1))), (2, .inr (.inr (.inl r2))), (3, .inr (.inr (.inl r3))), (4, .inl x4)] [] M (144 + (513 - i) * 49) (13685 + (513 - i) * 1169)) (hib : i + 1 ≤ 513) {c0 : Nat} {a1 : Int32} {a2 : Int32} {r1 : Nat} {r2 : Nat} {r3 : Nat} {x4 : Int32} {M : am_Mem} (hres : fnL_law_b1109 N Ls xs k23 c0 a1 a2 r1 r2 r3 x4 M = some (v, M')) : G 1109 [(0, .inr (.inr (.inr 7))), (1, .inr (.inr (.inl r1))), (2, .inr (.inr (.inl r2))), (3, .inr (.inr (.inl r3))), (4, .inl x4)] [.inl a2, .inl a1, .inr (.inr (.inl c0))] M (144 + (513 - (i + 1)) * 49) (13685 + (513 - (i + 1)) * 1169) := by
  unfold fnL_law_b1109 at hres
  obtain ⟨q1, hres⟩ := am_ck_some hres
  obtain ⟨v2, M3, q4, hres⟩ := am_bd_some hres
  refine am_callV1 cx [.inl a1, .inl a2] dL_law_1109 cvL_129 (mt11_keep q4) (am_ke q1) ⟨rfl, rfl, Nat.le_of_ble_eq_true rfl, Nat.le_of_ble_eq_true rfl⟩ rfl (Nat.le_of_ble_eq_true rfl) ⟨by show _ ≤ (601024 : Nat); omega, by show _ ≤ (7293034 : Nat); omega⟩ ?_
  refine am_aload_n cx 2 dL_law_1112 rfl ?_
  refine am_aload_nS cx 0 dL_law_1113 rfl ?_
  refine am_iload cx 4 dL_law_1114 rfl ?_
  refine am_iconst cx (v := (1 : Int32)) dL_law_1116 (by decide) ?_
  refine am_iadd cx dL_law_1117 ?_
  obtain ⟨q5, hres⟩ := am_ck_some hres
  refine am_xld sc dL_law_1118 q5 ?_
  refine am_aload_nS cx 0 dL_law_1119 rfl ?_
  refine am_iload cx 4 dL_law_1120 rfl ?_
  refine am_iconst cx (v := (2 : Int32)) dL_law_1122 (by decide) ?_
  refine am_iadd cx dL_law_1123 ?_
  obtain ⟨q6, hres⟩ := am_ck_some hres
  refine am_xld sc dL_law_1124 q6 ?_
  refine am_if_eq cx (tgt := 1132) dL_law_1125 (by decide) (fun h => ?_) (fun h => ?_)
  · have hres := am_ifp h hres
    refine am_iconst cx (v := (0 : Int32)) dL_law_1132 (by decide) ?_
    exact snL_law_b1133 cx sc hst hk23 hib hres
  · have hres := am_ifn h hres
    refine am_iconst cx (v := (1 : Int32)) dL_law_1128 (by decide) ?_
    refine am_goto cx (tgt := 1133) dL_law_1129 (by decide) ?_
    exact snL_law_b1133 cx sc hst hk23 hib hres
set_option maxRecDepth 20000 in
theorem snL_law_b23B {l : Launch} {G : am_G} {v : Int32} {M' : am_Mem} {N : Nat} {i : Nat} {Ls : Nat} {xs : Nat → Int32} {k23 : Nat → Nat → Nat → Int32 → am_Mem → Option (Int32 × am_Mem)} (cx : am_Ctx l rmL_law yL_law cL_law 7 (some .boolean) (some (.inl v)) M' 601024 7293034 G) (sc : am_Scr l rmL_law yL_law cL_law 7 Ls xs G) (hst : l.stackTraces = false) (hk23 : ∀ (r1 : Nat) (r2 : Nat) (r3 : Nat) (x4 : Int32) (M : am_Mem), k23 r1 r2 r3 x4 M = some (v, M') → G 23 [(0, .inr (.inr (.inr 7))), (1, .inr (.inr (.inl r1))), (2, .inr (.inr (.inl r2))), (3, .inr (.inr (.inl r3))), (4, .inl x4)] [] M (144 + (513 - i) * 49) (13685 + (513 - i) * 1169)) (hib : i + 1 ≤ 513) {r1 : Nat} {r2 : Nat} {r3 : Nat} {x4 : Int32} {M : am_Mem} (hres : fnL_law_b23B N Ls xs k23 r1 r2 r3 x4 M = some (v, M')) : G 23 [(0, .inr (.inr (.inr 7))), (1, .inr (.inr (.inl r1))), (2, .inr (.inr (.inl r2))), (3, .inr (.inr (.inl r3))), (4, .inl x4)] [] M (144 + (513 - (i + 1)) * 49) (13685 + (513 - (i + 1)) * 1169) := by
  unfold fnL_law_b23B at hres
  refine am_iload cx 4 dL_law_23 rfl ?_
  refine am_aload_nS cx 0 dL_law_25 rfl ?_
  refine am_xlen sc dL_law_26 ?_
  refine am_bipush cx (v := (6 : Int32)) dL_law_27 (by decide) ?_
  refine am_isub cx dL_law_29 ?_
  refine am_icmp_gt cx (tgt := 1172) dL_law_30 (by decide) (fun h => ?_) (fun h => ?_)
  · have hres := am_ifp h hres
    refine am_iconst cx (v := (1 : Int32)) dL_law_1172 (by decide) ?_
    obtain ⟨rfl, rfl⟩ := am_fin hres
    refine am_widen cx (k' := 601024) (n' := 7293034) (by omega) (by omega) ?_
    exact am_zret cx rfl dL_law_1173
  · have hres := am_ifn h hres
    refine am_aload_nS cx 0 dL_law_33 rfl ?_
    refine am_iload cx 4 dL_law_34 rfl ?_
    obtain ⟨q1, hres⟩ := am_ck_some hres
    refine am_xld sc dL_law_36 q1 ?_
    refine am_bipush cx (v := (31 : Int32)) dL_law_37 (by decide) ?_
    refine am_iand cx dL_law_39 ?_
    by_cases w2 : ((xs x4.toNatClampNeg) &&& (31 : Int32)) = (0 : Int32)
    · refine am_tableIn cx (tgt := 160) (off := 120) dL_law_40 (by rw [w2]; decide) (by rw [w2]; decide) (by rw [w2]; decide) (by decide) ?_
      have hres := am_ifp w2 hres
      refine am_aload_n cx 1 dL_law_160 rfl ?_
      refine am_aload_nS cx 0 dL_law_161 rfl ?_
      refine am_iload cx 4 dL_law_162 rfl ?_
      refine am_iconst cx (v := (1 : Int32)) dL_law_164 (by decide) ?_
      refine am_iadd cx dL_law_165 ?_
      obtain ⟨q3, hres⟩ := am_ck_some hres
      refine am_xld sc dL_law_166 q3 ?_
      refine am_aload_nS cx 0 dL_law_167 rfl ?_
      refine am_iload cx 4 dL_law_168 rfl ?_
      refine am_iconst cx (v := (2 : Int32)) dL_law_170 (by decide) ?_
      refine am_iadd cx dL_law_171 ?_
      obtain ⟨q4, hres⟩ := am_ck_some hres
      refine am_xld sc dL_law_172 q4 ?_
      refine am_aload_nS cx 0 dL_law_173 rfl ?_
      refine am_iload cx 4 dL_law_174 rfl ?_
      refine am_iconst cx (v := (3 : Int32)) dL_law_176 (by decide) ?_
      refine am_iadd cx dL_law_177 ?_
      obtain ⟨q5, hres⟩ := am_ck_some hres
      refine am_xld sc dL_law_178 q5 ?_
      refine am_aload_nS cx 0 dL_law_179 rfl ?_
      refine am_iload cx 4 dL_law_180 rfl ?_
      refine am_iconst cx (v := (4 : Int32)) dL_law_182 (by decide) ?_
      refine am_iadd cx dL_law_183 ?_
      obtain ⟨q6, hres⟩ := am_ck_some hres
      refine am_xld sc dL_law_184 q6 ?_
      refine am_aload_nS cx 0 dL_law_185 rfl ?_
      refine am_iload cx 4 dL_law_186 rfl ?_
      refine am_iconst cx (v := (5 : Int32)) dL_law_188 (by decide) ?_
      refine am_iadd cx dL_law_189 ?_
      obtain ⟨q7, hres⟩ := am_ck_some hres
      refine am_xld sc dL_law_190 q7 ?_
      obtain ⟨q8, hres⟩ := am_ck_some hres
      obtain ⟨v9, M10, q11, hres⟩ := am_bd_some hres
      refine am_callV1 cx [.inl (xs (x4 + (1 : Int32)).toNatClampNeg), .inl (xs (x4 + (2 : Int32)).toNatClampNeg), .inl (xs (x4 + (3 : Int32)).toNatClampNeg), .inl (xs (x4 + (4 : Int32)).toNatClampNeg), .inl (xs (x4 + (5 : Int32)).toNatClampNeg)] dL_law_191 cvL_22 (mt11_feed q11) (am_ke q8) ⟨rfl, rfl, Nat.le_of_ble_eq_true rfl, Nat.le_of_ble_eq_true rfl⟩ rfl (Nat.le_of_ble_eq_true rfl) ⟨by show _ ≤ (601024 : Nat); omega, by show _ ≤ (7293034 : Nat); omega⟩ ?_
      refine am_aload_n cx 2 dL_law_194 rfl ?_
      refine am_aload_nS cx 0 dL_law_195 rfl ?_
      refine am_iload cx 4 dL_law_196 rfl ?_
      refine am_iconst cx (v := (1 : Int32)) dL_law_198 (by decide) ?_
      refine am_iadd cx dL_law_199 ?_
      obtain ⟨q12, hres⟩ := am_ck_some hres
      refine am_xld sc dL_law_200 q12 ?_
      refine am_aload_nS cx 0 dL_law_201 rfl ?_
      refine am_iload cx 4 dL_law_202 rfl ?_
      refine am_iconst cx (v := (2 : Int32)) dL_law_204 (by decide) ?_
      refine am_iadd cx dL_law_205 ?_
      obtain ⟨q13, hres⟩ := am_ck_some hres
      refine am_xld sc dL_law_206 q13 ?_
      refine am_aload_nS cx 0 dL_law_207 rfl ?_
      refine am_iload cx 4 dL_law_208 rfl ?_
      refine am_iconst cx (v := (3 : Int32)) dL_law_210 (by decide) ?_
      refine am_iadd cx dL_law_211 ?_
      obtain ⟨q14, hres⟩ := am_ck_some hres
      refine am_xld sc dL_law_212 q14 ?_
      refine am_aload_nS cx 0 dL_law_213 rfl ?_
      refine am_iload cx 4 dL_law_214 rfl ?_
      refine am_iconst cx (v := (4 : Int32)) dL_law_216 (by decide) ?_
      refine am_iadd cx dL_law_217 ?_
      obtain ⟨q15, hres⟩ := am_ck_some hres
      refine am_xld sc dL_law_218 q15 ?_
      refine am_aload_nS cx 0 dL_law_219 rfl ?_
      refine am_iload cx 4 dL_law_220 rfl ?_
      refine am_iconst cx (v := (5 : Int32)) dL_law_222 (by decide) ?_
      refine am_iadd cx dL_law_223 ?_
      obtain ⟨q16, hres⟩ := am_ck_some hres
      refine am_xld sc dL_law_224 q16 ?_
      obtain ⟨q17, hres⟩ := am_ck_some hres
      obtain ⟨v18, M19, q20, hres⟩ := am_bd_some hres
      refine am_callV1 cx [.inl (xs (x4 + (1 : Int32)).toNatClampNeg), .inl (xs (x4 + (2 : Int32)).toNatClampNeg), .inl (xs (x4 + (3 : Int32)).toNatClampNeg), .inl (xs (x4 + (4 : Int32)).toNatClampNeg), .inl (xs (x4 + (5 : Int32)).toNatClampNeg)] dL_law_225 cvL_26 (mt12_feed q20) (am_ke q17) ⟨rfl, rfl, Nat.le_of_ble_eq_true rfl, Nat.le_of_ble_eq_true rfl⟩ rfl (Nat.le_of_ble_eq_true rfl) ⟨by show _ ≤ (601024 : Nat); omega, by show _ ≤ (7293034 : Nat); omega⟩ ?_
      refine am_icmp_eq cx (tgt := 1166) dL_law_228 (by decide) (fun h => ?_) (fun h => ?_)
      · have hres := am_ifp h hres
        refine am_widen cx (k' := (144 + (513 - (i + 1)) * 49 + 49)) (n' := (13685 + (513 - (i + 1)) * 1169 + 1169)) (by omega) (by omega) ?_
        exact snL_law_b1166 cx sc hst hk23 hib hres
      · have hres := am_ifn h hres
        refine am_iconst cx (v := (0 : Int32)) dL_law_231 (by decide) ?_
        obtain ⟨rfl, rfl⟩ := am_fin hres
        refine am_widen cx (k' := 601024) (n' := 7293034) (by omega) (by omega) ?_
        exact am_zret cx rfl dL_law_232
    have hres := am_ifn w2 hres
    by_cases w21 : ((xs x4.toNatClampNeg) &&& (31 : Int32)) = (1 : Int32)
    · refine am_tableIn cx (tgt := 233) (off := 193) dL_law_40 (by rw [w21]; decide) (by rw [w21]; decide) (by rw [w21]; decide) (by decide) ?_
      have hres := am_ifp w21 hres
      refine am_aload_n cx 1 dL_law_233 rfl ?_
      refine am_aload_nS cx 0 dL_law_234 rfl ?_
      refine am_iload cx 4 dL_law_235 rfl ?_
      refine am_iconst cx (v := (1 : Int32)) dL_law_237 (by decide) ?_
      refine am_iadd cx dL_law_238 ?_
      obtain ⟨q22, hres⟩ := am_ck_some hres
      refine am_xld sc dL_law_239 q22 ?_
      obtain ⟨q23, hres⟩ := am_ck_some hres
      obtain ⟨v24, M25, q26, hres⟩ := am_bd_some hres
      refine am_callV1 cx [.inl (xs (x4 + (1 : Int32)).toNatClampNeg)] dL_law_240 cvL_27 (mt11_text q26) (am_ke q23) ⟨rfl, rfl, Nat.le_of_ble_eq_true rfl, Nat.le_of_ble_eq_true rfl⟩ rfl (Nat.le_of_ble_eq_true rfl) ⟨by show _ ≤ (601024 : Nat); omega, by show _ ≤ (7293034 : Nat); omega⟩ ?_
      refine am_aload_n cx 2 dL_law_243 rfl ?_
      refine am_aload_nS cx 0 dL_law_244 rfl ?_
      refine am_iload cx 4 dL_law_245 rfl ?_
      refine am_iconst cx (v := (1 : Int32)) dL_law_247 (by decide) ?_
      refine am_iadd cx dL_law_248 ?_
      obtain ⟨q27, hres⟩ := am_ck_some hres
      refine am_xld sc dL_law_249 q27 ?_
      obtain ⟨q28, hres⟩ := am_ck_some hres
      obtain ⟨v29, M30, q31, hres⟩ := am_bd_some hres
      refine am_callV1 cx [.inl (xs (x4 + (1 : Int32)).toNatClampNeg)] dL_law_250 cvL_31 (mt12_text q31) (am_ke q28) ⟨rfl, rfl, Nat.le_of_ble_eq_true rfl, Nat.le_of_ble_eq_true rfl⟩ rfl (Nat.le_of_ble_eq_true rfl) ⟨by show _ ≤ (601024 : Nat); omega, by show _ ≤ (7293034 : Nat); omega⟩ ?_
      refine am_icmp_eq cx (tgt := 1166) dL_law_253 (by decide) (fun h => ?_) (fun h => ?_)
      · have hres := am_ifp h hres
        exact snL_law_b1166 cx sc hst hk23 hib hres
      · have hres := am_ifn h hres
        refine am_iconst cx (v := (0 : Int32)) dL_law_256 (by decide) ?_
        obtain ⟨rfl, rfl⟩ := am_fin hres
        refine am_widen cx (k' := 601024) (n' := 7293034) (by omega) (by omega) ?_
        exact am_zret cx rfl dL_law_257
    have hres := am_ifn w21 hres
    by_cases w32 : ((xs x4.toNatClampNeg) &&& (31 : Int32)) = (2 : Int32)
    · refine am_tableIn cx (tgt := 258) (off := 218) dL_law_40 (by rw [w32]; decide) (by rw [w32]; decide) (by rw [w32]; decide) (by decide) ?_
      have hres := am_ifp w32 hres
      refine am_aload_n cx 1 dL_law_258 rfl ?_
      refine am_aload_nS cx 0 dL_law_259 rfl ?_
      refine am_iload cx 4 dL_law_260 rfl ?_
      refine am_iconst cx (v := (1 : Int32)) dL_law_262 (by decide) ?_
      refine am_iadd cx dL_law_263 ?_
      obtain ⟨q33, hres⟩ := am_ck_some hres
      refine am_xld sc dL_law_264 q33 ?_
      refine am_aload_nS cx 0 dL_law_265 rfl ?_
      refine am_iload cx 4 dL_law_266 rfl ?_
      refine am_iconst cx (v := (2 : Int32)) dL_law_268 (by decide) ?_
      refine am_iadd cx dL_law_269 ?_
      obtain ⟨q34, hres⟩ := am_ck_some hres
      refine am_xld sc dL_law_270 q34 ?_
      obtain ⟨q35, hres⟩ := am_ck_some hres
      obtain ⟨v36, M37, q38, hres⟩ := am_bd_some hres
      refine am_callV1 cx [.inl (xs (x4 + (1 : Int32)).toNatClampNeg), .inl (xs (x4 + (2 : Int32)).toNatClampNeg)] dL_law_271 cvL_32 (mt11_rect q38) (am_ke q35) ⟨rfl, rfl, Nat.le_of_ble_eq_true rfl, Nat.le_of_ble_eq_true rfl⟩ rfl (Nat.le_of_ble_eq_true rfl) ⟨by show _ ≤ (601024 : Nat); omega, by show _ ≤ (7293034 : Nat); omega⟩ ?_
      refine am_aload_n cx 2 dL_law_274 rfl ?_
      refine am_aload_nS cx 0 dL_law_275 rfl ?_
      refine am_iload cx 4 dL_law_276 rfl ?_
      refine am_iconst cx (v := (1 : Int32)) dL_law_278 (by decide) ?_
      refine am_iadd cx dL_law_279 ?_
      obtain ⟨q39, hres⟩ := am_ck_some hres
      refine am_xld sc dL_law_280 q39 ?_
      refine am_aload_nS cx 0 dL_law_281 rfl ?_
      refine am_iload cx 4 dL_law_282 rfl ?_
      refine am_iconst cx (v := (2 : Int32)) dL_law_284 (by decide) ?_
      refine am_iadd cx dL_law_285 ?_
      obtain ⟨q40, hres⟩ := am_ck_some hres
      refine am_xld sc dL_law_286 q40 ?_
      obtain ⟨q41, hres⟩ := am_ck_some hres
      obtain ⟨v42, M43, q44, hres⟩ := am_bd_some hres
      refine am_callV1 cx [.inl (xs (x4 + (1 : Int32)).toNatClampNeg), .inl (xs (x4 + (2 : Int32)).toNatClampNeg)] dL_law_287 cvL_36 (mt12_rect q44) (am_ke q41) ⟨rfl, rfl, Nat.le_of_ble_eq_true rfl, Nat.le_of_ble_eq_true rfl⟩ rfl (Nat.le_of_ble_eq_true rfl) ⟨by show _ ≤ (601024 : Nat); omega, by show _ ≤ (7293034 : Nat); omega⟩ ?_
      refine am_icmp_eq cx (tgt := 1166) dL_law_290 (by decide) (fun h => ?_) (fun h => ?_)
      · have hres := am_ifp h hres
        refine am_widen cx (k' := (144 + (513 - (i + 1)) * 49 + 49)) (n' := (13685 + (513 - (i + 1)) * 1169 + 1169)) (by omega) (by omega) ?_
        exact snL_law_b1166 cx sc hst hk23 hib hres
      · have hres := am_ifn h hres
        refine am_iconst cx (v := (0 : Int32)) dL_law_293 (by decide) ?_
        obtain ⟨rfl, rfl⟩ := am_fin hres
        refine am_widen cx (k' := 601024) (n' := 7293034) (by omega) (by omega) ?_
        exact am_zret cx rfl dL_law_294
    have hres := am_ifn w32 hres
    by_cases w45 : ((xs x4.toNatClampNeg) &&& (31 : Int32)) = (3 : Int32)
    · refine am_tableIn cx (tgt := 295) (off := 255) dL_law_40 (by rw [w45]; decide) (by rw [w45]; decide) (by rw [w45]; decide) (by decide) ?_
      have hres := am_ifp w45 hres
      refine am_aload_n cx 1 dL_law_295 rfl ?_
      refine am_aload_nS cx 0 dL_law_296 rfl ?_
      refine am_iload cx 4 dL_law_297 rfl ?_
      refine am_iconst cx (v := (1 : Int32)) dL_law_299 (by decide) ?_
      refine am_iadd cx dL_law_300 ?_
      obtain ⟨q46, hres⟩ := am_ck_some hres
      refine am_xld sc dL_law_301 q46 ?_
      refine am_aload_nS cx 0 dL_law_302 rfl ?_
      refine am_iload cx 4 dL_law_303 rfl ?_
      refine am_iconst cx (v := (2 : Int32)) dL_law_305 (by decide) ?_
      refine am_iadd cx dL_law_306 ?_
      obtain ⟨q47, hres⟩ := am_ck_some hres
      refine am_xld sc dL_law_307 q47 ?_
      refine am_aload_nS cx 0 dL_law_308 rfl ?_
      refine am_iload cx 4 dL_law_309 rfl ?_
      refine am_iconst cx (v := (3 : Int32)) dL_law_311 (by decide) ?_
      refine am_iadd cx dL_law_312 ?_
      obtain ⟨q48, hres⟩ := am_ck_some hres
      refine am_xld sc dL_law_313 q48 ?_
      refine am_aload_n cx 3 dL_law_314 rfl ?_
      obtain ⟨v49, M50, q51, hres⟩ := am_bd_some hres
      refine am_callSX cx [.inr (.inr (.inl r1)), .inl (xs (x4 + (1 : Int32)).toNatClampNeg), .inl (xs (x4 + (2 : Int32)).toNatClampNeg), .inl (xs (x4 + (3 : Int32)).toNatClampNeg), .inr (.inr (.inl r3))] dL_law_315 cx_square (mtL_square hst q51)  ⟨rfl, rfl, Nat.le_of_ble_eq_true rfl, Nat.le_of_ble_eq_true rfl⟩ rfl (Nat.le_of_ble_eq_true rfl) ⟨by show _ ≤ (601024 : Nat); omega, by show _ ≤ (7293034 : Nat); omega⟩ ?_
      refine am_istore cx (lv' := [(0, .inr (.inr (.inr 7))), (1, .inr (.inr (.inl r1))), (2, .inr (.inr (.inl r2))), (3, .inr (.inr (.inl r3))), (4, .inl x4), (5, .inl v49)]) dL_law_318 (Nat.le_of_ble_eq_true rfl) rfl ?_
      refine am_aload_n cx 2 dL_law_320 rfl ?_
      refine am_aload_nS cx 0 dL_law_321 rfl ?_
      refine am_iload cx 4 dL_law_322 rfl ?_
      refine am_iconst cx (v := (1 : Int32)) dL_law_324 (by decide) ?_
      refine am_iadd cx dL_law_325 ?_
      obtain ⟨q52, hres⟩ := am_ck_some hres
      refine am_xld sc dL_law_326 q52 ?_
      refine am_aload_nS cx 0 dL_law_327 rfl ?_
      refine am_iload cx 4 dL_law_328 rfl ?_
      refine am_iconst cx (v := (2 : Int32)) dL_law_330 (by decide) ?_
      refine am_iadd cx dL_law_331 ?_
      obtain ⟨q53, hres⟩ := am_ck_some hres
      refine am_xld sc dL_law_332 q53 ?_
      refine am_aload_nS cx 0 dL_law_333 rfl ?_
      refine am_iload cx 4 dL_law_334 rfl ?_
      refine am_iconst cx (v := (3 : Int32)) dL_law_336 (by decide) ?_
      refine am_iadd cx dL_law_337 ?_
      obtain ⟨q54, hres⟩ := am_ck_some hres
      refine am_xld sc dL_law_338 q54 ?_
      obtain ⟨q55, hres⟩ := am_ck_some hres
      obtain ⟨v56, M57, q58, hres⟩ := am_bd_some hres
      refine am_callV1 cx [.inl (xs (x4 + (1 : Int32)).toNatClampNeg), .inl (xs (x4 + (2 : Int32)).toNatClampNeg), .inl (xs (x4 + (3 : Int32)).toNatClampNeg)] dL_law_339 cvL_42 (mt12_square q58) (am_ke q55) ⟨rfl, rfl, Nat.le_of_ble_eq_true rfl, Nat.le_of_ble_eq_true rfl⟩ rfl (Nat.le_of_ble_eq_true rfl) ⟨by show _ ≤ (601024 : Nat); omega, by show _ ≤ (7293034 : Nat); omega⟩ ?_
      refine am_istore cx (lv' := [(0, .inr (.inr (.inr 7))), (1, .inr (.inr (.inl r1))), (2, .inr (.inr (.inl r2))), (3, .inr (.inr (.inl r3))), (4, .inl x4), (5, .inl v49), (6, .inl v56)]) dL_law_342 (Nat.le_of_ble_eq_true rfl) rfl ?_
      refine am_aload_n cx 2 dL_law_344 rfl ?_
      obtain ⟨q59, hres⟩ := am_ck_some hres
      obtain ⟨v60, M61, q62, hres⟩ := am_bd_some hres
      refine am_callV1 cx [] dL_law_345 cvL_43 (mt12_thrown q62) (am_ke q59) ⟨rfl, rfl, Nat.le_of_ble_eq_true rfl, Nat.le_of_ble_eq_true rfl⟩ rfl (Nat.le_of_ble_eq_true rfl) ⟨by show _ ≤ (601024 : Nat); omega, by show _ ≤ (7293034 : Nat); omega⟩ ?_
      refine am_iload cx 5 dL_law_348 rfl ?_
      refine am_icmp_eq cx (tgt := 355) dL_law_350 (by decide) (fun h => ?_) (fun h => ?_)
      · have hres := am_ifp h hres
        refine am_iload cx 5 dL_law_355 rfl ?_
        refine am_if_ne cx (tgt := 372) dL_law_357 (by decide) (fun h => ?_) (fun h => ?_)
        · have hres := am_ifn h hres
          refine am_sub cx [0, 1, 2, 3, 4] rfl ?_
          exact snL_law_b372 cx sc hst hk23 hib hres
        · have hres := am_ifp h hres
          refine am_aload_n cx 3 dL_law_360 rfl ?_
          refine am_iconst cx (v := (0 : Int32)) dL_law_361 (by decide) ?_
          obtain ⟨q63, hres⟩ := am_ck_some hres
          obtain ⟨q64, hres⟩ := am_ck_some hres
          refine am_lald cx dL_law_362 (am_ke q63) q64 ?_
          refine am_iload cx 6 dL_law_363 rfl ?_
          refine am_i2l cx dL_law_365 ?_
          refine am_lcmp cx dL_law_366 ?_
          refine am_if_eq cx (tgt := 372) dL_law_367 (by decide) (fun h => ?_) (fun h => ?_)
          · have hres := am_ifp h hres
            refine am_sub cx [0, 1, 2, 3, 4] rfl ?_
            exact snL_law_b372 cx sc hst hk23 hib hres
          · have hres := am_ifn h hres
            refine am_iconst cx (v := (0 : Int32)) dL_law_370 (by decide) ?_
            obtain ⟨rfl, rfl⟩ := am_fin hres
            refine am_widen cx (k' := 601024) (n' := 7293034) (by omega) (by omega) ?_
            exact am_zret cx rfl dL_law_371
      · have hres := am_ifn h hres
        refine am_iconst cx (v := (0 : Int32)) dL_law_353 (by decide) ?_
        obtain ⟨rfl, rfl⟩ := am_fin hres
        refine am_widen cx (k' := 601024) (n' := 7293034) (by omega) (by omega) ?_
        exact am_zret cx rfl dL_law_354
    have hres := am_ifn w45 hres
    by_cases w65 : ((xs x4.toNatClampNeg) &&& (31 : Int32)) = (4 : Int32)
    · refine am_tableIn cx (tgt := 375) (off := 335) dL_law_40 (by rw [w65]; decide) (by rw [w65]; decide) (by rw [w65]; decide) (by decide) ?_
      have hres := am_ifp w65 hres
      refine am_aload_n cx 1 dL_law_375 rfl ?_
      refine am_aload_nS cx 0 dL_law_376 rfl ?_
      refine am_iload cx 4 dL_law_377 rfl ?_
      refine am_iconst cx (v := (1 : Int32)) dL_law_379 (by decide) ?_
      refine am_iadd cx dL_law_380 ?_
      obtain ⟨q66, hres⟩ := am_ck_some hres
      refine am_xld sc dL_law_381 q66 ?_
      obtain ⟨q67, hres⟩ := am_ck_some hres
      obtain ⟨v68, M69, q70, hres⟩ := am_bd_some hres
      refine am_callV1 cx [.inl (xs (x4 + (1 : Int32)).toNatClampNeg)] dL_law_382 cvL_47 (mt11_laid q70) (am_ke q67) ⟨rfl, rfl, Nat.le_of_ble_eq_true rfl, Nat.le_of_ble_eq_true rfl⟩ rfl (Nat.le_of_ble_eq_true rfl) ⟨by show _ ≤ (601024 : Nat); omega, by show _ ≤ (7293034 : Nat); omega⟩ ?_
      refine am_aload_n cx 2 dL_law_385 rfl ?_
      refine am_aload_nS cx 0 dL_law_386 rfl ?_
      refine am_iload cx 4 dL_law_387 rfl ?_
      refine am_iconst cx (v := (1 : Int32)) dL_law_389 (by decide) ?_
      refine am_iadd cx dL_law_390 ?_
      obtain ⟨q71, hres⟩ := am_ck_some hres
      refine am_xld sc dL_law_391 q71 ?_
      obtain ⟨q72, hres⟩ := am_ck_some hres
      obtain ⟨v73, M74, q75, hres⟩ := am_bd_some hres
      refine am_callV1 cx [.inl (xs (x4 + (1 : Int32)).toNatClampNeg)] dL_law_392 cvL_50 (mt12_laid q75) (am_ke q72) ⟨rfl, rfl, Nat.le_of_ble_eq_true rfl, Nat.le_of_ble_eq_true rfl⟩ rfl (Nat.le_of_ble_eq_true rfl) ⟨by show _ ≤ (601024 : Nat); omega, by show _ ≤ (7293034 : Nat); omega⟩ ?_
      refine am_icmp_eq cx (tgt := 1166) dL_law_395 (by decide) (fun h => ?_) (fun h => ?_)
      · have hres := am_ifp h hres
        refine am_widen cx (k' := (144 + (513 - (i + 1)) * 49 + 49)) (n' := (13685 + (513 - (i + 1)) * 1169 + 1169)) (by omega) (by omega) ?_
        exact snL_law_b1166 cx sc hst hk23 hib hres
      · have hres := am_ifn h hres
        refine am_iconst cx (v := (0 : Int32)) dL_law_398 (by decide) ?_
        obtain ⟨rfl, rfl⟩ := am_fin hres
        refine am_widen cx (k' := 601024) (n' := 7293034) (by omega) (by omega) ?_
        exact am_zret cx rfl dL_law_399
    have hres := am_ifn w65 hres
    by_cases w76 : ((xs x4.toNatClampNeg) &&& (31 : Int32)) = (5 : Int32)
    · refine am_tableIn cx (tgt := 400) (off := 360) dL_law_40 (by rw [w76]; decide) (by rw [w76]; decide) (by rw [w76]; decide) (by decide) ?_
      have hres := am_ifp w76 hres
      refine am_aload_n cx 1 dL_law_400 rfl ?_
      refine am_aload_nS cx 0 dL_law_401 rfl ?_
      refine am_iload cx 4 dL_law_402 rfl ?_
      refine am_iconst cx (v := (1 : Int32)) dL_law_404 (by decide) ?_
      refine am_iadd cx dL_law_405 ?_
      obtain ⟨q77, hres⟩ := am_ck_some hres
      refine am_xld sc dL_law_406 q77 ?_
      obtain ⟨q78, hres⟩ := am_ck_some hres
      obtain ⟨v79, M80, q81, hres⟩ := am_bd_some hres
      refine am_callV1 cx [.inl (xs (x4 + (1 : Int32)).toNatClampNeg)] dL_law_407 cvL_51 (mt11_area q81) (am_ke q78) ⟨rfl, rfl, Nat.le_of_ble_eq_true rfl, Nat.le_of_ble_eq_true rfl⟩ rfl (Nat.le_of_ble_eq_true rfl) ⟨by show _ ≤ (601024 : Nat); omega, by show _ ≤ (7293034 : Nat); omega⟩ ?_
      refine am_aload_n cx 2 dL_law_410 rfl ?_
      refine am_aload_nS cx 0 dL_law_411 rfl ?_
      refine am_iload cx 4 dL_law_412 rfl ?_
      refine am_iconst cx (v := (1 : Int32)) dL_law_414 (by decide) ?_
      refine am_iadd cx dL_law_415 ?_
      obtain ⟨q82, hres⟩ := am_ck_some hres
      refine am_xld sc dL_law_416 q82 ?_
      obtain ⟨q83, hres⟩ := am_ck_some hres
      obtain ⟨v84, M85, q86, hres⟩ := am_bd_some hres
      refine am_callV1 cx [.inl (xs (x4 + (1 : Int32)).toNatClampNeg)] dL_law_417 cvL_55 (mt12_area q86) (am_ke q83) ⟨rfl, rfl, Nat.le_of_ble_eq_true rfl, Nat.le_of_ble_eq_true rfl⟩ rfl (Nat.le_of_ble_eq_true rfl) ⟨by show _ ≤ (601024 : Nat); omega, by show _ ≤ (7293034 : Nat); omega⟩ ?_
      refine am_lcmp cx dL_law_420 ?_
      refine am_if_eq cx (tgt := 1166) dL_law_421 (by decide) (fun h => ?_) (fun h => ?_)
      · have hres := am_ifp h hres
        refine am_widen cx (k' := (144 + (513 - (i + 1)) * 49 + 49)) (n' := (13685 + (513 - (i + 1)) * 1169 + 1169)) (by omega) (by omega) ?_
        exact snL_law_b1166 cx sc hst hk23 hib hres
      · have hres := am_ifn h hres
        refine am_iconst cx (v := (0 : Int32)) dL_law_424 (by decide) ?_
        obtain ⟨rfl, rfl⟩ := am_fin hres
        refine am_widen cx (k' := 601024) (n' := 7293034) (by omega) (by omega) ?_
        exact am_zret cx rfl dL_law_425
    have hres := am_ifn w76 hres
    by_cases w87 : ((xs x4.toNatClampNeg) &&& (31 : Int32)) = (6 : Int32)
    · refine am_tableIn cx (tgt := 426) (off := 386) dL_law_40 (by rw [w87]; decide) (by rw [w87]; decide) (by rw [w87]; decide) (by decide) ?_
      have hres := am_ifp w87 hres
      refine am_aload_n cx 1 dL_law_426 rfl ?_
      refine am_aload_nS cx 0 dL_law_427 rfl ?_
      refine am_iload cx 4 dL_law_428 rfl ?_
      refine am_iconst cx (v := (1 : Int32)) dL_law_430 (by decide) ?_
      refine am_iadd cx dL_law_431 ?_
      obtain ⟨q88, hres⟩ := am_ck_some hres
      refine am_xld sc dL_law_432 q88 ?_
      obtain ⟨q89, hres⟩ := am_ck_some hres
      obtain ⟨v90, M91, q92, hres⟩ := am_bd_some hres
      refine am_callV1 cx [.inl (xs (x4 + (1 : Int32)).toNatClampNeg)] dL_law_433 cvL_56 (mt11_least q92) (am_ke q89) ⟨rfl, rfl, Nat.le_of_ble_eq_true rfl, Nat.le_of_ble_eq_true rfl⟩ rfl (Nat.le_of_ble_eq_true rfl) ⟨by show _ ≤ (601024 : Nat); omega, by show _ ≤ (7293034 : Nat); omega⟩ ?_
      refine am_aload_n cx 2 dL_law_436 rfl ?_
      refine am_aload_nS cx 0 dL_law_437 rfl ?_
      refine am_iload cx 4 dL_law_438 rfl ?_
      refine am_iconst cx (v := (1 : Int32)) dL_law_440 (by decide) ?_
      refine am_iadd cx dL_law_441 ?_
      obtain ⟨q93, hres⟩ := am_ck_some hres
      refine am_xld sc dL_law_442 q93 ?_
      obtain ⟨q94, hres⟩ := am_ck_some hres
      obtain ⟨v95, M96, q97, hres⟩ := am_bd_some hres
      refine am_callV1 cx [.inl (xs (x4 + (1 : Int32)).toNatClampNeg)] dL_law_443 cvL_59 (mt12_least q97) (am_ke q94) ⟨rfl, rfl, Nat.le_of_ble_eq_true rfl, Nat.le_of_ble_eq_true rfl⟩ rfl (Nat.le_of_ble_eq_true rfl) ⟨by show _ ≤ (601024 : Nat); omega, by show _ ≤ (7293034 : Nat); omega⟩ ?_
      refine am_icmp_eq cx (tgt := 1166) dL_law_446 (by decide) (fun h => ?_) (fun h => ?_)
      · have hres := am_ifp h hres
        refine am_widen cx (k' := (144 + (513 - (i + 1)) * 49 + 49)) (n' := (13685 + (513 - (i + 1)) * 1169 + 1169)) (by omega) (by omega) ?_
        exact snL_law_b1166 cx sc hst hk23 hib hres
      · have hres := am_ifn h hres
        refine am_iconst cx (v := (0 : Int32)) dL_law_449 (by decide) ?_
        obtain ⟨rfl, rfl⟩ := am_fin hres
        refine am_widen cx (k' := 601024) (n' := 7293034) (by omega) (by omega) ?_
        exact am_zret cx rfl dL_law_450
    have hres := am_ifn w87 hres
    by_cases w98 : ((xs x4.toNatClampNeg) &&& (31 : Int32)) = (7 : Int32)
    · refine am_tableIn cx (tgt := 451) (off := 411) dL_law_40 (by rw [w98]; decide) (by rw [w98]; decide) (by rw [w98]; decide) (by decide) ?_
      have hres := am_ifp w98 hres
      refine am_aload_n cx 1 dL_law_451 rfl ?_
      refine am_aload_nS cx 0 dL_law_452 rfl ?_
      refine am_iload cx 4 dL_law_453 rfl ?_
      refine am_iconst cx (v := (1 : Int32)) dL_law_455 (by decide) ?_
      refine am_iadd cx dL_law_456 ?_
      obtain ⟨q99, hres⟩ := am_ck_some hres
      refine am_xld sc dL_law_457 q99 ?_
      obtain ⟨q100, hres⟩ := am_ck_some hres
      obtain ⟨v101, M102, q103, hres⟩ := am_bd_some hres
      refine am_callV1 cx [.inl (xs (x4 + (1 : Int32)).toNatClampNeg)] dL_law_458 cvL_60 (mt11_print q103) (am_ke q100) ⟨rfl, rfl, Nat.le_of_ble_eq_true rfl, Nat.le_of_ble_eq_true rfl⟩ rfl (Nat.le_of_ble_eq_true rfl) ⟨by show _ ≤ (601024 : Nat); omega, by show _ ≤ (7293034 : Nat); omega⟩ ?_
      refine am_aload_n cx 2 dL_law_461 rfl ?_
      refine am_aload_nS cx 0 dL_law_462 rfl ?_
      refine am_iload cx 4 dL_law_463 rfl ?_
      refine am_iconst cx (v := (1 : Int32)) dL_law_465 (by decide) ?_
      refine am_iadd cx dL_law_466 ?_
      obtain ⟨q104, hres⟩ := am_ck_some hres
      refine am_xld sc dL_law_467 q104 ?_
      obtain ⟨q105, hres⟩ := am_ck_some hres
      obtain ⟨v106, M107, q108, hres⟩ := am_bd_some hres
      refine am_callV1 cx [.inl (xs (x4 + (1 : Int32)).toNatClampNeg)] dL_law_468 cvL_63 (mt12_print q108) (am_ke q105) ⟨rfl, rfl, Nat.le_of_ble_eq_true rfl, Nat.le_of_ble_eq_true rfl⟩ rfl (Nat.le_of_ble_eq_true rfl) ⟨by show _ ≤ (601024 : Nat); omega, by show _ ≤ (7293034 : Nat); omega⟩ ?_
      refine am_icmp_eq cx (tgt := 1166) dL_law_471 (by decide) (fun h => ?_) (fun h => ?_)
      · have hres := am_ifp h hres
        refine am_widen cx (k' := (144 + (513 - (i + 1)) * 49 + 49)) (n' := (13685 + (513 - (i + 1)) * 1169 + 1169)) (by omega) (by omega) ?_
        exact snL_law_b1166 cx sc hst hk23 hib hres
      · have hres := am_ifn h hres
        refine am_iconst cx (v := (0 : Int32)) dL_law_474 (by decide) ?_
        obtain ⟨rfl, rfl⟩ := am_fin hres
        refine am_widen cx (k' := 601024) (n' := 7293034) (by omega) (by omega) ?_
        exact am_zret cx rfl dL_law_475
    have hres := am_ifn w98 hres
    by_cases w109 : ((xs x4.toNatClampNeg) &&& (31 : Int32)) = (8 : Int32)
    · refine am_tableIn cx (tgt := 476) (off := 436) dL_law_40 (by rw [w109]; decide) (by rw [w109]; decide) (by rw [w109]; decide) (by decide) ?_
      have hres := am_ifp w109 hres
      refine am_aload_n cx 1 dL_law_476 rfl ?_
      refine am_aload_nS cx 0 dL_law_477 rfl ?_
      refine am_iload cx 4 dL_law_478 rfl ?_
      refine am_iconst cx (v := (1 : Int32)) dL_law_480 (by decide) ?_
      refine am_iadd cx dL_law_481 ?_
      obtain ⟨q110, hres⟩ := am_ck_some hres
      refine am_xld sc dL_law_482 q110 ?_
      obtain ⟨q111, hres⟩ := am_ck_some hres
      obtain ⟨v112, M113, q114, hres⟩ := am_bd_some hres
      refine am_callV1 cx [.inl (xs (x4 + (1 : Int32)).toNatClampNeg)] dL_law_483 cvL_64 (mt11_at q114) (am_ke q111) ⟨rfl, rfl, Nat.le_of_ble_eq_true rfl, Nat.le_of_ble_eq_true rfl⟩ rfl (Nat.le_of_ble_eq_true rfl) ⟨by show _ ≤ (601024 : Nat); omega, by show _ ≤ (7293034 : Nat); omega⟩ ?_
      refine am_aload_n cx 2 dL_law_486 rfl ?_
      refine am_aload_nS cx 0 dL_law_487 rfl ?_
      refine am_iload cx 4 dL_law_488 rfl ?_
      refine am_iconst cx (v := (1 : Int32)) dL_law_490 (by decide) ?_
      refine am_iadd cx dL_law_491 ?_
      obtain ⟨q115, hres⟩ := am_ck_some hres
      refine am_xld sc dL_law_492 q115 ?_
      obtain ⟨q116, hres⟩ := am_ck_some hres
      obtain ⟨v117, M118, q119, hres⟩ := am_bd_some hres
      refine am_callV1 cx [.inl (xs (x4 + (1 : Int32)).toNatClampNeg)] dL_law_493 cvL_67 (mt12_at q119) (am_ke q116) ⟨rfl, rfl, Nat.le_of_ble_eq_true rfl, Nat.le_of_ble_eq_true rfl⟩ rfl (Nat.le_of_ble_eq_true rfl) ⟨by show _ ≤ (601024 : Nat); omega, by show _ ≤ (7293034 : Nat); omega⟩ ?_
      refine am_icmp_eq cx (tgt := 1166) dL_law_496 (by decide) (fun h => ?_) (fun h => ?_)
      · have hres := am_ifp h hres
        refine am_widen cx (k' := (144 + (513 - (i + 1)) * 49 + 49)) (n' := (13685 + (513 - (i + 1)) * 1169 + 1169)) (by omega) (by omega) ?_
        exact snL_law_b1166 cx sc hst hk23 hib hres
      · have hres := am_ifn h hres
        refine am_iconst cx (v := (0 : Int32)) dL_law_499 (by decide) ?_
        obtain ⟨rfl, rfl⟩ := am_fin hres
        refine am_widen cx (k' := 601024) (n' := 7293034) (by omega) (by omega) ?_
        exact am_zret cx rfl dL_law_500
    have hres := am_ifn w109 hres
    by_cases w120 : ((xs x4.toNatClampNeg) &&& (31 : Int32)) = (9 : Int32)
    · refine am_tableIn cx (tgt := 501) (off := 461) dL_law_40 (by rw [w120]; decide) (by rw [w120]; decide) (by rw [w120]; decide) (by decide) ?_
      have hres := am_ifp w120 hres
      refine am_aload_n cx 1 dL_law_501 rfl ?_
      refine am_aload_nS cx 0 dL_law_502 rfl ?_
      refine am_iload cx 4 dL_law_503 rfl ?_
      refine am_iconst cx (v := (1 : Int32)) dL_law_505 (by decide) ?_
      refine am_iadd cx dL_law_506 ?_
      obtain ⟨q121, hres⟩ := am_ck_some hres
      refine am_xld sc dL_law_507 q121 ?_
      obtain ⟨q122, hres⟩ := am_ck_some hres
      obtain ⟨v123, M124, q125, hres⟩ := am_bd_some hres
      refine am_callV1 cx [.inl (xs (x4 + (1 : Int32)).toNatClampNeg)] dL_law_508 cvL_68 (mt11_groups q125) (am_ke q122) ⟨rfl, rfl, Nat.le_of_ble_eq_true rfl, Nat.le_of_ble_eq_true rfl⟩ rfl (Nat.le_of_ble_eq_true rfl) ⟨by show _ ≤ (601024 : Nat); omega, by show _ ≤ (7293034 : Nat); omega⟩ ?_
      refine am_aload_n cx 2 dL_law_511 rfl ?_
      refine am_aload_nS cx 0 dL_law_512 rfl ?_
      refine am_iload cx 4 dL_law_513 rfl ?_
      refine am_iconst cx (v := (1 : Int32)) dL_law_515 (by decide) ?_
      refine am_iadd cx dL_law_516 ?_
      obtain ⟨q126, hres⟩ := am_ck_some hres
      refine am_xld sc dL_law_517 q126 ?_
      obtain ⟨q127, hres⟩ := am_ck_some hres
      obtain ⟨v128, M129, q130, hres⟩ := am_bd_some hres
      refine am_callV1 cx [.inl (xs (x4 + (1 : Int32)).toNatClampNeg)] dL_law_518 cvL_71 (mt12_groups q130) (am_ke q127) ⟨rfl, rfl, Nat.le_of_ble_eq_true rfl, Nat.le_of_ble_eq_true rfl⟩ rfl (Nat.le_of_ble_eq_true rfl) ⟨by show _ ≤ (601024 : Nat); omega, by show _ ≤ (7293034 : Nat); omega⟩ ?_
      refine am_icmp_eq cx (tgt := 1166) dL_law_521 (by decide) (fun h => ?_) (fun h => ?_)
      · have hres := am_ifp h hres
        refine am_widen cx (k' := (144 + (513 - (i + 1)) * 49 + 49)) (n' := (13685 + (513 - (i + 1)) * 1169 + 1169)) (by omega) (by omega) ?_
        exact snL_law_b1166 cx sc hst hk23 hib hres
      · have hres := am_ifn h hres
        refine am_iconst cx (v := (0 : Int32)) dL_law_524 (by decide) ?_
        obtain ⟨rfl, rfl⟩ := am_fin hres
        refine am_widen cx (k' := 601024) (n' := 7293034) (by omega) (by omega) ?_
        exact am_zret cx rfl dL_law_525
    have hres := am_ifn w120 hres
    by_cases w131 : ((xs x4.toNatClampNeg) &&& (31 : Int32)) = (10 : Int32)
    · refine am_tableIn cx (tgt := 526) (off := 486) dL_law_40 (by rw [w131]; decide) (by rw [w131]; decide) (by rw [w131]; decide) (by decide) ?_
      have hres := am_ifp w131 hres
      refine am_aload_n cx 1 dL_law_526 rfl ?_
      refine am_aload_nS cx 0 dL_law_527 rfl ?_
      refine am_iload cx 4 dL_law_528 rfl ?_
      refine am_iconst cx (v := (1 : Int32)) dL_law_530 (by decide) ?_
      refine am_iadd cx dL_law_531 ?_
      obtain ⟨q132, hres⟩ := am_ck_some hres
      refine am_xld sc dL_law_532 q132 ?_
      obtain ⟨q133, hres⟩ := am_ck_some hres
      obtain ⟨v134, M135, q136, hres⟩ := am_bd_some hres
      refine am_callV1 cx [.inl (xs (x4 + (1 : Int32)).toNatClampNeg)] dL_law_533 cvL_72 (mt11_trees q136) (am_ke q133) ⟨rfl, rfl, Nat.le_of_ble_eq_true rfl, Nat.le_of_ble_eq_true rfl⟩ rfl (Nat.le_of_ble_eq_true rfl) ⟨by show _ ≤ (601024 : Nat); omega, by show _ ≤ (7293034 : Nat); omega⟩ ?_
      refine am_aload_n cx 2 dL_law_536 rfl ?_
      refine am_aload_nS cx 0 dL_law_537 rfl ?_
      refine am_iload cx 4 dL_law_538 rfl ?_
      refine am_iconst cx (v := (1 : Int32)) dL_law_540 (by decide) ?_
      refine am_iadd cx dL_law_541 ?_
      obtain ⟨q137, hres⟩ := am_ck_some hres
      refine am_xld sc dL_law_542 q137 ?_
      obtain ⟨q138, hres⟩ := am_ck_some hres
      obtain ⟨v139, M140, q141, hres⟩ := am_bd_some hres
      refine am_callV1 cx [.inl (xs (x4 + (1 : Int32)).toNatClampNeg)] dL_law_543 cvL_75 (mt12_trees q141) (am_ke q138) ⟨rfl, rfl, Nat.le_of_ble_eq_true rfl, Nat.le_of_ble_eq_true rfl⟩ rfl (Nat.le_of_ble_eq_true rfl) ⟨by show _ ≤ (601024 : Nat); omega, by show _ ≤ (7293034 : Nat); omega⟩ ?_
      refine am_lcmp cx dL_law_546 ?_
      refine am_if_eq cx (tgt := 1166) dL_law_547 (by decide) (fun h => ?_) (fun h => ?_)
      · have hres := am_ifp h hres
        refine am_widen cx (k' := (144 + (513 - (i + 1)) * 49 + 49)) (n' := (13685 + (513 - (i + 1)) * 1169 + 1169)) (by omega) (by omega) ?_
        exact snL_law_b1166 cx sc hst hk23 hib hres
      · have hres := am_ifn h hres
        refine am_iconst cx (v := (0 : Int32)) dL_law_550 (by decide) ?_
        obtain ⟨rfl, rfl⟩ := am_fin hres
        refine am_widen cx (k' := 601024) (n' := 7293034) (by omega) (by omega) ?_
        exact am_zret cx rfl dL_law_551
    have hres := am_ifn w131 hres
    by_cases w142 : ((xs x4.toNatClampNeg) &&& (31 : Int32)) = (11 : Int32)
    · refine am_tableIn cx (tgt := 552) (off := 512) dL_law_40 (by rw [w142]; decide) (by rw [w142]; decide) (by rw [w142]; decide) (by decide) ?_
      have hres := am_ifp w142 hres
      refine am_aload_n cx 1 dL_law_552 rfl ?_
      refine am_aload_nS cx 0 dL_law_553 rfl ?_
      refine am_iload cx 4 dL_law_554 rfl ?_
      refine am_iconst cx (v := (1 : Int32)) dL_law_556 (by decide) ?_
      refine am_iadd cx dL_law_557 ?_
      obtain ⟨q143, hres⟩ := am_ck_some hres
      refine am_xld sc dL_law_558 q143 ?_
      refine am_aload_nS cx 0 dL_law_559 rfl ?_
      refine am_iload cx 4 dL_law_560 rfl ?_
      refine am_iconst cx (v := (2 : Int32)) dL_law_562 (by decide) ?_
      refine am_iadd cx dL_law_563 ?_
      obtain ⟨q144, hres⟩ := am_ck_some hres
      refine am_xld sc dL_law_564 q144 ?_
      obtain ⟨q145, hres⟩ := am_ck_some hres
      obtain ⟨v146, M147, q148, hres⟩ := am_bd_some hres
      refine am_callV1 cx [.inl (xs (x4 + (1 : Int32)).toNatClampNeg), .inl (xs (x4 + (2 : Int32)).toNatClampNeg)] dL_law_565 cvL_76 (mt11_current q148) (am_ke q145) ⟨rfl, rfl, Nat.le_of_ble_eq_true rfl, Nat.le_of_ble_eq_true rfl⟩ rfl (Nat.le_of_ble_eq_true rfl) ⟨by show _ ≤ (601024 : Nat); omega, by show _ ≤ (7293034 : Nat); omega⟩ ?_
      refine am_aload_n cx 2 dL_law_568 rfl ?_
      refine am_aload_nS cx 0 dL_law_569 rfl ?_
      refine am_iload cx 4 dL_law_570 rfl ?_
      refine am_iconst cx (v := (1 : Int32)) dL_law_572 (by decide) ?_
      refine am_iadd cx dL_law_573 ?_
      obtain ⟨q149, hres⟩ := am_ck_some hres
      refine am_xld sc dL_law_574 q149 ?_
      refine am_aload_nS cx 0 dL_law_575 rfl ?_
      refine am_iload cx 4 dL_law_576 rfl ?_
      refine am_iconst cx (v := (2 : Int32)) dL_law_578 (by decide) ?_
      refine am_iadd cx dL_law_579 ?_
      obtain ⟨q150, hres⟩ := am_ck_some hres
      refine am_xld sc dL_law_580 q150 ?_
      obtain ⟨q151, hres⟩ := am_ck_some hres
      obtain ⟨v152, M153, q154, hres⟩ := am_bd_some hres
      refine am_callV1 cx [.inl (xs (x4 + (1 : Int32)).toNatClampNeg), .inl (xs (x4 + (2 : Int32)).toNatClampNeg)] dL_law_581 cvL_79 (mt12_current q154) (am_ke q151) ⟨rfl, rfl, Nat.le_of_ble_eq_true rfl, Nat.le_of_ble_eq_true rfl⟩ rfl (Nat.le_of_ble_eq_true rfl) ⟨by show _ ≤ (601024 : Nat); omega, by show _ ≤ (7293034 : Nat); omega⟩ ?_
      refine am_icmp_eq cx (tgt := 1166) dL_law_584 (by decide) (fun h => ?_) (fun h => ?_)
      · have hres := am_ifp h hres
        refine am_widen cx (k' := (144 + (513 - (i + 1)) * 49 + 49)) (n' := (13685 + (513 - (i + 1)) * 1169 + 1169)) (by omega) (by omega) ?_
        exact snL_law_b1166 cx sc hst hk23 hib hres
      · have hres := am_ifn h hres
        refine am_iconst cx (v := (0 : Int32)) dL_law_587 (by decide) ?_
        obtain ⟨rfl, rfl⟩ := am_fin hres
        refine am_widen cx (k' := 601024) (n' := 7293034) (by omega) (by omega) ?_
        exact am_zret cx rfl dL_law_588
    have hres := am_ifn w142 hres
    by_cases w155 : ((xs x4.toNatClampNeg) &&& (31 : Int32)) = (12 : Int32)
    · refine am_tableIn cx (tgt := 589) (off := 549) dL_law_40 (by rw [w155]; decide) (by rw [w155]; decide) (by rw [w155]; decide) (by decide) ?_
      have hres := am_ifp w155 hres
      refine am_aload_n cx 1 dL_law_589 rfl ?_
      refine am_aload_nS cx 0 dL_law_590 rfl ?_
      refine am_iload cx 4 dL_law_591 rfl ?_
      refine am_iconst cx (v := (1 : Int32)) dL_law_593 (by decide) ?_
      refine am_iadd cx dL_law_594 ?_
      obtain ⟨q156, hres⟩ := am_ck_some hres
      refine am_xld sc dL_law_595 q156 ?_
      refine am_aload_nS cx 0 dL_law_596 rfl ?_
      refine am_iload cx 4 dL_law_597 rfl ?_
      refine am_iconst cx (v := (2 : Int32)) dL_law_599 (by decide) ?_
      refine am_iadd cx dL_law_600 ?_
      obtain ⟨q157, hres⟩ := am_ck_some hres
      refine am_xld sc dL_law_601 q157 ?_
      obtain ⟨q158, hres⟩ := am_ck_some hres
      obtain ⟨v159, M160, q161, hres⟩ := am_bd_some hres
      refine am_callV1 cx [.inl (xs (x4 + (1 : Int32)).toNatClampNeg), .inl (xs (x4 + (2 : Int32)).toNatClampNeg)] dL_law_602 cvL_80 (mt11_level q161) (am_ke q158) ⟨rfl, rfl, Nat.le_of_ble_eq_true rfl, Nat.le_of_ble_eq_true rfl⟩ rfl (Nat.le_of_ble_eq_true rfl) ⟨by show _ ≤ (601024 : Nat); omega, by show _ ≤ (7293034 : Nat); omega⟩ ?_
      refine am_aload_n cx 2 dL_law_605 rfl ?_
      refine am_aload_nS cx 0 dL_law_606 rfl ?_
      refine am_iload cx 4 dL_law_607 rfl ?_
      refine am_iconst cx (v := (1 : Int32)) dL_law_609 (by decide) ?_
      refine am_iadd cx dL_law_610 ?_
      obtain ⟨q162, hres⟩ := am_ck_some hres
      refine am_xld sc dL_law_611 q162 ?_
      refine am_aload_nS cx 0 dL_law_612 rfl ?_
      refine am_iload cx 4 dL_law_613 rfl ?_
      refine am_iconst cx (v := (2 : Int32)) dL_law_615 (by decide) ?_
      refine am_iadd cx dL_law_616 ?_
      obtain ⟨q163, hres⟩ := am_ck_some hres
      refine am_xld sc dL_law_617 q163 ?_
      obtain ⟨q164, hres⟩ := am_ck_some hres
      obtain ⟨v165, M166, q167, hres⟩ := am_bd_some hres
      refine am_callV1 cx [.inl (xs (x4 + (1 : Int32)).toNatClampNeg), .inl (xs (x4 + (2 : Int32)).toNatClampNeg)] dL_law_618 cvL_83 (mt12_level q167) (am_ke q164) ⟨rfl, rfl, Nat.le_of_ble_eq_true rfl, Nat.le_of_ble_eq_true rfl⟩ rfl (Nat.le_of_ble_eq_true rfl) ⟨by show _ ≤ (601024 : Nat); omega, by show _ ≤ (7293034 : Nat); omega⟩ ?_
      refine am_icmp_eq cx (tgt := 1166) dL_law_621 (by decide) (fun h => ?_) (fun h => ?_)
      · have hres := am_ifp h hres
        refine am_widen cx (k' := (144 + (513 - (i + 1)) * 49 + 49)) (n' := (13685 + (513 - (i + 1)) * 1169 + 1169)) (by omega) (by omega) ?_
        exact snL_law_b1166 cx sc hst hk23 hib hres
      · have hres := am_ifn h hres
        refine am_iconst cx (v := (0 : Int32)) dL_law_624 (by decide) ?_
        obtain ⟨rfl, rfl⟩ := am_fin hres
        refine am_widen cx (k' := 601024) (n' := 7293034) (by omega) (by omega) ?_
        exact am_zret cx rfl dL_law_625
    have hres := am_ifn w155 hres
    by_cases w168 : ((xs x4.toNatClampNeg) &&& (31 : Int32)) = (13 : Int32)
    · refine am_tableIn cx (tgt := 626) (off := 586) dL_law_40 (by rw [w168]; decide) (by rw [w168]; decide) (by rw [w168]; decide) (by decide) ?_
      have hres := am_ifp w168 hres
      refine am_aload_n cx 1 dL_law_626 rfl ?_
      refine am_aload_nS cx 0 dL_law_627 rfl ?_
      refine am_iload cx 4 dL_law_628 rfl ?_
      refine am_iconst cx (v := (1 : Int32)) dL_law_630 (by decide) ?_
      refine am_iadd cx dL_law_631 ?_
      obtain ⟨q169, hres⟩ := am_ck_some hres
      refine am_xld sc dL_law_632 q169 ?_
      obtain ⟨q170, hres⟩ := am_ck_some hres
      obtain ⟨v171, M172, q173, hres⟩ := am_bd_some hres
      refine am_callV1 cx [.inl (xs (x4 + (1 : Int32)).toNatClampNeg)] dL_law_633 cvL_84 (mt11_layings q173) (am_ke q170) ⟨rfl, rfl, Nat.le_of_ble_eq_true rfl, Nat.le_of_ble_eq_true rfl⟩ rfl (Nat.le_of_ble_eq_true rfl) ⟨by show _ ≤ (601024 : Nat); omega, by show _ ≤ (7293034 : Nat); omega⟩ ?_
      refine am_aload_n cx 2 dL_law_636 rfl ?_
      refine am_aload_nS cx 0 dL_law_637 rfl ?_
      refine am_iload cx 4 dL_law_638 rfl ?_
      refine am_iconst cx (v := (1 : Int32)) dL_law_640 (by decide) ?_
      refine am_iadd cx dL_law_641 ?_
      obtain ⟨q174, hres⟩ := am_ck_some hres
      refine am_xld sc dL_law_642 q174 ?_
      obtain ⟨q175, hres⟩ := am_ck_some hres
      obtain ⟨v176, M177, q178, hres⟩ := am_bd_some hres
      refine am_callV1 cx [.inl (xs (x4 + (1 : Int32)).toNatClampNeg)] dL_law_643 cvL_87 (mt12_layings q178) (am_ke q175) ⟨rfl, rfl, Nat.le_of_ble_eq_true rfl, Nat.le_of_ble_eq_true rfl⟩ rfl (Nat.le_of_ble_eq_true rfl) ⟨by show _ ≤ (601024 : Nat); omega, by show _ ≤ (7293034 : Nat); omega⟩ ?_
      refine am_icmp_eq cx (tgt := 1166) dL_law_646 (by decide) (fun h => ?_) (fun h => ?_)
      · have hres := am_ifp h hres
        refine am_widen cx (k' := (144 + (513 - (i + 1)) * 49 + 49)) (n' := (13685 + (513 - (i + 1)) * 1169 + 1169)) (by omega) (by omega) ?_
        exact snL_law_b1166 cx sc hst hk23 hib hres
      · have hres := am_ifn h hres
        refine am_iconst cx (v := (0 : Int32)) dL_law_649 (by decide) ?_
        obtain ⟨rfl, rfl⟩ := am_fin hres
        refine am_widen cx (k' := 601024) (n' := 7293034) (by omega) (by omega) ?_
        exact am_zret cx rfl dL_law_650
    have hres := am_ifn w168 hres
    by_cases w179 : ((xs x4.toNatClampNeg) &&& (31 : Int32)) = (14 : Int32)
    · refine am_tableIn cx (tgt := 651) (off := 611) dL_law_40 (by rw [w179]; decide) (by rw [w179]; decide) (by rw [w179]; decide) (by decide) ?_
      have hres := am_ifp w179 hres
      refine am_aload_n cx 1 dL_law_651 rfl ?_
      refine am_aload_nS cx 0 dL_law_652 rfl ?_
      refine am_iload cx 4 dL_law_653 rfl ?_
      refine am_iconst cx (v := (1 : Int32)) dL_law_655 (by decide) ?_
      refine am_iadd cx dL_law_656 ?_
      obtain ⟨q180, hres⟩ := am_ck_some hres
      refine am_xld sc dL_law_657 q180 ?_
      obtain ⟨q181, hres⟩ := am_ck_some hres
      obtain ⟨v182, M183, q184, hres⟩ := am_bd_some hres
      refine am_callV1 cx [.inl (xs (x4 + (1 : Int32)).toNatClampNeg)] dL_law_658 cvL_88 (mt11_lines q184) (am_ke q181) ⟨rfl, rfl, Nat.le_of_ble_eq_true rfl, Nat.le_of_ble_eq_true rfl⟩ rfl (Nat.le_of_ble_eq_true rfl) ⟨by show _ ≤ (601024 : Nat); omega, by show _ ≤ (7293034 : Nat); omega⟩ ?_
      refine am_aload_n cx 2 dL_law_661 rfl ?_
      refine am_aload_nS cx 0 dL_law_662 rfl ?_
      refine am_iload cx 4 dL_law_663 rfl ?_
      refine am_iconst cx (v := (1 : Int32)) dL_law_665 (by decide) ?_
      refine am_iadd cx dL_law_666 ?_
      obtain ⟨q185, hres⟩ := am_ck_some hres
      refine am_xld sc dL_law_667 q185 ?_
      obtain ⟨q186, hres⟩ := am_ck_some hres
      obtain ⟨v187, M188, q189, hres⟩ := am_bd_some hres
      refine am_callV1 cx [.inl (xs (x4 + (1 : Int32)).toNatClampNeg)] dL_law_668 cvL_91 (mt12_lines q189) (am_ke q186) ⟨rfl, rfl, Nat.le_of_ble_eq_true rfl, Nat.le_of_ble_eq_true rfl⟩ rfl (Nat.le_of_ble_eq_true rfl) ⟨by show _ ≤ (601024 : Nat); omega, by show _ ≤ (7293034 : Nat); omega⟩ ?_
      refine am_icmp_eq cx (tgt := 1166) dL_law_671 (by decide) (fun h => ?_) (fun h => ?_)
      · have hres := am_ifp h hres
        refine am_widen cx (k' := (144 + (513 - (i + 1)) * 49 + 49)) (n' := (13685 + (513 - (i + 1)) * 1169 + 1169)) (by omega) (by omega) ?_
        exact snL_law_b1166 cx sc hst hk23 hib hres
      · have hres := am_ifn h hres
        refine am_iconst cx (v := (0 : Int32)) dL_law_674 (by decide) ?_
        obtain ⟨rfl, rfl⟩ := am_fin hres
        refine am_widen cx (k' := 601024) (n' := 7293034) (by omega) (by omega) ?_
        exact am_zret cx rfl dL_law_675
    have hres := am_ifn w179 hres
    by_cases w190 : ((xs x4.toNatClampNeg) &&& (31 : Int32)) = (15 : Int32)
    · refine am_tableIn cx (tgt := 676) (off := 636) dL_law_40 (by rw [w190]; decide) (by rw [w190]; decide) (by rw [w190]; decide) (by decide) ?_
      have hres := am_ifp w190 hres
      refine am_aload_n cx 1 dL_law_676 rfl ?_
      refine am_aload_nS cx 0 dL_law_677 rfl ?_
      refine am_iload cx 4 dL_law_678 rfl ?_
      refine am_iconst cx (v := (1 : Int32)) dL_law_680 (by decide) ?_
      refine am_iadd cx dL_law_681 ?_
      obtain ⟨q191, hres⟩ := am_ck_some hres
      refine am_xld sc dL_law_682 q191 ?_
      refine am_aload_nS cx 0 dL_law_683 rfl ?_
      refine am_iload cx 4 dL_law_684 rfl ?_
      refine am_iconst cx (v := (2 : Int32)) dL_law_686 (by decide) ?_
      refine am_iadd cx dL_law_687 ?_
      obtain ⟨q192, hres⟩ := am_ck_some hres
      refine am_xld sc dL_law_688 q192 ?_
      refine am_aload_nS cx 0 dL_law_689 rfl ?_
      refine am_iload cx 4 dL_law_690 rfl ?_
      refine am_iconst cx (v := (3 : Int32)) dL_law_692 (by decide) ?_
      refine am_iadd cx dL_law_693 ?_
      obtain ⟨q193, hres⟩ := am_ck_some hres
      refine am_xld sc dL_law_694 q193 ?_
      refine am_aload_n cx 3 dL_law_695 rfl ?_
      obtain ⟨v194, M195, q196, hres⟩ := am_bd_some hres
      refine am_callSX cx [.inr (.inr (.inl r1)), .inl (xs (x4 + (1 : Int32)).toNatClampNeg), .inl (xs (x4 + (2 : Int32)).toNatClampNeg), .inl (xs (x4 + (3 : Int32)).toNatClampNeg), .inr (.inr (.inl r3))] dL_law_696 cx_line (mtL_line hst q196)  ⟨rfl, rfl, Nat.le_of_ble_eq_true rfl, Nat.le_of_ble_eq_true rfl⟩ rfl (Nat.le_of_ble_eq_true rfl) ⟨by show _ ≤ (601024 : Nat); omega, by show _ ≤ (7293034 : Nat); omega⟩ ?_
      refine am_istore cx (lv' := [(0, .inr (.inr (.inr 7))), (1, .inr (.inr (.inl r1))), (2, .inr (.inr (.inl r2))), (3, .inr (.inr (.inl r3))), (4, .inl x4), (5, .inl v194)]) dL_law_699 (Nat.le_of_ble_eq_true rfl) rfl ?_
      refine am_aload_n cx 2 dL_law_701 rfl ?_
      refine am_aload_nS cx 0 dL_law_702 rfl ?_
      refine am_iload cx 4 dL_law_703 rfl ?_
      refine am_iconst cx (v := (1 : Int32)) dL_law_705 (by decide) ?_
      refine am_iadd cx dL_law_706 ?_
      obtain ⟨q197, hres⟩ := am_ck_some hres
      refine am_xld sc dL_law_707 q197 ?_
      refine am_aload_nS cx 0 dL_law_708 rfl ?_
      refine am_iload cx 4 dL_law_709 rfl ?_
      refine am_iconst cx (v := (2 : Int32)) dL_law_711 (by decide) ?_
      refine am_iadd cx dL_law_712 ?_
      obtain ⟨q198, hres⟩ := am_ck_some hres
      refine am_xld sc dL_law_713 q198 ?_
      refine am_aload_nS cx 0 dL_law_714 rfl ?_
      refine am_iload cx 4 dL_law_715 rfl ?_
      refine am_iconst cx (v := (3 : Int32)) dL_law_717 (by decide) ?_
      refine am_iadd cx dL_law_718 ?_
      obtain ⟨q199, hres⟩ := am_ck_some hres
      refine am_xld sc dL_law_719 q199 ?_
      obtain ⟨q200, hres⟩ := am_ck_some hres
      obtain ⟨v201, M202, q203, hres⟩ := am_bd_some hres
      refine am_callV1 cx [.inl (xs (x4 + (1 : Int32)).toNatClampNeg), .inl (xs (x4 + (2 : Int32)).toNatClampNeg), .inl (xs (x4 + (3 : Int32)).toNatClampNeg)] dL_law_720 cvL_94 (mt12_line q203) (am_ke q200) ⟨rfl, rfl, Nat.le_of_ble_eq_true rfl, Nat.le_of_ble_eq_true rfl⟩ rfl (Nat.le_of_ble_eq_true rfl) ⟨by show _ ≤ (601024 : Nat); omega, by show _ ≤ (7293034 : Nat); omega⟩ ?_
      refine am_istore cx (lv' := [(0, .inr (.inr (.inr 7))), (1, .inr (.inr (.inl r1))), (2, .inr (.inr (.inl r2))), (3, .inr (.inr (.inl r3))), (4, .inl x4), (5, .inl v194), (6, .inl v201)]) dL_law_723 (Nat.le_of_ble_eq_true rfl) rfl ?_
      refine am_aload_n cx 2 dL_law_725 rfl ?_
      obtain ⟨q204, hres⟩ := am_ck_some hres
      obtain ⟨v205, M206, q207, hres⟩ := am_bd_some hres
      refine am_callV1 cx [] dL_law_726 cvL_43 (mt12_thrown q207) (am_ke q204) ⟨rfl, rfl, Nat.le_of_ble_eq_true rfl, Nat.le_of_ble_eq_true rfl⟩ rfl (Nat.le_of_ble_eq_true rfl) ⟨by show _ ≤ (601024 : Nat); omega, by show _ ≤ (7293034 : Nat); omega⟩ ?_
      refine am_iload cx 5 dL_law_729 rfl ?_
      refine am_icmp_eq cx (tgt := 736) dL_law_731 (by decide) (fun h => ?_) (fun h => ?_)
      · have hres := am_ifp h hres
        refine am_iload cx 5 dL_law_736 rfl ?_
        refine am_if_ne cx (tgt := 753) dL_law_738 (by decide) (fun h => ?_) (fun h => ?_)
        · have hres := am_ifn h hres
          refine am_sub cx [0, 1, 2, 3, 4] rfl ?_
          exact snL_law_b753 cx sc hst hk23 hib hres
        · have hres := am_ifp h hres
          refine am_aload_n cx 3 dL_law_741 rfl ?_
          refine am_iconst cx (v := (0 : Int32)) dL_law_742 (by decide) ?_
          obtain ⟨q208, hres⟩ := am_ck_some hres
          obtain ⟨q209, hres⟩ := am_ck_some hres
          refine am_lald cx dL_law_743 (am_ke q208) q209 ?_
          refine am_iload cx 6 dL_law_744 rfl ?_
          refine am_i2l cx dL_law_746 ?_
          refine am_lcmp cx dL_law_747 ?_
          refine am_if_eq cx (tgt := 753) dL_law_748 (by decide) (fun h => ?_) (fun h => ?_)
          · have hres := am_ifp h hres
            refine am_sub cx [0, 1, 2, 3, 4] rfl ?_
            exact snL_law_b753 cx sc hst hk23 hib hres
          · have hres := am_ifn h hres
            refine am_iconst cx (v := (0 : Int32)) dL_law_751 (by decide) ?_
            obtain ⟨rfl, rfl⟩ := am_fin hres
            refine am_widen cx (k' := 601024) (n' := 7293034) (by omega) (by omega) ?_
            exact am_zret cx rfl dL_law_752
      · have hres := am_ifn h hres
        refine am_iconst cx (v := (0 : Int32)) dL_law_734 (by decide) ?_
        obtain ⟨rfl, rfl⟩ := am_fin hres
        refine am_widen cx (k' := 601024) (n' := 7293034) (by omega) (by omega) ?_
        exact am_zret cx rfl dL_law_735
    have hres := am_ifn w190 hres
    by_cases w210 : ((xs x4.toNatClampNeg) &&& (31 : Int32)) = (16 : Int32)
    · refine am_tableIn cx (tgt := 756) (off := 716) dL_law_40 (by rw [w210]; decide) (by rw [w210]; decide) (by rw [w210]; decide) (by decide) ?_
      have hres := am_ifp w210 hres
      refine am_aload_n cx 1 dL_law_756 rfl ?_
      refine am_aload_nS cx 0 dL_law_757 rfl ?_
      refine am_iload cx 4 dL_law_758 rfl ?_
      refine am_iconst cx (v := (1 : Int32)) dL_law_760 (by decide) ?_
      refine am_iadd cx dL_law_761 ?_
      obtain ⟨q211, hres⟩ := am_ck_some hres
      refine am_xld sc dL_law_762 q211 ?_
      refine am_aload_nS cx 0 dL_law_763 rfl ?_
      refine am_iload cx 4 dL_law_764 rfl ?_
      refine am_iconst cx (v := (2 : Int32)) dL_law_766 (by decide) ?_
      refine am_iadd cx dL_law_767 ?_
      obtain ⟨q212, hres⟩ := am_ck_some hres
      refine am_xld sc dL_law_768 q212 ?_
      refine am_aload_nS cx 0 dL_law_769 rfl ?_
      refine am_iload cx 4 dL_law_770 rfl ?_
      refine am_iconst cx (v := (3 : Int32)) dL_law_772 (by decide) ?_
      refine am_iadd cx dL_law_773 ?_
      obtain ⟨q213, hres⟩ := am_ck_some hres
      refine am_xld sc dL_law_774 q213 ?_
      refine am_if_eq cx (tgt := 782) dL_law_775 (by decide) (fun h => ?_) (fun h => ?_)
      · have hres := am_ifp h hres
        refine am_iconst cx (v := (0 : Int32)) dL_law_782 (by decide) ?_
        exact snL_law_b783 cx sc hst hk23 hib hres
      · have hres := am_ifn h hres
        refine am_iconst cx (v := (1 : Int32)) dL_law_778 (by decide) ?_
        refine am_goto cx (tgt := 783) dL_law_779 (by decide) ?_
        exact snL_law_b783 cx sc hst hk23 hib hres
    have hres := am_ifn w210 hres
    by_cases w214 : ((xs x4.toNatClampNeg) &&& (31 : Int32)) = (17 : Int32)
    · refine am_tableIn cx (tgt := 821) (off := 781) dL_law_40 (by rw [w214]; decide) (by rw [w214]; decide) (by rw [w214]; decide) (by decide) ?_
      have hres := am_ifp w214 hres
      refine am_aload_n cx 1 dL_law_821 rfl ?_
      refine am_aload_nS cx 0 dL_law_822 rfl ?_
      refine am_iload cx 4 dL_law_823 rfl ?_
      refine am_iconst cx (v := (1 : Int32)) dL_law_825 (by decide) ?_
      refine am_iadd cx dL_law_826 ?_
      obtain ⟨q215, hres⟩ := am_ck_some hres
      refine am_xld sc dL_law_827 q215 ?_
      refine am_aload_nS cx 0 dL_law_828 rfl ?_
      refine am_iload cx 4 dL_law_829 rfl ?_
      refine am_iconst cx (v := (2 : Int32)) dL_law_831 (by decide) ?_
      refine am_iadd cx dL_law_832 ?_
      obtain ⟨q216, hres⟩ := am_ck_some hres
      refine am_xld sc dL_law_833 q216 ?_
      obtain ⟨q217, hres⟩ := am_ck_some hres
      obtain ⟨v218, M219, q220, hres⟩ := am_bd_some hres
      refine am_callV1 cx [.inl (xs (x4 + (1 : Int32)).toNatClampNeg), .inl (xs (x4 + (2 : Int32)).toNatClampNeg)] dL_law_834 cvL_100 (mt11_alike q220) (am_ke q217) ⟨rfl, rfl, Nat.le_of_ble_eq_true rfl, Nat.le_of_ble_eq_true rfl⟩ rfl (Nat.le_of_ble_eq_true rfl) ⟨by show _ ≤ (601024 : Nat); omega, by show _ ≤ (7293034 : Nat); omega⟩ ?_
      refine am_aload_n cx 2 dL_law_837 rfl ?_
      refine am_aload_nS cx 0 dL_law_838 rfl ?_
      refine am_iload cx 4 dL_law_839 rfl ?_
      refine am_iconst cx (v := (1 : Int32)) dL_law_841 (by decide) ?_
      refine am_iadd cx dL_law_842 ?_
      obtain ⟨q221, hres⟩ := am_ck_some hres
      refine am_xld sc dL_law_843 q221 ?_
      refine am_aload_nS cx 0 dL_law_844 rfl ?_
      refine am_iload cx 4 dL_law_845 rfl ?_
      refine am_iconst cx (v := (2 : Int32)) dL_law_847 (by decide) ?_
      refine am_iadd cx dL_law_848 ?_
      obtain ⟨q222, hres⟩ := am_ck_some hres
      refine am_xld sc dL_law_849 q222 ?_
      obtain ⟨q223, hres⟩ := am_ck_some hres
      obtain ⟨v224, M225, q226, hres⟩ := am_bd_some hres
      refine am_callV1 cx [.inl (xs (x4 + (1 : Int32)).toNatClampNeg), .inl (xs (x4 + (2 : Int32)).toNatClampNeg)] dL_law_850 cvL_103 (mt12_alike q226) (am_ke q223) ⟨rfl, rfl, Nat.le_of_ble_eq_true rfl, Nat.le_of_ble_eq_true rfl⟩ rfl (Nat.le_of_ble_eq_true rfl) ⟨by show _ ≤ (601024 : Nat); omega, by show _ ≤ (7293034 : Nat); omega⟩ ?_
      refine am_icmp_eq cx (tgt := 1166) dL_law_853 (by decide) (fun h => ?_) (fun h => ?_)
      · have hres := am_ifp h hres
        refine am_widen cx (k' := (144 + (513 - (i + 1)) * 49 + 49)) (n' := (13685 + (513 - (i + 1)) * 1169 + 1169)) (by omega) (by omega) ?_
        exact snL_law_b1166 cx sc hst hk23 hib hres
      · have hres := am_ifn h hres
        refine am_iconst cx (v := (0 : Int32)) dL_law_856 (by decide) ?_
        obtain ⟨rfl, rfl⟩ := am_fin hres
        refine am_widen cx (k' := 601024) (n' := 7293034) (by omega) (by omega) ?_
        exact am_zret cx rfl dL_law_857
    have hres := am_ifn w214 hres
    by_cases w227 : ((xs x4.toNatClampNeg) &&& (31 : Int32)) = (18 : Int32)
    · refine am_tableIn cx (tgt := 858) (off := 818) dL_law_40 (by rw [w227]; decide) (by rw [w227]; decide) (by rw [w227]; decide) (by decide) ?_
      have hres := am_ifp w227 hres
      refine am_aload_n cx 1 dL_law_858 rfl ?_
      refine am_aload_nS cx 0 dL_law_859 rfl ?_
      refine am_iload cx 4 dL_law_860 rfl ?_
      refine am_iconst cx (v := (1 : Int32)) dL_law_862 (by decide) ?_
      refine am_iadd cx dL_law_863 ?_
      obtain ⟨q228, hres⟩ := am_ck_some hres
      refine am_xld sc dL_law_864 q228 ?_
      refine am_aload_nS cx 0 dL_law_865 rfl ?_
      refine am_iload cx 4 dL_law_866 rfl ?_
      refine am_iconst cx (v := (2 : Int32)) dL_law_868 (by decide) ?_
      refine am_iadd cx dL_law_869 ?_
      obtain ⟨q229, hres⟩ := am_ck_some hres
      refine am_xld sc dL_law_870 q229 ?_
      refine am_aload_nS cx 0 dL_law_871 rfl ?_
      refine am_iload cx 4 dL_law_872 rfl ?_
      refine am_iconst cx (v := (3 : Int32)) dL_law_874 (by decide) ?_
      refine am_iadd cx dL_law_875 ?_
      obtain ⟨q230, hres⟩ := am_ck_some hres
      refine am_xld sc dL_law_876 q230 ?_
      refine am_if_eq cx (tgt := 884) dL_law_877 (by decide) (fun h => ?_) (fun h => ?_)
      · have hres := am_ifp h hres
        refine am_iconst cx (v := (0 : Int32)) dL_law_884 (by decide) ?_
        exact snL_law_b885 cx sc hst hk23 hib hres
      · have hres := am_ifn h hres
        refine am_iconst cx (v := (1 : Int32)) dL_law_880 (by decide) ?_
        refine am_goto cx (tgt := 885) dL_law_881 (by decide) ?_
        exact snL_law_b885 cx sc hst hk23 hib hres
    have hres := am_ifn w227 hres
    by_cases w231 : ((xs x4.toNatClampNeg) &&& (31 : Int32)) = (19 : Int32)
    · refine am_tableIn cx (tgt := 923) (off := 883) dL_law_40 (by rw [w231]; decide) (by rw [w231]; decide) (by rw [w231]; decide) (by decide) ?_
      have hres := am_ifp w231 hres
      refine am_aload_n cx 1 dL_law_923 rfl ?_
      refine am_aload_nS cx 0 dL_law_924 rfl ?_
      refine am_iload cx 4 dL_law_925 rfl ?_
      refine am_iconst cx (v := (1 : Int32)) dL_law_927 (by decide) ?_
      refine am_iadd cx dL_law_928 ?_
      obtain ⟨q232, hres⟩ := am_ck_some hres
      refine am_xld sc dL_law_929 q232 ?_
      refine am_aload_nS cx 0 dL_law_930 rfl ?_
      refine am_iload cx 4 dL_law_931 rfl ?_
      refine am_iconst cx (v := (2 : Int32)) dL_law_933 (by decide) ?_
      refine am_iadd cx dL_law_934 ?_
      obtain ⟨q233, hres⟩ := am_ck_some hres
      refine am_xld sc dL_law_935 q233 ?_
      refine am_if_eq cx (tgt := 943) dL_law_936 (by decide) (fun h => ?_) (fun h => ?_)
      · have hres := am_ifp h hres
        refine am_iconst cx (v := (0 : Int32)) dL_law_943 (by decide) ?_
        exact snL_law_b944 cx sc hst hk23 hib hres
      · have hres := am_ifn h hres
        refine am_iconst cx (v := (1 : Int32)) dL_law_939 (by decide) ?_
        refine am_goto cx (tgt := 944) dL_law_940 (by decide) ?_
        exact snL_law_b944 cx sc hst hk23 hib hres
    have hres := am_ifn w231 hres
    by_cases w234 : ((xs x4.toNatClampNeg) &&& (31 : Int32)) = (20 : Int32)
    · refine am_tableIn cx (tgt := 976) (off := 936) dL_law_40 (by rw [w234]; decide) (by rw [w234]; decide) (by rw [w234]; decide) (by decide) ?_
      have hres := am_ifp w234 hres
      refine am_aload_n cx 1 dL_law_976 rfl ?_
      refine am_aload_nS cx 0 dL_law_977 rfl ?_
      refine am_iload cx 4 dL_law_978 rfl ?_
      refine am_iconst cx (v := (1 : Int32)) dL_law_980 (by decide) ?_
      refine am_iadd cx dL_law_981 ?_
      obtain ⟨q235, hres⟩ := am_ck_some hres
      refine am_xld sc dL_law_982 q235 ?_
      refine am_aload_nS cx 0 dL_law_983 rfl ?_
      refine am_iload cx 4 dL_law_984 rfl ?_
      refine am_iconst cx (v := (2 : Int32)) dL_law_986 (by decide) ?_
      refine am_iadd cx dL_law_987 ?_
      obtain ⟨q236, hres⟩ := am_ck_some hres
      refine am_xld sc dL_law_988 q236 ?_
      obtain ⟨q237, hres⟩ := am_ck_some hres
      obtain ⟨v238, M239, q240, hres⟩ := am_bd_some hres
      refine am_callV1 cx [.inl (xs (x4 + (1 : Int32)).toNatClampNeg), .inl (xs (x4 + (2 : Int32)).toNatClampNeg)] dL_law_989 cvL_113 (mt11_turn q240) (am_ke q237) ⟨rfl, rfl, Nat.le_of_ble_eq_true rfl, Nat.le_of_ble_eq_true rfl⟩ rfl (Nat.le_of_ble_eq_true rfl) ⟨by show _ ≤ (601024 : Nat); omega, by show _ ≤ (7293034 : Nat); omega⟩ ?_
      refine am_aload_n cx 2 dL_law_992 rfl ?_
      refine am_aload_nS cx 0 dL_law_993 rfl ?_
      refine am_iload cx 4 dL_law_994 rfl ?_
      refine am_iconst cx (v := (1 : Int32)) dL_law_996 (by decide) ?_
      refine am_iadd cx dL_law_997 ?_
      obtain ⟨q241, hres⟩ := am_ck_some hres
      refine am_xld sc dL_law_998 q241 ?_
      refine am_aload_nS cx 0 dL_law_999 rfl ?_
      refine am_iload cx 4 dL_law_1000 rfl ?_
      refine am_iconst cx (v := (2 : Int32)) dL_law_1002 (by decide) ?_
      refine am_iadd cx dL_law_1003 ?_
      obtain ⟨q242, hres⟩ := am_ck_some hres
      refine am_xld sc dL_law_1004 q242 ?_
      obtain ⟨q243, hres⟩ := am_ck_some hres
      obtain ⟨v244, M245, q246, hres⟩ := am_bd_some hres
      refine am_callV1 cx [.inl (xs (x4 + (1 : Int32)).toNatClampNeg), .inl (xs (x4 + (2 : Int32)).toNatClampNeg)] dL_law_1005 cvL_116 (mt12_turn q246) (am_ke q243) ⟨rfl, rfl, Nat.le_of_ble_eq_true rfl, Nat.le_of_ble_eq_true rfl⟩ rfl (Nat.le_of_ble_eq_true rfl) ⟨by show _ ≤ (601024 : Nat); omega, by show _ ≤ (7293034 : Nat); omega⟩ ?_
      refine am_icmp_eq cx (tgt := 1166) dL_law_1008 (by decide) (fun h => ?_) (fun h => ?_)
      · have hres := am_ifp h hres
        refine am_widen cx (k' := (144 + (513 - (i + 1)) * 49 + 49)) (n' := (13685 + (513 - (i + 1)) * 1169 + 1169)) (by omega) (by omega) ?_
        exact snL_law_b1166 cx sc hst hk23 hib hres
      · have hres := am_ifn h hres
        refine am_iconst cx (v := (0 : Int32)) dL_law_1011 (by decide) ?_
        obtain ⟨rfl, rfl⟩ := am_fin hres
        refine am_widen cx (k' := 601024) (n' := 7293034) (by omega) (by omega) ?_
        exact am_zret cx rfl dL_law_1012
    have hres := am_ifn w234 hres
    by_cases w247 : ((xs x4.toNatClampNeg) &&& (31 : Int32)) = (21 : Int32)
    · refine am_tableIn cx (tgt := 1013) (off := 973) dL_law_40 (by rw [w247]; decide) (by rw [w247]; decide) (by rw [w247]; decide) (by decide) ?_
      have hres := am_ifp w247 hres
      refine am_aload_n cx 1 dL_law_1013 rfl ?_
      refine am_aload_nS cx 0 dL_law_1014 rfl ?_
      refine am_iload cx 4 dL_law_1015 rfl ?_
      refine am_iconst cx (v := (1 : Int32)) dL_law_1017 (by decide) ?_
      refine am_iadd cx dL_law_1018 ?_
      obtain ⟨q248, hres⟩ := am_ck_some hres
      refine am_xld sc dL_law_1019 q248 ?_
      refine am_aload_nS cx 0 dL_law_1020 rfl ?_
      refine am_iload cx 4 dL_law_1021 rfl ?_
      refine am_iconst cx (v := (2 : Int32)) dL_law_1023 (by decide) ?_
      refine am_iadd cx dL_law_1024 ?_
      obtain ⟨q249, hres⟩ := am_ck_some hres
      refine am_xld sc dL_law_1025 q249 ?_
      obtain ⟨q250, hres⟩ := am_ck_some hres
      obtain ⟨v251, M252, q253, hres⟩ := am_bd_some hres
      refine am_callV1 cx [.inl (xs (x4 + (1 : Int32)).toNatClampNeg), .inl (xs (x4 + (2 : Int32)).toNatClampNeg)] dL_law_1026 cvL_117 (mt11_times q253) (am_ke q250) ⟨rfl, rfl, Nat.le_of_ble_eq_true rfl, Nat.le_of_ble_eq_true rfl⟩ rfl (Nat.le_of_ble_eq_true rfl) ⟨by show _ ≤ (601024 : Nat); omega, by show _ ≤ (7293034 : Nat); omega⟩ ?_
      refine am_aload_n cx 2 dL_law_1029 rfl ?_
      refine am_aload_nS cx 0 dL_law_1030 rfl ?_
      refine am_iload cx 4 dL_law_1031 rfl ?_
      refine am_iconst cx (v := (1 : Int32)) dL_law_1033 (by decide) ?_
      refine am_iadd cx dL_law_1034 ?_
      obtain ⟨q254, hres⟩ := am_ck_some hres
      refine am_xld sc dL_law_1035 q254 ?_
      refine am_aload_nS cx 0 dL_law_1036 rfl ?_
      refine am_iload cx 4 dL_law_1037 rfl ?_
      refine am_iconst cx (v := (2 : Int32)) dL_law_1039 (by decide) ?_
      refine am_iadd cx dL_law_1040 ?_
      obtain ⟨q255, hres⟩ := am_ck_some hres
      refine am_xld sc dL_law_1041 q255 ?_
      obtain ⟨q256, hres⟩ := am_ck_some hres
      obtain ⟨v257, M258, q259, hres⟩ := am_bd_some hres
      refine am_callV1 cx [.inl (xs (x4 + (1 : Int32)).toNatClampNeg), .inl (xs (x4 + (2 : Int32)).toNatClampNeg)] dL_law_1042 cvL_120 (mt12_times q259) (am_ke q256) ⟨rfl, rfl, Nat.le_of_ble_eq_true rfl, Nat.le_of_ble_eq_true rfl⟩ rfl (Nat.le_of_ble_eq_true rfl) ⟨by show _ ≤ (601024 : Nat); omega, by show _ ≤ (7293034 : Nat); omega⟩ ?_
      refine am_icmp_eq cx (tgt := 1166) dL_law_1045 (by decide) (fun h => ?_) (fun h => ?_)
      · have hres := am_ifp h hres
        refine am_widen cx (k' := (144 + (513 - (i + 1)) * 49 + 49)) (n' := (13685 + (513 - (i + 1)) * 1169 + 1169)) (by omega) (by omega) ?_
        exact snL_law_b1166 cx sc hst hk23 hib hres
      · have hres := am_ifn h hres
        refine am_iconst cx (v := (0 : Int32)) dL_law_1048 (by decide) ?_
        obtain ⟨rfl, rfl⟩ := am_fin hres
        refine am_widen cx (k' := 601024) (n' := 7293034) (by omega) (by omega) ?_
        exact am_zret cx rfl dL_law_1049
    have hres := am_ifn w247 hres
    by_cases w260 : ((xs x4.toNatClampNeg) &&& (31 : Int32)) = (22 : Int32)
    · refine am_tableIn cx (tgt := 1050) (off := 1010) dL_law_40 (by rw [w260]; decide) (by rw [w260]; decide) (by rw [w260]; decide) (by decide) ?_
      have hres := am_ifp w260 hres
      refine am_aload_n cx 1 dL_law_1050 rfl ?_
      refine am_aload_nS cx 0 dL_law_1051 rfl ?_
      refine am_iload cx 4 dL_law_1052 rfl ?_
      refine am_iconst cx (v := (1 : Int32)) dL_law_1054 (by decide) ?_
      refine am_iadd cx dL_law_1055 ?_
      obtain ⟨q261, hres⟩ := am_ck_some hres
      refine am_xld sc dL_law_1056 q261 ?_
      obtain ⟨q262, hres⟩ := am_ck_some hres
      obtain ⟨v263, M264, q265, hres⟩ := am_bd_some hres
      refine am_callV1 cx [.inl (xs (x4 + (1 : Int32)).toNatClampNeg)] dL_law_1057 cvL_121 (mt11_lessen q265) (am_ke q262) ⟨rfl, rfl, Nat.le_of_ble_eq_true rfl, Nat.le_of_ble_eq_true rfl⟩ rfl (Nat.le_of_ble_eq_true rfl) ⟨by show _ ≤ (601024 : Nat); omega, by show _ ≤ (7293034 : Nat); omega⟩ ?_
      refine am_aload_n cx 2 dL_law_1060 rfl ?_
      refine am_aload_nS cx 0 dL_law_1061 rfl ?_
      refine am_iload cx 4 dL_law_1062 rfl ?_
      refine am_iconst cx (v := (1 : Int32)) dL_law_1064 (by decide) ?_
      refine am_iadd cx dL_law_1065 ?_
      obtain ⟨q266, hres⟩ := am_ck_some hres
      refine am_xld sc dL_law_1066 q266 ?_
      obtain ⟨q267, hres⟩ := am_ck_some hres
      obtain ⟨v268, M269, q270, hres⟩ := am_bd_some hres
      refine am_callV1 cx [.inl (xs (x4 + (1 : Int32)).toNatClampNeg)] dL_law_1067 cvL_124 (mt12_lessen q270) (am_ke q267) ⟨rfl, rfl, Nat.le_of_ble_eq_true rfl, Nat.le_of_ble_eq_true rfl⟩ rfl (Nat.le_of_ble_eq_true rfl) ⟨by show _ ≤ (601024 : Nat); omega, by show _ ≤ (7293034 : Nat); omega⟩ ?_
      refine am_icmp_eq cx (tgt := 1166) dL_law_1070 (by decide) (fun h => ?_) (fun h => ?_)
      · have hres := am_ifp h hres
        refine am_widen cx (k' := (144 + (513 - (i + 1)) * 49 + 49)) (n' := (13685 + (513 - (i + 1)) * 1169 + 1169)) (by omega) (by omega) ?_
        exact snL_law_b1166 cx sc hst hk23 hib hres
      · have hres := am_ifn h hres
        refine am_iconst cx (v := (0 : Int32)) dL_law_1073 (by decide) ?_
        obtain ⟨rfl, rfl⟩ := am_fin hres
        refine am_widen cx (k' := 601024) (n' := 7293034) (by omega) (by omega) ?_
        exact am_zret cx rfl dL_law_1074
    have hres := am_ifn w260 hres
    by_cases w271 : ((xs x4.toNatClampNeg) &&& (31 : Int32)) = (23 : Int32)
    · refine am_tableIn cx (tgt := 1075) (off := 1035) dL_law_40 (by rw [w271]; decide) (by rw [w271]; decide) (by rw [w271]; decide) (by decide) ?_
      have hres := am_ifp w271 hres
      refine am_aload_n cx 1 dL_law_1075 rfl ?_
      obtain ⟨q272, hres⟩ := am_ck_some hres
      obtain ⟨v273, M274, q275, hres⟩ := am_bd_some hres
      refine am_callV1 cx [] dL_law_1076 cvL_125 (mt11_undo q275) (am_ke q272) ⟨rfl, rfl, Nat.le_of_ble_eq_true rfl, Nat.le_of_ble_eq_true rfl⟩ rfl (Nat.le_of_ble_eq_true rfl) ⟨by show _ ≤ (601024 : Nat); omega, by show _ ≤ (7293034 : Nat); omega⟩ ?_
      refine am_aload_n cx 2 dL_law_1079 rfl ?_
      obtain ⟨q276, hres⟩ := am_ck_some hres
      obtain ⟨v277, M278, q279, hres⟩ := am_bd_some hres
      refine am_callV1 cx [] dL_law_1080 cvL_128 (mt12_undo q279) (am_ke q276) ⟨rfl, rfl, Nat.le_of_ble_eq_true rfl, Nat.le_of_ble_eq_true rfl⟩ rfl (Nat.le_of_ble_eq_true rfl) ⟨by show _ ≤ (601024 : Nat); omega, by show _ ≤ (7293034 : Nat); omega⟩ ?_
      refine am_icmp_eq cx (tgt := 1166) dL_law_1083 (by decide) (fun h => ?_) (fun h => ?_)
      · have hres := am_ifp h hres
        refine am_widen cx (k' := (144 + (513 - (i + 1)) * 49 + 49)) (n' := (13685 + (513 - (i + 1)) * 1169 + 1169)) (by omega) (by omega) ?_
        exact snL_law_b1166 cx sc hst hk23 hib hres
      · have hres := am_ifn h hres
        refine am_iconst cx (v := (0 : Int32)) dL_law_1086 (by decide) ?_
        obtain ⟨rfl, rfl⟩ := am_fin hres
        refine am_widen cx (k' := 601024) (n' := 7293034) (by omega) (by omega) ?_
        exact am_zret cx rfl dL_law_1087
    have hres := am_ifn w271 hres
    by_cases w280 : ((xs x4.toNatClampNeg) &&& (31 : Int32)) = (24 : Int32)
    · refine am_tableIn cx (tgt := 1088) (off := 1048) dL_law_40 (by rw [w280]; decide) (by rw [w280]; decide) (by rw [w280]; decide) (by decide) ?_
      have hres := am_ifp w280 hres
      refine am_aload_n cx 1 dL_law_1088 rfl ?_
      refine am_aload_nS cx 0 dL_law_1089 rfl ?_
      refine am_iload cx 4 dL_law_1090 rfl ?_
      refine am_iconst cx (v := (1 : Int32)) dL_law_1092 (by decide) ?_
      refine am_iadd cx dL_law_1093 ?_
      obtain ⟨q281, hres⟩ := am_ck_some hres
      refine am_xld sc dL_law_1094 q281 ?_
      refine am_aload_nS cx 0 dL_law_1095 rfl ?_
      refine am_iload cx 4 dL_law_1096 rfl ?_
      refine am_iconst cx (v := (2 : Int32)) dL_law_1098 (by decide) ?_
      refine am_iadd cx dL_law_1099 ?_
      obtain ⟨q282, hres⟩ := am_ck_some hres
      refine am_xld sc dL_law_1100 q282 ?_
      refine am_if_eq cx (tgt := 1108) dL_law_1101 (by decide) (fun h => ?_) (fun h => ?_)
      · have hres := am_ifp h hres
        refine am_iconst cx (v := (0 : Int32)) dL_law_1108 (by decide) ?_
        exact snL_law_b1109 cx sc hst hk23 hib hres
      · have hres := am_ifn h hres
        refine am_iconst cx (v := (1 : Int32)) dL_law_1104 (by decide) ?_
        refine am_goto cx (tgt := 1109) dL_law_1105 (by decide) ?_
        exact snL_law_b1109 cx sc hst hk23 hib hres
    have hres := am_ifn w280 hres
    by_cases w283 : ((xs x4.toNatClampNeg) &&& (31 : Int32)) = (25 : Int32)
    · refine am_tableIn cx (tgt := 1141) (off := 1101) dL_law_40 (by rw [w283]; decide) (by rw [w283]; decide) (by rw [w283]; decide) (by decide) ?_
      have hres := am_ifp w283 hres
      refine am_aload_n cx 1 dL_law_1141 rfl ?_
      refine am_aload_nS cx 0 dL_law_1142 rfl ?_
      refine am_iload cx 4 dL_law_1143 rfl ?_
      refine am_iconst cx (v := (1 : Int32)) dL_law_1145 (by decide) ?_
      refine am_iadd cx dL_law_1146 ?_
      obtain ⟨q284, hres⟩ := am_ck_some hres
      refine am_xld sc dL_law_1147 q284 ?_
      obtain ⟨q285, hres⟩ := am_ck_some hres
      obtain ⟨v286, M287, q288, hres⟩ := am_bd_some hres
      refine am_callV1 cx [.inl (xs (x4 + (1 : Int32)).toNatClampNeg)] dL_law_1148 cvL_134 (mt11_count q288) (am_ke q285) ⟨rfl, rfl, Nat.le_of_ble_eq_true rfl, Nat.le_of_ble_eq_true rfl⟩ rfl (Nat.le_of_ble_eq_true rfl) ⟨by show _ ≤ (601024 : Nat); omega, by show _ ≤ (7293034 : Nat); omega⟩ ?_
      refine am_aload_n cx 2 dL_law_1151 rfl ?_
      refine am_aload_nS cx 0 dL_law_1152 rfl ?_
      refine am_iload cx 4 dL_law_1153 rfl ?_
      refine am_iconst cx (v := (1 : Int32)) dL_law_1155 (by decide) ?_
      refine am_iadd cx dL_law_1156 ?_
      obtain ⟨q289, hres⟩ := am_ck_some hres
      refine am_xld sc dL_law_1157 q289 ?_
      obtain ⟨q290, hres⟩ := am_ck_some hres
      obtain ⟨v291, M292, q293, hres⟩ := am_bd_some hres
      refine am_callV1 cx [.inl (xs (x4 + (1 : Int32)).toNatClampNeg)] dL_law_1158 cvL_137 (mt12_count q293) (am_ke q290) ⟨rfl, rfl, Nat.le_of_ble_eq_true rfl, Nat.le_of_ble_eq_true rfl⟩ rfl (Nat.le_of_ble_eq_true rfl) ⟨by show _ ≤ (601024 : Nat); omega, by show _ ≤ (7293034 : Nat); omega⟩ ?_
      refine am_icmp_eq cx (tgt := 1166) dL_law_1161 (by decide) (fun h => ?_) (fun h => ?_)
      · have hres := am_ifp h hres
        refine am_widen cx (k' := (144 + (513 - (i + 1)) * 49 + 49)) (n' := (13685 + (513 - (i + 1)) * 1169 + 1169)) (by omega) (by omega) ?_
        exact snL_law_b1166 cx sc hst hk23 hib hres
      · have hres := am_ifn h hres
        refine am_iconst cx (v := (0 : Int32)) dL_law_1164 (by decide) ?_
        obtain ⟨rfl, rfl⟩ := am_fin hres
        refine am_widen cx (k' := 601024) (n' := 7293034) (by omega) (by omega) ?_
        exact am_zret cx rfl dL_law_1165
    have hres := am_ifn w283 hres
    refine am_tableOut cx (tgt := 1166) dL_law_40 (am_sw (fun cq h1 h2 => ?_)) (by decide) ?_
    · rcases (show cq = 0 ∨ cq = 1 ∨ cq = 2 ∨ cq = 3 ∨ cq = 4 ∨ cq = 5 ∨ cq = 6 ∨ cq = 7 ∨ cq = 8 ∨ cq = 9 ∨ cq = 10 ∨ cq = 11 ∨ cq = 12 ∨ cq = 13 ∨ cq = 14 ∨ cq = 15 ∨ cq = 16 ∨ cq = 17 ∨ cq = 18 ∨ cq = 19 ∨ cq = 20 ∨ cq = 21 ∨ cq = 22 ∨ cq = 23 ∨ cq = 24 ∨ cq = 25 by omega) with rfl | rfl | rfl | rfl | rfl | rfl | rfl | rfl | rfl | rfl | rfl | rfl | rfl | rfl | rfl | rfl | rfl | rfl | rfl | rfl | rfl | rfl | rfl | rfl | rfl | rfl
      · exact w2
      · exact w21
      · exact w32
      · exact w45
      · exact w65
      · exact w76
      · exact w87
      · exact w98
      · exact w109
      · exact w120
      · exact w131
      · exact w142
      · exact w155
      · exact w168
      · exact w179
      · exact w190
      · exact w210
      · exact w214
      · exact w227
      · exact w231
      · exact w234
      · exact w247
      · exact w260
      · exact w271
      · exact w280
      · exact w283
    skip
    refine am_widen cx (k' := (144 + (513 - (i + 1)) * 49 + 49)) (n' := (13685 + (513 - (i + 1)) * 1169 + 1169)) (by omega) (by omega) ?_
    exact snL_law_b1166 cx sc hst hk23 hib hres
set_option maxRecDepth 20000 in
theorem snL_law_b23 {l : Launch} {G : am_G} {v : Int32} {M' : am_Mem} {N : Nat} {Ls : Nat} {xs : Nat → Int32}  (cx : am_Ctx l rmL_law yL_law cL_law 7 (some .boolean) (some (.inl v)) M' 601024 7293034 G) (sc : am_Scr l rmL_law yL_law cL_law 7 Ls xs G) (hst : l.stackTraces = false)  (i : Nat) : i ≤ 513 → ∀ (r1 : Nat) (r2 : Nat) (r3 : Nat) (x4 : Int32) (M : am_Mem), fnL_law_b23 N Ls xs  i r1 r2 r3 x4 M = some (v, M') → G 23 [(0, .inr (.inr (.inr 7))), (1, .inr (.inr (.inl r1))), (2, .inr (.inr (.inl r2))), (3, .inr (.inr (.inl r3))), (4, .inl x4)] [] M (144 + (513 - i) * 49) (13685 + (513 - i) * 1169) := by
  induction i with
  | zero => intro hi r1 r2 r3 x4 M hres; exact am_no hres
  | succ i ih => intro hi r1 r2 r3 x4 M hres; exact snL_law_b23B cx sc hst (ih (by omega)) hi hres
set_option maxRecDepth 20000 in
theorem snL_law_b0 {l : Launch} {G : am_G} {v : Int32} {M' : am_Mem} {N : Nat} {Ls : Nat} {xs : Nat → Int32}  (cx : am_Ctx l rmL_law yL_law cL_law 7 (some .boolean) (some (.inl v)) M' 601024 7293034 G) (sc : am_Scr l rmL_law yL_law cL_law 7 Ls xs G) (hst : l.stackTraces = false)   {M : am_Mem} (hres : fnL_law_b0 N Ls xs   M = some (v, M')) : G 0 [(0, .inr (.inr (.inr 7)))] [] M 0 0 := by
  unfold fnL_law_b0 at hres
  refine am_newO cx dL_law_0 nwL_8 (Nat.le_of_ble_eq_true rfl) (Nat.le_of_ble_eq_true rfl) ?_
  refine am_dup cx dL_law_3 rfl ?_
  obtain ⟨q1, hres⟩ := am_ck_some hres
  obtain ⟨v2, M3, q4, hres⟩ := am_bd_some hres
  refine am_callI0 cx [] dL_law_4 ciL_18 (mt11_init q4) (by rw [show am_K _ _ = 11 from (am_ke q1)]; decide) ⟨rfl, rfl, Nat.le_of_ble_eq_true rfl, Nat.le_of_ble_eq_true rfl⟩ rfl (Nat.le_of_ble_eq_true rfl) ⟨Nat.le_of_ble_eq_true rfl, Nat.le_of_ble_eq_true rfl⟩ ?_
  refine am_astore_n cx (lv' := [(0, .inr (.inr (.inr 7))), (1, .inr (.inr (.inl (am_n M + 1))))]) dL_law_7 (Nat.le_of_ble_eq_true rfl) rfl ?_
  refine am_newO cx dL_law_8 nwL_19 (Nat.le_of_ble_eq_true rfl) (Nat.le_of_ble_eq_true rfl) ?_
  refine am_dup cx dL_law_11 rfl ?_
  obtain ⟨q5, hres⟩ := am_ck_some hres
  obtain ⟨v6, M7, q8, hres⟩ := am_bd_some hres
  refine am_callI0 cx [] dL_law_12 ciL_21 (mt12_init q8) (by rw [show am_K _ _ = 12 from (am_ke q5)]; decide) ⟨rfl, rfl, Nat.le_of_ble_eq_true rfl, Nat.le_of_ble_eq_true rfl⟩ rfl (Nat.le_of_ble_eq_true rfl) ⟨Nat.le_of_ble_eq_true rfl, Nat.le_of_ble_eq_true rfl⟩ ?_
  refine am_astore_n cx (lv' := [(0, .inr (.inr (.inr 7))), (1, .inr (.inr (.inl (am_n M + 1)))), (2, .inr (.inr (.inl (am_n M3 + 1))))]) dL_law_15 (Nat.le_of_ble_eq_true rfl) rfl ?_
  refine am_iconst cx (v := (1 : Int32)) dL_law_16 (by decide) ?_
  refine am_newJ cx 1 dL_law_17 aw_1_88 (by decide) (Nat.le_of_ble_eq_true rfl) (Nat.le_of_ble_eq_true rfl) (Nat.le_of_ble_eq_true rfl) ?_
  refine am_astore_n cx (lv' := [(0, .inr (.inr (.inr 7))), (1, .inr (.inr (.inl (am_n M + 1)))), (2, .inr (.inr (.inl (am_n M3 + 1)))), (3, .inr (.inr (.inl (am_n M7 + 1))))]) dL_law_19 (Nat.le_of_ble_eq_true rfl) rfl ?_
  refine am_iconst cx (v := (0 : Int32)) dL_law_20 (by decide) ?_
  refine am_istore cx (lv' := [(0, .inr (.inr (.inr 7))), (1, .inr (.inr (.inl (am_n M + 1)))), (2, .inr (.inr (.inl (am_n M3 + 1)))), (3, .inr (.inr (.inl (am_n M7 + 1)))), (4, .inl (0 : Int32))]) dL_law_21 (Nat.le_of_ble_eq_true rfl) rfl ?_
  refine am_widen cx (k' := (144 + (513 - 513) * 49)) (n' := (13685 + (513 - 513) * 1169)) (by omega) (by omega) ?_
  exact snL_law_b23 cx sc hst  513 (Nat.le_refl _) _ _ _ _ _ hres
