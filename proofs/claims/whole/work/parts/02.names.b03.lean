theorem dX11_join_180 : decode cX11_join 180 = .ok (.lstore 17, 2) := by decide +kernel
theorem dX11_join_182 : decode cX11_join 182 = .ok (.lload 15, 2) := by decide +kernel
theorem dX11_join_184 : decode cX11_join 184 = .ok (.lload 17, 2) := by decide +kernel
theorem dX11_join_186 : decode cX11_join 186 = .ok (.invokestatic 269, 3) := by decide +kernel
theorem dX11_join_189 : decode cX11_join 189 = .ok (.ifCond .eq 5, 3) := by decide +kernel
theorem dX11_join_192 : decode cX11_join 192 = .ok (.iconst (-1), 1) := by decide +kernel
theorem dX11_join_193 : decode cX11_join 193 = .ok (.ireturn, 1) := by decide +kernel
theorem dX11_join_194 : decode cX11_join 194 = .ok (.aload_n 0, 1) := by decide +kernel
theorem dX11_join_195 : decode cX11_join 195 = .ok (.getfield 42, 3) := by decide +kernel
theorem dX11_join_198 : decode cX11_join 198 = .ok (.lload 15, 2) := by decide +kernel
theorem dX11_join_200 : decode cX11_join 200 = .ok (.l2i, 1) := by decide +kernel
theorem dX11_join_201 : decode cX11_join 201 = .ok (.lload 17, 2) := by decide +kernel
theorem dX11_join_203 : decode cX11_join 203 = .ok (.l2i, 1) := by decide +kernel
theorem dX11_join_204 : decode cX11_join 204 = .ok (.invokevirtual 273, 3) := by decide +kernel
theorem dX11_join_207 : decode cX11_join 207 = .ok (.aload_n 0, 1) := by decide +kernel
theorem dX11_join_208 : decode cX11_join 208 = .ok (.getfield 42, 3) := by decide +kernel
theorem dX11_join_211 : decode cX11_join 211 = .ok (.aload 4, 2) := by decide +kernel
theorem dX11_join_213 : decode cX11_join 213 = .ok (.iload 9, 2) := by decide +kernel
theorem dX11_join_215 : decode cX11_join 215 = .ok (.iconst 0, 1) := by decide +kernel
theorem dX11_join_216 : decode cX11_join 216 = .ok (.iconst 0, 1) := by decide +kernel
theorem dX11_join_217 : decode cX11_join 217 = .ok (.invokevirtual 277, 3) := by decide +kernel
theorem dX11_join_220 : decode cX11_join 220 = .ok (.aload_n 0, 1) := by decide +kernel
theorem dX11_join_221 : decode cX11_join 221 = .ok (.getfield 42, 3) := by decide +kernel
theorem dX11_join_224 : decode cX11_join 224 = .ok (.aload 5, 2) := by decide +kernel
theorem dX11_join_226 : decode cX11_join 226 = .ok (.iload 10, 2) := by decide +kernel
theorem dX11_join_228 : decode cX11_join 228 = .ok (.iload_n 3, 1) := by decide +kernel
theorem dX11_join_229 : decode cX11_join 229 = .ok (.ifCond .eq 7, 3) := by decide +kernel
theorem dX11_join_232 : decode cX11_join 232 = .ok (.iconst 0, 1) := by decide +kernel
theorem dX11_join_233 : decode cX11_join 233 = .ok (.goto 6, 3) := by decide +kernel
theorem dX11_join_236 : decode cX11_join 236 = .ok (.lload 11, 2) := by decide +kernel
theorem dX11_join_238 : decode cX11_join 238 = .ok (.l2i, 1) := by decide +kernel
theorem dX11_join_239 : decode cX11_join 239 = .ok (.iload_n 3, 1) := by decide +kernel
theorem dX11_join_240 : decode cX11_join 240 = .ok (.ifCond .eq 9, 3) := by decide +kernel
theorem dX11_join_243 : decode cX11_join 243 = .ok (.lload 13, 2) := by decide +kernel
theorem dX11_join_245 : decode cX11_join 245 = .ok (.l2i, 1) := by decide +kernel
theorem dX11_join_246 : decode cX11_join 246 = .ok (.goto 4, 3) := by decide +kernel
theorem dX11_join_249 : decode cX11_join 249 = .ok (.iconst 0, 1) := by decide +kernel
theorem dX11_join_250 : decode cX11_join 250 = .ok (.invokevirtual 277, 3) := by decide +kernel
theorem dX11_join_253 : decode cX11_join 253 = .ok (.aload_n 0, 1) := by decide +kernel
theorem dX11_join_254 : decode cX11_join 254 = .ok (.invokevirtual 281, 3) := by decide +kernel
theorem dX11_join_257 : decode cX11_join 257 = .ok (.ireturn, 1) := by decide +kernel
theorem dX11_grow_0 : decode cX11_grow 0 = .ok (.aload_n 0, 1) := by decide +kernel
theorem dX11_grow_1 : decode cX11_grow 1 = .ok (.iload_n 1, 1) := by decide +kernel
theorem dX11_grow_2 : decode cX11_grow 2 = .ok (.invokevirtual 263, 3) := by decide +kernel
theorem dX11_grow_5 : decode cX11_grow 5 = .ok (.astore_n 3, 1) := by decide +kernel
theorem dX11_grow_6 : decode cX11_grow 6 = .ok (.aload_n 3, 1) := by decide +kernel
theorem dX11_grow_7 : decode cX11_grow 7 = .ok (.ifnull 14, 3) := by decide +kernel
theorem dX11_grow_10 : decode cX11_grow 10 = .ok (.aload_n 3, 1) := by decide +kernel
theorem dX11_grow_11 : decode cX11_grow 11 = .ok (.getfield 127, 3) := by decide +kernel
theorem dX11_grow_14 : decode cX11_grow 14 = .ok (.iconst 1, 1) := by decide +kernel
theorem dX11_grow_15 : decode cX11_grow 15 = .ok (.iadd, 1) := by decide +kernel
theorem dX11_grow_16 : decode cX11_grow 16 = .ok (.bipush 40, 2) := by decide +kernel
theorem dX11_grow_18 : decode cX11_grow 18 = .ok (.if_icmp .le 5, 3) := by decide +kernel
theorem dX11_grow_21 : decode cX11_grow 21 = .ok (.iconst (-1), 1) := by decide +kernel
theorem dX11_grow_22 : decode cX11_grow 22 = .ok (.ireturn, 1) := by decide +kernel
theorem dX11_grow_23 : decode cX11_grow 23 = .ok (.aload_n 3, 1) := by decide +kernel
theorem dX11_grow_24 : decode cX11_grow 24 = .ok (.getfield 130, 3) := by decide +kernel
theorem dX11_grow_27 : decode cX11_grow 27 = .ok (.i2l, 1) := by decide +kernel
theorem dX11_grow_28 : decode cX11_grow 28 = .ok (.aload_n 3, 1) := by decide +kernel
theorem dX11_grow_29 : decode cX11_grow 29 = .ok (.getfield 133, 3) := by decide +kernel
theorem dX11_grow_32 : decode cX11_grow 32 = .ok (.i2l, 1) := by decide +kernel
theorem dX11_grow_33 : decode cX11_grow 33 = .ok (.ladd, 1) := by decide +kernel
theorem dX11_grow_34 : decode cX11_grow 34 = .ok (.lstore 4, 2) := by decide +kernel
theorem dX11_grow_36 : decode cX11_grow 36 = .ok (.iload_n 2, 1) := by decide +kernel
theorem dX11_grow_37 : decode cX11_grow 37 = .ok (.ifCond .eq 11, 3) := by decide +kernel
theorem dX11_grow_40 : decode cX11_grow 40 = .ok (.aload_n 3, 1) := by decide +kernel
theorem dX11_grow_41 : decode cX11_grow 41 = .ok (.getfield 130, 3) := by decide +kernel
theorem dX11_grow_44 : decode cX11_grow 44 = .ok (.i2l, 1) := by decide +kernel
theorem dX11_grow_45 : decode cX11_grow 45 = .ok (.goto 5, 3) := by decide +kernel
theorem dX11_grow_48 : decode cX11_grow 48 = .ok (.lload 4, 2) := by decide +kernel
theorem dX11_grow_50 : decode cX11_grow 50 = .ok (.lstore 6, 2) := by decide +kernel
theorem dX11_grow_52 : decode cX11_grow 52 = .ok (.iload_n 2, 1) := by decide +kernel
theorem dX11_grow_53 : decode cX11_grow 53 = .ok (.ifCond .eq 8, 3) := by decide +kernel
theorem dX11_grow_56 : decode cX11_grow 56 = .ok (.lload 4, 2) := by decide +kernel
theorem dX11_grow_58 : decode cX11_grow 58 = .ok (.goto 8, 3) := by decide +kernel
theorem dX11_grow_61 : decode cX11_grow 61 = .ok (.aload_n 3, 1) := by decide +kernel
theorem dX11_grow_62 : decode cX11_grow 62 = .ok (.getfield 133, 3) := by decide +kernel
theorem dX11_grow_65 : decode cX11_grow 65 = .ok (.i2l, 1) := by decide +kernel
theorem dX11_grow_66 : decode cX11_grow 66 = .ok (.lstore 8, 2) := by decide +kernel
theorem dX11_grow_68 : decode cX11_grow 68 = .ok (.lload 6, 2) := by decide +kernel
theorem dX11_grow_70 : decode cX11_grow 70 = .ok (.lload 8, 2) := by decide +kernel
theorem dX11_grow_72 : decode cX11_grow 72 = .ok (.invokestatic 269, 3) := by decide +kernel
theorem dX11_grow_75 : decode cX11_grow 75 = .ok (.ifCond .eq 5, 3) := by decide +kernel
theorem dX11_grow_78 : decode cX11_grow 78 = .ok (.iconst (-1), 1) := by decide +kernel
theorem dX11_grow_79 : decode cX11_grow 79 = .ok (.ireturn, 1) := by decide +kernel
theorem dX11_grow_80 : decode cX11_grow 80 = .ok (.aload_n 0, 1) := by decide +kernel
theorem dX11_grow_81 : decode cX11_grow 81 = .ok (.getfield 42, 3) := by decide +kernel
theorem dX11_grow_84 : decode cX11_grow 84 = .ok (.lload 6, 2) := by decide +kernel
theorem dX11_grow_86 : decode cX11_grow 86 = .ok (.l2i, 1) := by decide +kernel
theorem dX11_grow_87 : decode cX11_grow 87 = .ok (.lload 8, 2) := by decide +kernel
theorem dX11_grow_89 : decode cX11_grow 89 = .ok (.l2i, 1) := by decide +kernel
theorem dX11_grow_90 : decode cX11_grow 90 = .ok (.invokevirtual 273, 3) := by decide +kernel
theorem dX11_grow_93 : decode cX11_grow 93 = .ok (.aload_n 0, 1) := by decide +kernel
theorem dX11_grow_94 : decode cX11_grow 94 = .ok (.getfield 42, 3) := by decide +kernel
theorem dX11_grow_97 : decode cX11_grow 97 = .ok (.aload_n 3, 1) := by decide +kernel
theorem dX11_grow_98 : decode cX11_grow 98 = .ok (.iconst 1, 1) := by decide +kernel
theorem dX11_grow_99 : decode cX11_grow 99 = .ok (.iconst 0, 1) := by decide +kernel
theorem dX11_grow_100 : decode cX11_grow 100 = .ok (.iconst 0, 1) := by decide +kernel
theorem dX11_grow_101 : decode cX11_grow 101 = .ok (.invokevirtual 277, 3) := by decide +kernel
theorem dX11_grow_104 : decode cX11_grow 104 = .ok (.iload_n 2, 1) := by decide +kernel
theorem dX11_grow_105 : decode cX11_grow 105 = .ok (.ifCond .eq 22, 3) := by decide +kernel
theorem dX11_grow_108 : decode cX11_grow 108 = .ok (.aload_n 0, 1) := by decide +kernel
theorem dX11_grow_109 : decode cX11_grow 109 = .ok (.getfield 42, 3) := by decide +kernel
theorem dX11_grow_112 : decode cX11_grow 112 = .ok (.iconst 0, 1) := by decide +kernel
theorem dX11_grow_113 : decode cX11_grow 113 = .ok (.aload_n 3, 1) := by decide +kernel
theorem dX11_grow_114 : decode cX11_grow 114 = .ok (.getfield 133, 3) := by decide +kernel
theorem dX11_grow_117 : decode cX11_grow 117 = .ok (.aload_n 3, 1) := by decide +kernel
theorem dX11_grow_118 : decode cX11_grow 118 = .ok (.getfield 130, 3) := by decide +kernel
theorem dX11_grow_121 : decode cX11_grow 121 = .ok (.invokevirtual 284, 3) := by decide +kernel
theorem dX11_grow_124 : decode cX11_grow 124 = .ok (.goto 19, 3) := by decide +kernel
theorem dX11_grow_127 : decode cX11_grow 127 = .ok (.aload_n 0, 1) := by decide +kernel
theorem dX11_grow_128 : decode cX11_grow 128 = .ok (.getfield 42, 3) := by decide +kernel
theorem dX11_grow_131 : decode cX11_grow 131 = .ok (.aload_n 3, 1) := by decide +kernel
theorem dX11_grow_132 : decode cX11_grow 132 = .ok (.getfield 130, 3) := by decide +kernel
theorem dX11_grow_135 : decode cX11_grow 135 = .ok (.iconst 0, 1) := by decide +kernel
theorem dX11_grow_136 : decode cX11_grow 136 = .ok (.aload_n 3, 1) := by decide +kernel
theorem dX11_grow_137 : decode cX11_grow 137 = .ok (.getfield 133, 3) := by decide +kernel
theorem dX11_grow_140 : decode cX11_grow 140 = .ok (.invokevirtual 284, 3) := by decide +kernel
theorem dX11_grow_143 : decode cX11_grow 143 = .ok (.aload_n 0, 1) := by decide +kernel
theorem dX11_grow_144 : decode cX11_grow 144 = .ok (.invokevirtual 281, 3) := by decide +kernel
theorem dX11_grow_147 : decode cX11_grow 147 = .ok (.ireturn, 1) := by decide +kernel
theorem dX11_turn_0 : decode cX11_turn 0 = .ok (.aload_n 0, 1) := by decide +kernel
theorem dX11_turn_1 : decode cX11_turn 1 = .ok (.iload_n 1, 1) := by decide +kernel
theorem dX11_turn_2 : decode cX11_turn 2 = .ok (.invokevirtual 263, 3) := by decide +kernel
theorem dX11_turn_5 : decode cX11_turn 5 = .ok (.astore_n 3, 1) := by decide +kernel
theorem dX11_turn_6 : decode cX11_turn 6 = .ok (.aload_n 3, 1) := by decide +kernel
theorem dX11_turn_7 : decode cX11_turn 7 = .ok (.ifnull 13, 3) := by decide +kernel
theorem dX11_turn_10 : decode cX11_turn 10 = .ok (.iload_n 2, 1) := by decide +kernel
theorem dX11_turn_11 : decode cX11_turn 11 = .ok (.ifCond .lt 9, 3) := by decide +kernel
theorem dX11_turn_14 : decode cX11_turn 14 = .ok (.iload_n 2, 1) := by decide +kernel
theorem dX11_turn_15 : decode cX11_turn 15 = .ok (.bipush 8, 2) := by decide +kernel
theorem dX11_turn_17 : decode cX11_turn 17 = .ok (.if_icmp .lt 5, 3) := by decide +kernel
theorem dX11_turn_20 : decode cX11_turn 20 = .ok (.iconst (-1), 1) := by decide +kernel
theorem dX11_turn_21 : decode cX11_turn 21 = .ok (.ireturn, 1) := by decide +kernel
theorem dX11_turn_22 : decode cX11_turn 22 = .ok (.aload_n 0, 1) := by decide +kernel
theorem dX11_turn_23 : decode cX11_turn 23 = .ok (.getfield 42, 3) := by decide +kernel
theorem dX11_turn_26 : decode cX11_turn 26 = .ok (.aload_n 3, 1) := by decide +kernel
theorem dX11_turn_27 : decode cX11_turn 27 = .ok (.iload_n 2, 1) := by decide +kernel
theorem dX11_turn_28 : decode cX11_turn 28 = .ok (.iconst 1, 1) := by decide +kernel
theorem dX11_turn_29 : decode cX11_turn 29 = .ok (.invokevirtual 255, 3) := by decide +kernel
theorem dX11_turn_32 : decode cX11_turn 32 = .ok (.aload_n 0, 1) := by decide +kernel
theorem dX11_turn_33 : decode cX11_turn 33 = .ok (.invokevirtual 281, 3) := by decide +kernel
theorem dX11_turn_36 : decode cX11_turn 36 = .ok (.ireturn, 1) := by decide +kernel
theorem dX11_times_0 : decode cX11_times 0 = .ok (.aload_n 0, 1) := by decide +kernel
theorem dX11_times_1 : decode cX11_times 1 = .ok (.iload_n 1, 1) := by decide +kernel
theorem dX11_times_2 : decode cX11_times 2 = .ok (.invokevirtual 263, 3) := by decide +kernel
theorem dX11_times_5 : decode cX11_times 5 = .ok (.astore_n 3, 1) := by decide +kernel
theorem dX11_times_6 : decode cX11_times 6 = .ok (.aload_n 3, 1) := by decide +kernel
theorem dX11_times_7 : decode cX11_times 7 = .ok (.ifnull 15, 3) := by decide +kernel
theorem dX11_times_10 : decode cX11_times 10 = .ok (.iload_n 2, 1) := by decide +kernel
theorem dX11_times_11 : decode cX11_times 11 = .ok (.iconst 1, 1) := by decide +kernel
theorem dX11_times_12 : decode cX11_times 12 = .ok (.if_icmp .lt 10, 3) := by decide +kernel
theorem dX11_times_15 : decode cX11_times 15 = .ok (.iload_n 2, 1) := by decide +kernel
theorem dX11_times_16 : decode cX11_times 16 = .ok (.sipush 9999, 3) := by decide +kernel
theorem dX11_times_19 : decode cX11_times 19 = .ok (.if_icmp .le 5, 3) := by decide +kernel
theorem dX11_times_22 : decode cX11_times 22 = .ok (.iconst (-1), 1) := by decide +kernel
theorem dX11_times_23 : decode cX11_times 23 = .ok (.ireturn, 1) := by decide +kernel
theorem dX11_times_24 : decode cX11_times 24 = .ok (.aload_n 3, 1) := by decide +kernel
theorem dX11_times_25 : decode cX11_times 25 = .ok (.getfield 130, 3) := by decide +kernel
theorem dX11_times_28 : decode cX11_times 28 = .ok (.i2l, 1) := by decide +kernel
theorem dX11_times_29 : decode cX11_times 29 = .ok (.iload_n 2, 1) := by decide +kernel
theorem dX11_times_30 : decode cX11_times 30 = .ok (.i2l, 1) := by decide +kernel
theorem dX11_times_31 : decode cX11_times 31 = .ok (.lmul, 1) := by decide +kernel
theorem dX11_times_32 : decode cX11_times 32 = .ok (.lstore 4, 2) := by decide +kernel
theorem dX11_times_34 : decode cX11_times 34 = .ok (.aload_n 3, 1) := by decide +kernel
theorem dX11_times_35 : decode cX11_times 35 = .ok (.getfield 133, 3) := by decide +kernel
theorem dX11_times_38 : decode cX11_times 38 = .ok (.i2l, 1) := by decide +kernel
theorem dX11_times_39 : decode cX11_times 39 = .ok (.iload_n 2, 1) := by decide +kernel
theorem dX11_times_40 : decode cX11_times 40 = .ok (.i2l, 1) := by decide +kernel
theorem dX11_times_41 : decode cX11_times 41 = .ok (.lmul, 1) := by decide +kernel
theorem dX11_times_42 : decode cX11_times 42 = .ok (.lstore 6, 2) := by decide +kernel
theorem dX11_times_44 : decode cX11_times 44 = .ok (.lload 4, 2) := by decide +kernel
theorem dX11_times_46 : decode cX11_times 46 = .ok (.lload 6, 2) := by decide +kernel
theorem dX11_times_48 : decode cX11_times 48 = .ok (.invokestatic 269, 3) := by decide +kernel
theorem dX11_times_51 : decode cX11_times 51 = .ok (.ifCond .eq 5, 3) := by decide +kernel
theorem dX11_times_54 : decode cX11_times 54 = .ok (.iconst (-1), 1) := by decide +kernel
theorem dX11_times_55 : decode cX11_times 55 = .ok (.ireturn, 1) := by decide +kernel
theorem dX11_times_56 : decode cX11_times 56 = .ok (.aload_n 0, 1) := by decide +kernel
theorem dX11_times_57 : decode cX11_times 57 = .ok (.getfield 42, 3) := by decide +kernel
theorem dX11_times_60 : decode cX11_times 60 = .ok (.lload 4, 2) := by decide +kernel
theorem dX11_times_62 : decode cX11_times 62 = .ok (.l2i, 1) := by decide +kernel
theorem dX11_times_63 : decode cX11_times 63 = .ok (.lload 6, 2) := by decide +kernel
theorem dX11_times_65 : decode cX11_times 65 = .ok (.l2i, 1) := by decide +kernel
theorem dX11_times_66 : decode cX11_times 66 = .ok (.invokevirtual 273, 3) := by decide +kernel
theorem dX11_times_69 : decode cX11_times 69 = .ok (.aload_n 0, 1) := by decide +kernel
theorem dX11_times_70 : decode cX11_times 70 = .ok (.getfield 42, 3) := by decide +kernel
theorem dX11_times_73 : decode cX11_times 73 = .ok (.aload_n 3, 1) := by decide +kernel
theorem dX11_times_74 : decode cX11_times 74 = .ok (.iload_n 2, 1) := by decide +kernel
theorem dX11_times_75 : decode cX11_times 75 = .ok (.iconst 0, 1) := by decide +kernel
theorem dX11_times_76 : decode cX11_times 76 = .ok (.iconst 0, 1) := by decide +kernel
theorem dX11_times_77 : decode cX11_times 77 = .ok (.invokevirtual 277, 3) := by decide +kernel
theorem dX11_times_80 : decode cX11_times 80 = .ok (.aload_n 0, 1) := by decide +kernel
theorem dX11_times_81 : decode cX11_times 81 = .ok (.invokevirtual 281, 3) := by decide +kernel
theorem dX11_times_84 : decode cX11_times 84 = .ok (.ireturn, 1) := by decide +kernel
theorem dX11_lessen_0 : decode cX11_lessen 0 = .ok (.aload_n 0, 1) := by decide +kernel
theorem dX11_lessen_1 : decode cX11_lessen 1 = .ok (.iload_n 1, 1) := by decide +kernel
theorem dX11_lessen_2 : decode cX11_lessen 2 = .ok (.invokevirtual 263, 3) := by decide +kernel
theorem dX11_lessen_5 : decode cX11_lessen 5 = .ok (.astore_n 2, 1) := by decide +kernel
theorem dX11_lessen_6 : decode cX11_lessen 6 = .ok (.aload_n 2, 1) := by decide +kernel
theorem dX11_lessen_7 : decode cX11_lessen 7 = .ok (.ifnonnull 5, 3) := by decide +kernel
theorem dX11_lessen_10 : decode cX11_lessen 10 = .ok (.iconst (-1), 1) := by decide +kernel
theorem dX11_lessen_11 : decode cX11_lessen 11 = .ok (.ireturn, 1) := by decide +kernel
theorem dX11_lessen_12 : decode cX11_lessen 12 = .ok (.aload_n 0, 1) := by decide +kernel
theorem dX11_lessen_13 : decode cX11_lessen 13 = .ok (.getfield 42, 3) := by decide +kernel
theorem dX11_lessen_16 : decode cX11_lessen 16 = .ok (.aload_n 2, 1) := by decide +kernel
theorem dX11_lessen_17 : decode cX11_lessen 17 = .ok (.iconst 0, 1) := by decide +kernel
theorem dX11_lessen_18 : decode cX11_lessen 18 = .ok (.aload_n 2, 1) := by decide +kernel
theorem dX11_lessen_19 : decode cX11_lessen 19 = .ok (.invokevirtual 252, 3) := by decide +kernel
theorem dX11_lessen_22 : decode cX11_lessen 22 = .ok (.invokevirtual 255, 3) := by decide +kernel
theorem dX11_lessen_25 : decode cX11_lessen 25 = .ok (.aload_n 0, 1) := by decide +kernel
theorem dX11_lessen_26 : decode cX11_lessen 26 = .ok (.invokevirtual 281, 3) := by decide +kernel
theorem dX11_lessen_29 : decode cX11_lessen 29 = .ok (.ireturn, 1) := by decide +kernel
theorem dX11_undo_0 : decode cX11_undo 0 = .ok (.aload_n 0, 1) := by decide +kernel
theorem dX11_undo_1 : decode cX11_undo 1 = .ok (.getfield 91, 3) := by decide +kernel
theorem dX11_undo_4 : decode cX11_undo 4 = .ok (.ifCond .ne 5, 3) := by decide +kernel
theorem dX11_undo_7 : decode cX11_undo 7 = .ok (.iconst (-1), 1) := by decide +kernel
theorem dX11_undo_8 : decode cX11_undo 8 = .ok (.ireturn, 1) := by decide +kernel
theorem dX11_undo_9 : decode cX11_undo 9 = .ok (.aload_n 0, 1) := by decide +kernel
theorem dX11_undo_10 : decode cX11_undo 10 = .ok (.getfield 66, 3) := by decide +kernel
theorem dX11_undo_13 : decode cX11_undo 13 = .ok (.invokevirtual 288, 3) := by decide +kernel
theorem dX11_undo_16 : decode cX11_undo 16 = .ok (.aload_n 0, 1) := by decide +kernel
theorem dX11_undo_17 : decode cX11_undo 17 = .ok (.dup, 1) := by decide +kernel
theorem dX11_undo_18 : decode cX11_undo 18 = .ok (.getfield 91, 3) := by decide +kernel
theorem dX11_undo_21 : decode cX11_undo 21 = .ok (.iconst 1, 1) := by decide +kernel
theorem dX11_undo_22 : decode cX11_undo 22 = .ok (.isub, 1) := by decide +kernel
theorem dX11_undo_23 : decode cX11_undo 23 = .ok (.putfield 91, 3) := by decide +kernel
theorem dX11_undo_26 : decode cX11_undo 26 = .ok (.aload_n 0, 1) := by decide +kernel
theorem dX11_undo_27 : decode cX11_undo 27 = .ok (.getfield 91, 3) := by decide +kernel
theorem dX11_undo_30 : decode cX11_undo 30 = .ok (.ireturn, 1) := by decide +kernel
theorem dX11_keep_0 : decode cX11_keep 0 = .ok (.iload_n 1, 1) := by decide +kernel
theorem dX11_keep_1 : decode cX11_keep 1 = .ok (.ifCond .ne 10, 3) := by decide +kernel
theorem dX11_keep_4 : decode cX11_keep 4 = .ok (.aload_n 0, 1) := by decide +kernel
theorem dX11_keep_5 : decode cX11_keep 5 = .ok (.getfield 70, 3) := by decide +kernel
theorem dX11_keep_8 : decode cX11_keep 8 = .ok (.goto 16, 3) := by decide +kernel
theorem dX11_keep_11 : decode cX11_keep 11 = .ok (.iload_n 1, 1) := by decide +kernel
theorem dX11_keep_12 : decode cX11_keep 12 = .ok (.iconst 1, 1) := by decide +kernel
theorem dX11_keep_13 : decode cX11_keep 13 = .ok (.if_icmp .ne 10, 3) := by decide +kernel
theorem dX11_keep_16 : decode cX11_keep 16 = .ok (.aload_n 0, 1) := by decide +kernel
theorem dX11_keep_17 : decode cX11_keep 17 = .ok (.getfield 73, 3) := by decide +kernel
theorem dX11_keep_20 : decode cX11_keep 20 = .ok (.goto 4, 3) := by decide +kernel
theorem dX11_keep_23 : decode cX11_keep 23 = .ok (.aconst_null, 1) := by decide +kernel
theorem dX11_keep_24 : decode cX11_keep 24 = .ok (.astore_n 3, 1) := by decide +kernel
theorem dX11_keep_25 : decode cX11_keep 25 = .ok (.aload_n 3, 1) := by decide +kernel
theorem dX11_keep_26 : decode cX11_keep 26 = .ok (.ifnull 14, 3) := by decide +kernel
theorem dX11_keep_29 : decode cX11_keep 29 = .ok (.iload_n 2, 1) := by decide +kernel
theorem dX11_keep_30 : decode cX11_keep 30 = .ok (.ifCond .eq 12, 3) := by decide +kernel
theorem dX11_keep_33 : decode cX11_keep 33 = .ok (.aload_n 3, 1) := by decide +kernel
theorem dX11_keep_34 : decode cX11_keep 34 = .ok (.getfield 291, 3) := by decide +kernel
theorem dX11_keep_37 : decode cX11_keep 37 = .ok (.ifCond .ne 5, 3) := by decide +kernel
theorem dX11_keep_40 : decode cX11_keep 40 = .ok (.iconst 0, 1) := by decide +kernel
theorem dX11_keep_41 : decode cX11_keep 41 = .ok (.ireturn, 1) := by decide +kernel
theorem dX11_keep_42 : decode cX11_keep 42 = .ok (.iload_n 2, 1) := by decide +kernel
theorem dX11_keep_43 : decode cX11_keep 43 = .ok (.ifCond .eq 19, 3) := by decide +kernel
theorem dX11_keep_46 : decode cX11_keep 46 = .ok (.aload_n 0, 1) := by decide +kernel
theorem dX11_keep_47 : decode cX11_keep 47 = .ok (.getfield 66, 3) := by decide +kernel
theorem dX11_keep_50 : decode cX11_keep 50 = .ok (.aload_n 3, 1) := by decide +kernel
theorem dX11_keep_51 : decode cX11_keep 51 = .ok (.invokevirtual 294, 3) := by decide +kernel
theorem dX11_keep_54 : decode cX11_keep 54 = .ok (.aload_n 0, 1) := by decide +kernel
theorem dX11_keep_55 : decode cX11_keep 55 = .ok (.iconst 0, 1) := by decide +kernel
theorem dX11_keep_56 : decode cX11_keep 56 = .ok (.putfield 91, 3) := by decide +kernel
theorem dX11_keep_59 : decode cX11_keep 59 = .ok (.goto 11, 3) := by decide +kernel
theorem dX11_keep_62 : decode cX11_keep 62 = .ok (.aload_n 3, 1) := by decide +kernel
theorem dX11_keep_63 : decode cX11_keep 63 = .ok (.aload_n 0, 1) := by decide +kernel
theorem dX11_keep_64 : decode cX11_keep 64 = .ok (.getfield 66, 3) := by decide +kernel
theorem dX11_keep_67 : decode cX11_keep 67 = .ok (.invokevirtual 294, 3) := by decide +kernel
theorem dX11_keep_70 : decode cX11_keep 70 = .ok (.iconst 1, 1) := by decide +kernel
theorem dX11_keep_71 : decode cX11_keep 71 = .ok (.ireturn, 1) := by decide +kernel
theorem dX11_count_0 : decode cX11_count 0 = .ok (.iload_n 1, 1) := by decide +kernel
theorem dX11_count_1 : decode cX11_count 1 = .ok (.tableswitch 84 0 5 #[39, 47, 55, 63, 68, 76], 39) := by decide +kernel
theorem dX11_count_40 : decode cX11_count 40 = .ok (.aload_n 0, 1) := by decide +kernel
theorem dX11_count_41 : decode cX11_count 41 = .ok (.getfield 66, 3) := by decide +kernel
theorem dX11_count_44 : decode cX11_count 44 = .ok (.getfield 112, 3) := by decide +kernel
theorem dX11_count_47 : decode cX11_count 47 = .ok (.ireturn, 1) := by decide +kernel
theorem dX11_count_48 : decode cX11_count 48 = .ok (.aload_n 0, 1) := by decide +kernel
theorem dX11_count_49 : decode cX11_count 49 = .ok (.getfield 66, 3) := by decide +kernel
theorem dX11_count_52 : decode cX11_count 52 = .ok (.invokevirtual 298, 3) := by decide +kernel
theorem dX11_count_55 : decode cX11_count 55 = .ok (.ireturn, 1) := by decide +kernel
theorem dX11_count_56 : decode cX11_count 56 = .ok (.aload_n 0, 1) := by decide +kernel
theorem dX11_count_57 : decode cX11_count 57 = .ok (.getfield 66, 3) := by decide +kernel
theorem dX11_count_60 : decode cX11_count 60 = .ok (.invokevirtual 301, 3) := by decide +kernel
theorem dX11_count_63 : decode cX11_count 63 = .ok (.ireturn, 1) := by decide +kernel
theorem dX11_count_64 : decode cX11_count 64 = .ok (.aload_n 0, 1) := by decide +kernel
theorem dX11_count_65 : decode cX11_count 65 = .ok (.getfield 91, 3) := by decide +kernel
theorem dX11_count_68 : decode cX11_count 68 = .ok (.ireturn, 1) := by decide +kernel
theorem dX11_count_69 : decode cX11_count 69 = .ok (.aload_n 0, 1) := by decide +kernel
theorem dX11_count_70 : decode cX11_count 70 = .ok (.getfield 12, 3) := by decide +kernel
theorem dX11_count_73 : decode cX11_count 73 = .ok (.getfield 76, 3) := by decide +kernel
theorem dX11_count_76 : decode cX11_count 76 = .ok (.ireturn, 1) := by decide +kernel
theorem dX11_count_77 : decode cX11_count 77 = .ok (.aload_n 0, 1) := by decide +kernel
theorem dX11_count_78 : decode cX11_count 78 = .ok (.getfield 59, 3) := by decide +kernel
theorem dX11_count_81 : decode cX11_count 81 = .ok (.getfield 179, 3) := by decide +kernel
theorem dX11_count_84 : decode cX11_count 84 = .ok (.ireturn, 1) := by decide +kernel
theorem dX11_count_85 : decode cX11_count 85 = .ok (.iconst (-1), 1) := by decide +kernel
theorem dX11_count_86 : decode cX11_count 86 = .ok (.ireturn, 1) := by decide +kernel
theorem dX11_drawnTiling_0 : decode cX11_drawnTiling 0 = .ok (.aload_n 0, 1) := by decide +kernel
theorem dX11_drawnTiling_1 : decode cX11_drawnTiling 1 = .ok (.getfield 21, 3) := by decide +kernel
theorem dX11_drawnTiling_4 : decode cX11_drawnTiling 4 = .ok (.aload_n 0, 1) := by decide +kernel
theorem dX11_drawnTiling_5 : decode cX11_drawnTiling 5 = .ok (.getfield 12, 3) := by decide +kernel
theorem dX11_drawnTiling_8 : decode cX11_drawnTiling 8 = .ok (.getfield 304, 3) := by decide +kernel
theorem dX11_drawnTiling_11 : decode cX11_drawnTiling 11 = .ok (.iload_n 1, 1) := by decide +kernel
theorem dX11_drawnTiling_12 : decode cX11_drawnTiling 12 = .ok (.aaload, 1) := by decide +kernel
theorem dX11_drawnTiling_13 : decode cX11_drawnTiling 13 = .ok (.aload_n 0, 1) := by decide +kernel
theorem dX11_drawnTiling_14 : decode cX11_drawnTiling 14 = .ok (.getfield 12, 3) := by decide +kernel
theorem dX11_drawnTiling_17 : decode cX11_drawnTiling 17 = .ok (.getfield 308, 3) := by decide +kernel
theorem dX11_drawnTiling_20 : decode cX11_drawnTiling 20 = .ok (.iload_n 1, 1) := by decide +kernel
theorem dX11_drawnTiling_21 : decode cX11_drawnTiling 21 = .ok (.aaload, 1) := by decide +kernel
theorem dX11_drawnTiling_22 : decode cX11_drawnTiling 22 = .ok (.aload_n 0, 1) := by decide +kernel
theorem dX11_drawnTiling_23 : decode cX11_drawnTiling 23 = .ok (.getfield 12, 3) := by decide +kernel
theorem dX11_drawnTiling_26 : decode cX11_drawnTiling 26 = .ok (.getfield 311, 3) := by decide +kernel
theorem dX11_drawnTiling_29 : decode cX11_drawnTiling 29 = .ok (.iload_n 1, 1) := by decide +kernel
theorem dX11_drawnTiling_30 : decode cX11_drawnTiling 30 = .ok (.iaload, 1) := by decide +kernel
theorem dX11_drawnTiling_31 : decode cX11_drawnTiling 31 = .ok (.aload_n 0, 1) := by decide +kernel
theorem dX11_drawnTiling_32 : decode cX11_drawnTiling 32 = .ok (.getfield 42, 3) := by decide +kernel
theorem dX11_drawnTiling_35 : decode cX11_drawnTiling 35 = .ok (.invokevirtual 314, 3) := by decide +kernel
theorem dX11_drawnTiling_38 : decode cX11_drawnTiling 38 = .ok (.istore_n 2, 1) := by decide +kernel
theorem dX11_drawnTiling_39 : decode cX11_drawnTiling 39 = .ok (.new 119, 3) := by decide +kernel
theorem dX11_drawnTiling_42 : decode cX11_drawnTiling 42 = .ok (.dup, 1) := by decide +kernel
theorem dX11_drawnTiling_43 : decode cX11_drawnTiling 43 = .ok (.iconst 0, 1) := by decide +kernel
theorem dX11_drawnTiling_44 : decode cX11_drawnTiling 44 = .ok (.iload_n 2, 1) := by decide +kernel
theorem dX11_drawnTiling_45 : decode cX11_drawnTiling 45 = .ok (.ifCond .eq 10, 3) := by decide +kernel
theorem dX11_drawnTiling_48 : decode cX11_drawnTiling 48 = .ok (.aload_n 0, 1) := by decide +kernel
theorem dX11_drawnTiling_49 : decode cX11_drawnTiling 49 = .ok (.getfield 42, 3) := by decide +kernel
theorem dX11_drawnTiling_52 : decode cX11_drawnTiling 52 = .ok (.goto 4, 3) := by decide +kernel
theorem dX11_drawnTiling_55 : decode cX11_drawnTiling 55 = .ok (.aconst_null, 1) := by decide +kernel
theorem dX11_drawnTiling_56 : decode cX11_drawnTiling 56 = .ok (.aload_n 0, 1) := by decide +kernel
theorem dX11_drawnTiling_57 : decode cX11_drawnTiling 57 = .ok (.getfield 21, 3) := by decide +kernel
theorem dX11_drawnTiling_60 : decode cX11_drawnTiling 60 = .ok (.getfield 318, 3) := by decide +kernel
theorem dX11_drawnTiling_63 : decode cX11_drawnTiling 63 = .ok (.aconst_null, 1) := by decide +kernel
theorem dX11_drawnTiling_64 : decode cX11_drawnTiling 64 = .ok (.invokespecial 321, 3) := by decide +kernel
theorem dX11_drawnTiling_67 : decode cX11_drawnTiling 67 = .ok (.areturn, 1) := by decide +kernel
theorem dX11_netTiling_0 : decode cX11_netTiling 0 = .ok (.aload_n 0, 1) := by decide +kernel
theorem dX11_netTiling_1 : decode cX11_netTiling 1 = .ok (.getfield 28, 3) := by decide +kernel
theorem dX11_netTiling_4 : decode cX11_netTiling 4 = .ok (.aload_n 0, 1) := by decide +kernel
theorem dX11_netTiling_5 : decode cX11_netTiling 5 = .ok (.getfield 12, 3) := by decide +kernel
theorem dX11_netTiling_8 : decode cX11_netTiling 8 = .ok (.getfield 304, 3) := by decide +kernel
theorem dX11_netTiling_11 : decode cX11_netTiling 11 = .ok (.iload_n 1, 1) := by decide +kernel
theorem dX11_netTiling_12 : decode cX11_netTiling 12 = .ok (.aaload, 1) := by decide +kernel
theorem dX11_netTiling_13 : decode cX11_netTiling 13 = .ok (.aload_n 0, 1) := by decide +kernel
theorem dX11_netTiling_14 : decode cX11_netTiling 14 = .ok (.getfield 12, 3) := by decide +kernel
theorem dX11_netTiling_17 : decode cX11_netTiling 17 = .ok (.getfield 311, 3) := by decide +kernel
theorem dX11_netTiling_20 : decode cX11_netTiling 20 = .ok (.iload_n 1, 1) := by decide +kernel
theorem dX11_netTiling_21 : decode cX11_netTiling 21 = .ok (.iaload, 1) := by decide +kernel
theorem dX11_netTiling_22 : decode cX11_netTiling 22 = .ok (.invokevirtual 324, 3) := by decide +kernel
theorem dX11_netTiling_25 : decode cX11_netTiling 25 = .ok (.astore_n 2, 1) := by decide +kernel
theorem dX11_netTiling_26 : decode cX11_netTiling 26 = .ok (.aload_n 2, 1) := by decide +kernel
theorem dX11_netTiling_27 : decode cX11_netTiling 27 = .ok (.getfield 197, 3) := by decide +kernel
theorem dX11_netTiling_30 : decode cX11_netTiling 30 = .ok (.lconst 0, 1) := by decide +kernel
theorem dX11_netTiling_31 : decode cX11_netTiling 31 = .ok (.lcmp, 1) := by decide +kernel
theorem dX11_netTiling_32 : decode cX11_netTiling 32 = .ok (.ifCond .le 29, 3) := by decide +kernel
theorem dX11_netTiling_35 : decode cX11_netTiling 35 = .ok (.aload_n 0, 1) := by decide +kernel
theorem dX11_netTiling_36 : decode cX11_netTiling 36 = .ok (.getfield 35, 3) := by decide +kernel
theorem dX11_netTiling_39 : decode cX11_netTiling 39 = .ok (.aload_n 2, 1) := by decide +kernel
theorem dX11_netTiling_40 : decode cX11_netTiling 40 = .ok (.aload_n 0, 1) := by decide +kernel
theorem dX11_netTiling_41 : decode cX11_netTiling 41 = .ok (.getfield 28, 3) := by decide +kernel
theorem dX11_netTiling_44 : decode cX11_netTiling 44 = .ok (.getfield 328, 3) := by decide +kernel
theorem dX11_netTiling_47 : decode cX11_netTiling 47 = .ok (.aload_n 0, 1) := by decide +kernel
theorem dX11_netTiling_48 : decode cX11_netTiling 48 = .ok (.getfield 42, 3) := by decide +kernel
theorem dX11_netTiling_51 : decode cX11_netTiling 51 = .ok (.invokevirtual 331, 3) := by decide +kernel
theorem dX11_netTiling_54 : decode cX11_netTiling 54 = .ok (.ifCond .eq 7, 3) := by decide +kernel
theorem dX11_netTiling_57 : decode cX11_netTiling 57 = .ok (.iconst 1, 1) := by decide +kernel
theorem dX11_netTiling_58 : decode cX11_netTiling 58 = .ok (.goto 4, 3) := by decide +kernel
theorem dX11_netTiling_61 : decode cX11_netTiling 61 = .ok (.iconst 0, 1) := by decide +kernel
theorem dX11_netTiling_62 : decode cX11_netTiling 62 = .ok (.istore_n 3, 1) := by decide +kernel
theorem dX11_netTiling_63 : decode cX11_netTiling 63 = .ok (.new 119, 3) := by decide +kernel
theorem dX11_netTiling_66 : decode cX11_netTiling 66 = .ok (.dup, 1) := by decide +kernel
theorem dX11_netTiling_67 : decode cX11_netTiling 67 = .ok (.iconst 1, 1) := by decide +kernel
theorem dX11_netTiling_68 : decode cX11_netTiling 68 = .ok (.iload_n 3, 1) := by decide +kernel
theorem dX11_netTiling_69 : decode cX11_netTiling 69 = .ok (.ifCond .eq 10, 3) := by decide +kernel
theorem dX11_netTiling_72 : decode cX11_netTiling 72 = .ok (.aload_n 0, 1) := by decide +kernel
theorem dX11_netTiling_73 : decode cX11_netTiling 73 = .ok (.getfield 42, 3) := by decide +kernel
theorem dX11_netTiling_76 : decode cX11_netTiling 76 = .ok (.goto 4, 3) := by decide +kernel
theorem dX11_netTiling_79 : decode cX11_netTiling 79 = .ok (.aconst_null, 1) := by decide +kernel
theorem dX11_netTiling_80 : decode cX11_netTiling 80 = .ok (.iconst 0, 1) := by decide +kernel
theorem dX11_netTiling_81 : decode cX11_netTiling 81 = .ok (.aload_n 2, 1) := by decide +kernel
theorem dX11_netTiling_82 : decode cX11_netTiling 82 = .ok (.invokespecial 321, 3) := by decide +kernel
theorem dX11_netTiling_85 : decode cX11_netTiling 85 = .ok (.areturn, 1) := by decide +kernel
theorem dX11_refusalFor_0 : decode cX11_refusalFor 0 = .ok (.aload_n 0, 1) := by decide +kernel
theorem dX11_refusalFor_1 : decode cX11_refusalFor 1 = .ok (.ifnonnull 7, 3) := by decide +kernel
theorem dX11_refusalFor_4 : decode cX11_refusalFor 4 = .ok (.iconst (-1), 1) := by decide +kernel
theorem dX11_refusalFor_5 : decode cX11_refusalFor 5 = .ok (.goto 5, 3) := by decide +kernel
theorem dX11_refusalFor_8 : decode cX11_refusalFor 8 = .ok (.bipush (-2), 2) := by decide +kernel
theorem dX11_refusalFor_10 : decode cX11_refusalFor 10 = .ok (.ireturn, 1) := by decide +kernel
theorem dX11_flowingNet_0 : decode cX11_flowingNet 0 = .ok (.aload_n 0, 1) := by decide +kernel
theorem dX11_flowingNet_1 : decode cX11_flowingNet 1 = .ok (.getfield 66, 3) := by decide +kernel
theorem dX11_flowingNet_4 : decode cX11_flowingNet 4 = .ok (.iload_n 1, 1) := by decide +kernel
theorem dX11_flowingNet_5 : decode cX11_flowingNet 5 = .ok (.invokevirtual 115, 3) := by decide +kernel
theorem dX11_flowingNet_8 : decode cX11_flowingNet 8 = .ok (.astore_n 2, 1) := by decide +kernel
theorem dX11_flowingNet_9 : decode cX11_flowingNet 9 = .ok (.aload_n 2, 1) := by decide +kernel
theorem dX11_flowingNet_10 : decode cX11_flowingNet 10 = .ok (.ifnull 22, 3) := by decide +kernel
theorem dX11_flowingNet_13 : decode cX11_flowingNet 13 = .ok (.aload_n 2, 1) := by decide +kernel
theorem dX11_flowingNet_14 : decode cX11_flowingNet 14 = .ok (.getfield 191, 3) := by decide +kernel
theorem dX11_flowingNet_17 : decode cX11_flowingNet 17 = .ok (.ifnull 15, 3) := by decide +kernel
theorem dX11_flowingNet_20 : decode cX11_flowingNet 20 = .ok (.aload_n 2, 1) := by decide +kernel
theorem dX11_flowingNet_21 : decode cX11_flowingNet 21 = .ok (.getfield 191, 3) := by decide +kernel
theorem dX11_flowingNet_24 : decode cX11_flowingNet 24 = .ok (.getfield 197, 3) := by decide +kernel
theorem dX11_flowingNet_27 : decode cX11_flowingNet 27 = .ok (.lconst 0, 1) := by decide +kernel
theorem dX11_flowingNet_28 : decode cX11_flowingNet 28 = .ok (.lcmp, 1) := by decide +kernel
theorem dX11_flowingNet_29 : decode cX11_flowingNet 29 = .ok (.ifCond .ne 5, 3) := by decide +kernel
theorem dX11_flowingNet_32 : decode cX11_flowingNet 32 = .ok (.aconst_null, 1) := by decide +kernel
theorem dX11_flowingNet_33 : decode cX11_flowingNet 33 = .ok (.areturn, 1) := by decide +kernel
theorem dX11_flowingNet_34 : decode cX11_flowingNet 34 = .ok (.aload_n 2, 1) := by decide +kernel
theorem dX11_flowingNet_35 : decode cX11_flowingNet 35 = .ok (.getfield 191, 3) := by decide +kernel
theorem dX11_flowingNet_38 : decode cX11_flowingNet 38 = .ok (.areturn, 1) := by decide +kernel
theorem dX11_usable_0 : decode cX11_usable 0 = .ok (.aload_n 0, 1) := by decide +kernel
theorem dX11_usable_1 : decode cX11_usable 1 = .ok (.getfield 66, 3) := by decide +kernel
theorem dX11_usable_4 : decode cX11_usable 4 = .ok (.iload_n 1, 1) := by decide +kernel
theorem dX11_usable_5 : decode cX11_usable 5 = .ok (.invokevirtual 115, 3) := by decide +kernel
theorem dX11_usable_8 : decode cX11_usable 8 = .ok (.astore_n 2, 1) := by decide +kernel
theorem dX11_usable_9 : decode cX11_usable 9 = .ok (.aload_n 2, 1) := by decide +kernel
theorem dX11_usable_10 : decode cX11_usable 10 = .ok (.ifnull 22, 3) := by decide +kernel
theorem dX11_usable_13 : decode cX11_usable 13 = .ok (.aload_n 2, 1) := by decide +kernel
theorem dX11_usable_14 : decode cX11_usable 14 = .ok (.getfield 123, 3) := by decide +kernel
theorem dX11_usable_17 : decode cX11_usable 17 = .ok (.ifCond .ne 15, 3) := by decide +kernel
theorem dX11_usable_20 : decode cX11_usable 20 = .ok (.aload_n 0, 1) := by decide +kernel
theorem dX11_usable_21 : decode cX11_usable 21 = .ok (.getfield 66, 3) := by decide +kernel
theorem dX11_usable_24 : decode cX11_usable 24 = .ok (.getfield 112, 3) := by decide +kernel
theorem dX11_usable_27 : decode cX11_usable 27 = .ok (.bipush 12, 2) := by decide +kernel
theorem dX11_usable_29 : decode cX11_usable 29 = .ok (.if_icmp .lt 7, 3) := by decide +kernel
theorem dX11_usable_32 : decode cX11_usable 32 = .ok (.aconst_null, 1) := by decide +kernel
theorem dX11_usable_33 : decode cX11_usable 33 = .ok (.goto 4, 3) := by decide +kernel
theorem dX11_usable_36 : decode cX11_usable 36 = .ok (.aload_n 2, 1) := by decide +kernel
theorem dX11_usable_37 : decode cX11_usable 37 = .ok (.areturn, 1) := by decide +kernel
theorem dX11_putMade_0 : decode cX11_putMade 0 = .ok (.aload_n 0, 1) := by decide +kernel
theorem dX11_putMade_1 : decode cX11_putMade 1 = .ok (.getfield 42, 3) := by decide +kernel
theorem dX11_putMade_4 : decode cX11_putMade 4 = .ok (.invokevirtual 335, 3) := by decide +kernel
theorem dX11_putMade_7 : decode cX11_putMade 7 = .ok (.aload_n 0, 1) := by decide +kernel
theorem dX11_putMade_8 : decode cX11_putMade 8 = .ok (.getfield 66, 3) := by decide +kernel
theorem dX11_putMade_11 : decode cX11_putMade 11 = .ok (.new 119, 3) := by decide +kernel
theorem dX11_putMade_14 : decode cX11_putMade 14 = .ok (.dup, 1) := by decide +kernel
theorem dX11_putMade_15 : decode cX11_putMade 15 = .ok (.iconst 2, 1) := by decide +kernel
theorem dX11_putMade_16 : decode cX11_putMade 16 = .ok (.aload_n 0, 1) := by decide +kernel
theorem dX11_putMade_17 : decode cX11_putMade 17 = .ok (.getfield 42, 3) := by decide +kernel
theorem dX11_putMade_20 : decode cX11_putMade 20 = .ok (.iconst 0, 1) := by decide +kernel
theorem dX11_putMade_21 : decode cX11_putMade 21 = .ok (.aconst_null, 1) := by decide +kernel
theorem dX11_putMade_22 : decode cX11_putMade 22 = .ok (.invokespecial 321, 3) := by decide +kernel
theorem dX11_putMade_25 : decode cX11_putMade 25 = .ok (.invokevirtual 108, 3) := by decide +kernel
theorem dX11_putMade_28 : decode cX11_putMade 28 = .ok (.aload_n 0, 1) := by decide +kernel
theorem dX11_putMade_29 : decode cX11_putMade 29 = .ok (.dup, 1) := by decide +kernel
theorem dX11_putMade_30 : decode cX11_putMade 30 = .ok (.getfield 91, 3) := by decide +kernel
theorem dX11_putMade_33 : decode cX11_putMade 33 = .ok (.iconst 1, 1) := by decide +kernel
theorem dX11_putMade_34 : decode cX11_putMade 34 = .ok (.iadd, 1) := by decide +kernel
theorem dX11_putMade_35 : decode cX11_putMade 35 = .ok (.putfield 91, 3) := by decide +kernel
theorem dX11_putMade_38 : decode cX11_putMade 38 = .ok (.aload_n 0, 1) := by decide +kernel
theorem dX11_putMade_39 : decode cX11_putMade 39 = .ok (.getfield 66, 3) := by decide +kernel
theorem dX11_putMade_42 : decode cX11_putMade 42 = .ok (.getfield 112, 3) := by decide +kernel
theorem dX11_putMade_45 : decode cX11_putMade 45 = .ok (.iconst 1, 1) := by decide +kernel
theorem dX11_putMade_46 : decode cX11_putMade 46 = .ok (.isub, 1) := by decide +kernel
theorem dX11_putMade_47 : decode cX11_putMade 47 = .ok (.ireturn, 1) := by decide +kernel
theorem dX11_isTooLarge_0 : decode cX11_isTooLarge 0 = .ok (.lload_n 0, 1) := by decide +kernel
theorem dX11_isTooLarge_1 : decode cX11_isTooLarge 1 = .ok (.ldc2_w 338, 3) := by decide +kernel
theorem dX11_isTooLarge_4 : decode cX11_isTooLarge 4 = .ok (.lcmp, 1) := by decide +kernel
theorem dX11_isTooLarge_5 : decode cX11_isTooLarge 5 = .ok (.ifCond .gt 11, 3) := by decide +kernel
theorem dX11_isTooLarge_8 : decode cX11_isTooLarge 8 = .ok (.lload_n 2, 1) := by decide +kernel
theorem dX11_isTooLarge_9 : decode cX11_isTooLarge 9 = .ok (.ldc2_w 338, 3) := by decide +kernel
theorem dX11_isTooLarge_12 : decode cX11_isTooLarge 12 = .ok (.lcmp, 1) := by decide +kernel
theorem dX11_isTooLarge_13 : decode cX11_isTooLarge 13 = .ok (.ifCond .le 7, 3) := by decide +kernel
theorem dX11_isTooLarge_16 : decode cX11_isTooLarge 16 = .ok (.iconst 1, 1) := by decide +kernel
theorem dX11_isTooLarge_17 : decode cX11_isTooLarge 17 = .ok (.goto 4, 3) := by decide +kernel
theorem dX11_isTooLarge_20 : decode cX11_isTooLarge 20 = .ok (.iconst 0, 1) := by decide +kernel
theorem dX11_isTooLarge_21 : decode cX11_isTooLarge 21 = .ok (.ireturn, 1) := by decide +kernel
theorem dX11_greatestDivisor_0 : decode cX11_greatestDivisor 0 = .ok (.iload_n 0, 1) := by decide +kernel
theorem dX11_greatestDivisor_1 : decode cX11_greatestDivisor 1 = .ok (.iload_n 1, 1) := by decide +kernel
theorem dX11_greatestDivisor_2 : decode cX11_greatestDivisor 2 = .ok (.invokestatic 340, 3) := by decide +kernel
theorem dX11_greatestDivisor_5 : decode cX11_greatestDivisor 5 = .ok (.istore_n 2, 1) := by decide +kernel
theorem dX11_greatestDivisor_6 : decode cX11_greatestDivisor 6 = .ok (.iload_n 0, 1) := by decide +kernel
theorem dX11_greatestDivisor_7 : decode cX11_greatestDivisor 7 = .ok (.iload_n 1, 1) := by decide +kernel
theorem dX11_greatestDivisor_8 : decode cX11_greatestDivisor 8 = .ok (.invokestatic 345, 3) := by decide +kernel
theorem dX11_greatestDivisor_11 : decode cX11_greatestDivisor 11 = .ok (.istore_n 3, 1) := by decide +kernel
theorem dX11_greatestDivisor_12 : decode cX11_greatestDivisor 12 = .ok (.iconst 0, 1) := by decide +kernel
theorem dX11_greatestDivisor_13 : decode cX11_greatestDivisor 13 = .ok (.istore 4, 2) := by decide +kernel
theorem dX11_greatestDivisor_15 : decode cX11_greatestDivisor 15 = .ok (.iload 4, 2) := by decide +kernel
theorem dX11_greatestDivisor_17 : decode cX11_greatestDivisor 17 = .ok (.bipush 100, 2) := by decide +kernel
theorem dX11_greatestDivisor_19 : decode cX11_greatestDivisor 19 = .ok (.if_icmp .ge 23, 3) := by decide +kernel
theorem dX11_greatestDivisor_22 : decode cX11_greatestDivisor 22 = .ok (.iload_n 3, 1) := by decide +kernel
theorem dX11_greatestDivisor_23 : decode cX11_greatestDivisor 23 = .ok (.ifCond .eq 19, 3) := by decide +kernel
theorem dX11_greatestDivisor_26 : decode cX11_greatestDivisor 26 = .ok (.iload_n 2, 1) := by decide +kernel
theorem dX11_greatestDivisor_27 : decode cX11_greatestDivisor 27 = .ok (.iload_n 3, 1) := by decide +kernel
theorem dX11_greatestDivisor_28 : decode cX11_greatestDivisor 28 = .ok (.irem, 1) := by decide +kernel
theorem dX11_greatestDivisor_29 : decode cX11_greatestDivisor 29 = .ok (.istore 5, 2) := by decide +kernel
theorem dX11_greatestDivisor_31 : decode cX11_greatestDivisor 31 = .ok (.iload_n 3, 1) := by decide +kernel
theorem dX11_greatestDivisor_32 : decode cX11_greatestDivisor 32 = .ok (.istore_n 2, 1) := by decide +kernel
theorem dX11_greatestDivisor_33 : decode cX11_greatestDivisor 33 = .ok (.iload 5, 2) := by decide +kernel
theorem dX11_greatestDivisor_35 : decode cX11_greatestDivisor 35 = .ok (.istore_n 3, 1) := by decide +kernel
theorem dX11_greatestDivisor_36 : decode cX11_greatestDivisor 36 = .ok (.iinc 4 1, 3) := by decide +kernel
theorem dX11_greatestDivisor_39 : decode cX11_greatestDivisor 39 = .ok (.goto (-24), 3) := by decide +kernel
theorem dX11_greatestDivisor_42 : decode cX11_greatestDivisor 42 = .ok (.iload_n 2, 1) := by decide +kernel
theorem dX11_greatestDivisor_43 : decode cX11_greatestDivisor 43 = .ok (.ireturn, 1) := by decide +kernel
theorem dX12_init_0 : decode cX12_init 0 = .ok (.aload_n 0, 1) := by decide +kernel
theorem dX12_init_1 : decode cX12_init 1 = .ok (.invokespecial 1, 3) := by decide +kernel
theorem dX12_init_4 : decode cX12_init 4 = .ok (.aload_n 0, 1) := by decide +kernel
theorem dX12_init_5 : decode cX12_init 5 = .ok (.sipush 600, 3) := by decide +kernel
theorem dX12_init_8 : decode cX12_init 8 = .ok (.newarray .byte, 2) := by decide +kernel
theorem dX12_init_10 : decode cX12_init 10 = .ok (.putfield 7, 3) := by decide +kernel
theorem dX12_init_13 : decode cX12_init 13 = .ok (.aload_n 0, 1) := by decide +kernel
theorem dX12_init_14 : decode cX12_init 14 = .ok (.bipush 6, 2) := by decide +kernel
theorem dX12_init_16 : decode cX12_init 16 = .ok (.newarray .long, 2) := by decide +kernel
theorem dX12_init_18 : decode cX12_init 18 = .ok (.putfield 13, 3) := by decide +kernel
theorem dX12_init_21 : decode cX12_init 21 = .ok (.aload_n 0, 1) := by decide +kernel
theorem dX12_init_22 : decode cX12_init 22 = .ok (.bipush 6, 2) := by decide +kernel
theorem dX12_init_24 : decode cX12_init 24 = .ok (.newarray .int, 2) := by decide +kernel
theorem dX12_init_26 : decode cX12_init 26 = .ok (.putfield 17, 3) := by decide +kernel
theorem dX12_init_29 : decode cX12_init 29 = .ok (.aload_n 0, 1) := by decide +kernel
theorem dX12_init_30 : decode cX12_init 30 = .ok (.bipush 6, 2) := by decide +kernel
theorem dX12_init_32 : decode cX12_init 32 = .ok (.newarray .int, 2) := by decide +kernel
theorem dX12_init_34 : decode cX12_init 34 = .ok (.putfield 21, 3) := by decide +kernel
theorem dX12_init_37 : decode cX12_init 37 = .ok (.aload_n 0, 1) := by decide +kernel
theorem dX12_init_38 : decode cX12_init 38 = .ok (.bipush 6, 2) := by decide +kernel
theorem dX12_init_40 : decode cX12_init 40 = .ok (.newarray .int, 2) := by decide +kernel
theorem dX12_init_42 : decode cX12_init 42 = .ok (.putfield 24, 3) := by decide +kernel
theorem dX12_init_45 : decode cX12_init 45 = .ok (.aload_n 0, 1) := by decide +kernel
theorem dX12_init_46 : decode cX12_init 46 = .ok (.sipush 174, 3) := by decide +kernel
theorem dX12_init_49 : decode cX12_init 49 = .ok (.newarray .int, 2) := by decide +kernel
theorem dX12_init_51 : decode cX12_init 51 = .ok (.putfield 27, 3) := by decide +kernel
theorem dX12_init_54 : decode cX12_init 54 = .ok (.aload_n 0, 1) := by decide +kernel
theorem dX12_init_55 : decode cX12_init 55 = .ok (.sipush 1488, 3) := by decide +kernel
theorem dX12_init_58 : decode cX12_init 58 = .ok (.newarray .int, 2) := by decide +kernel
theorem dX12_init_60 : decode cX12_init 60 = .ok (.putfield 30, 3) := by decide +kernel
theorem dX12_init_63 : decode cX12_init 63 = .ok (.aload_n 0, 1) := by decide +kernel
theorem dX12_init_64 : decode cX12_init 64 = .ok (.sipush 2976, 3) := by decide +kernel
theorem dX12_init_67 : decode cX12_init 67 = .ok (.newarray .int, 2) := by decide +kernel
theorem dX12_init_69 : decode cX12_init 69 = .ok (.putfield 33, 3) := by decide +kernel
theorem dX12_init_72 : decode cX12_init 72 = .ok (.aload_n 0, 1) := by decide +kernel
theorem dX12_init_73 : decode cX12_init 73 = .ok (.iconst 2, 1) := by decide +kernel
theorem dX12_init_74 : decode cX12_init 74 = .ok (.newarray .int, 2) := by decide +kernel
theorem dX12_init_76 : decode cX12_init 76 = .ok (.putfield 36, 3) := by decide +kernel
theorem dX12_init_79 : decode cX12_init 79 = .ok (.aload_n 0, 1) := by decide +kernel
theorem dX12_init_80 : decode cX12_init 80 = .ok (.iconst 2, 1) := by decide +kernel
theorem dX12_init_81 : decode cX12_init 81 = .ok (.newarray .boolean, 2) := by decide +kernel
theorem dX12_init_83 : decode cX12_init 83 = .ok (.putfield 39, 3) := by decide +kernel
theorem dX12_init_86 : decode cX12_init 86 = .ok (.aload_n 0, 1) := by decide +kernel
theorem dX12_init_87 : decode cX12_init 87 = .ok (.bipush 6, 2) := by decide +kernel
theorem dX12_init_89 : decode cX12_init 89 = .ok (.newarray .int, 2) := by decide +kernel
theorem dX12_init_91 : decode cX12_init 91 = .ok (.putfield 43, 3) := by decide +kernel
theorem dX12_init_94 : decode cX12_init 94 = .ok (.aload_n 0, 1) := by decide +kernel
theorem dX12_init_95 : decode cX12_init 95 = .ok (.bipush 6, 2) := by decide +kernel
theorem dX12_init_97 : decode cX12_init 97 = .ok (.newarray .int, 2) := by decide +kernel
theorem dX12_init_99 : decode cX12_init 99 = .ok (.putfield 46, 3) := by decide +kernel
theorem dX12_init_102 : decode cX12_init 102 = .ok (.aload_n 0, 1) := by decide +kernel
theorem dX12_init_103 : decode cX12_init 103 = .ok (.bipush 6, 2) := by decide +kernel
theorem dX12_init_105 : decode cX12_init 105 = .ok (.newarray .int, 2) := by decide +kernel
theorem dX12_init_107 : decode cX12_init 107 = .ok (.putfield 49, 3) := by decide +kernel
theorem dX12_init_110 : decode cX12_init 110 = .ok (.aload_n 0, 1) := by decide +kernel
theorem dX12_init_111 : decode cX12_init 111 = .ok (.sipush 168, 3) := by decide +kernel
theorem dX12_init_114 : decode cX12_init 114 = .ok (.newarray .int, 2) := by decide +kernel
theorem dX12_init_116 : decode cX12_init 116 = .ok (.putfield 52, 3) := by decide +kernel
theorem dX12_init_119 : decode cX12_init 119 = .ok (.aload_n 0, 1) := by decide +kernel
theorem dX12_init_120 : decode cX12_init 120 = .ok (.bipush 6, 2) := by decide +kernel
theorem dX12_init_122 : decode cX12_init 122 = .ok (.newarray .int, 2) := by decide +kernel
theorem dX12_init_124 : decode cX12_init 124 = .ok (.putfield 55, 3) := by decide +kernel
theorem dX12_init_127 : decode cX12_init 127 = .ok (.aload_n 0, 1) := by decide +kernel
theorem dX12_init_128 : decode cX12_init 128 = .ok (.bipush 6, 2) := by decide +kernel
theorem dX12_init_130 : decode cX12_init 130 = .ok (.newarray .int, 2) := by decide +kernel
theorem dX12_init_132 : decode cX12_init 132 = .ok (.putfield 58, 3) := by decide +kernel
theorem dX12_init_135 : decode cX12_init 135 = .ok (.aload_n 0, 1) := by decide +kernel
theorem dX12_init_136 : decode cX12_init 136 = .ok (.bipush 6, 2) := by decide +kernel
theorem dX12_init_138 : decode cX12_init 138 = .ok (.newarray .long, 2) := by decide +kernel
theorem dX12_init_140 : decode cX12_init 140 = .ok (.putfield 61, 3) := by decide +kernel
theorem dX12_init_143 : decode cX12_init 143 = .ok (.aload_n 0, 1) := by decide +kernel
theorem dX12_init_144 : decode cX12_init 144 = .ok (.bipush 54, 2) := by decide +kernel
theorem dX12_init_146 : decode cX12_init 146 = .ok (.newarray .long, 2) := by decide +kernel
theorem dX12_init_148 : decode cX12_init 148 = .ok (.putfield 64, 3) := by decide +kernel
theorem dX12_init_151 : decode cX12_init 151 = .ok (.aload_n 0, 1) := by decide +kernel
theorem dX12_init_152 : decode cX12_init 152 = .ok (.bipush 84, 2) := by decide +kernel
theorem dX12_init_154 : decode cX12_init 154 = .ok (.newarray .long, 2) := by decide +kernel
theorem dX12_init_156 : decode cX12_init 156 = .ok (.putfield 67, 3) := by decide +kernel
theorem dX12_init_159 : decode cX12_init 159 = .ok (.aload_n 0, 1) := by decide +kernel
theorem dX12_init_160 : decode cX12_init 160 = .ok (.bipush 42, 2) := by decide +kernel
theorem dX12_init_162 : decode cX12_init 162 = .ok (.newarray .int, 2) := by decide +kernel
theorem dX12_init_164 : decode cX12_init 164 = .ok (.putfield 70, 3) := by decide +kernel
theorem dX12_init_167 : decode cX12_init 167 = .ok (.aload_n 0, 1) := by decide +kernel
theorem dX12_init_168 : decode cX12_init 168 = .ok (.sipush 1764, 3) := by decide +kernel
theorem dX12_init_171 : decode cX12_init 171 = .ok (.newarray .int, 2) := by decide +kernel
theorem dX12_init_173 : decode cX12_init 173 = .ok (.putfield 73, 3) := by decide +kernel
theorem dX12_init_176 : decode cX12_init 176 = .ok (.aload_n 0, 1) := by decide +kernel
theorem dX12_init_177 : decode cX12_init 177 = .ok (.sipush 1764, 3) := by decide +kernel
theorem dX12_init_180 : decode cX12_init 180 = .ok (.newarray .int, 2) := by decide +kernel
theorem dX12_init_182 : decode cX12_init 182 = .ok (.putfield 76, 3) := by decide +kernel
theorem dX12_init_185 : decode cX12_init 185 = .ok (.aload_n 0, 1) := by decide +kernel
theorem dX12_init_186 : decode cX12_init 186 = .ok (.bipush 64, 2) := by decide +kernel
theorem dX12_init_188 : decode cX12_init 188 = .ok (.newarray .long, 2) := by decide +kernel
theorem dX12_init_190 : decode cX12_init 190 = .ok (.putfield 79, 3) := by decide +kernel
theorem dX12_init_193 : decode cX12_init 193 = .ok (.aload_n 0, 1) := by decide +kernel
theorem dX12_init_194 : decode cX12_init 194 = .ok (.bipush 14, 2) := by decide +kernel
theorem dX12_init_196 : decode cX12_init 196 = .ok (.newarray .boolean, 2) := by decide +kernel
theorem dX12_init_198 : decode cX12_init 198 = .ok (.putfield 82, 3) := by decide +kernel
theorem dX12_init_201 : decode cX12_init 201 = .ok (.aload_n 0, 1) := by decide +kernel
theorem dX12_init_202 : decode cX12_init 202 = .ok (.sipush 700, 3) := by decide +kernel
theorem dX12_init_205 : decode cX12_init 205 = .ok (.newarray .byte, 2) := by decide +kernel
theorem dX12_init_207 : decode cX12_init 207 = .ok (.putfield 85, 3) := by decide +kernel
theorem dX12_init_210 : decode cX12_init 210 = .ok (.aload_n 0, 1) := by decide +kernel
theorem dX12_init_211 : decode cX12_init 211 = .ok (.bipush 80, 2) := by decide +kernel
theorem dX12_init_213 : decode cX12_init 213 = .ok (.newarray .int, 2) := by decide +kernel
theorem dX12_init_215 : decode cX12_init 215 = .ok (.putfield 88, 3) := by decide +kernel
theorem dX12_init_218 : decode cX12_init 218 = .ok (.aload_n 0, 1) := by decide +kernel
theorem dX12_init_219 : decode cX12_init 219 = .ok (.bipush 80, 2) := by decide +kernel
theorem dX12_init_221 : decode cX12_init 221 = .ok (.newarray .int, 2) := by decide +kernel
theorem dX12_init_223 : decode cX12_init 223 = .ok (.putfield 91, 3) := by decide +kernel
theorem dX12_init_226 : decode cX12_init 226 = .ok (.aload_n 0, 1) := by decide +kernel
theorem dX12_init_227 : decode cX12_init 227 = .ok (.bipush 80, 2) := by decide +kernel
theorem dX12_init_229 : decode cX12_init 229 = .ok (.newarray .int, 2) := by decide +kernel
theorem dX12_init_231 : decode cX12_init 231 = .ok (.putfield 94, 3) := by decide +kernel
theorem dX12_init_234 : decode cX12_init 234 = .ok (.aload_n 0, 1) := by decide +kernel
theorem dX12_init_235 : decode cX12_init 235 = .ok (.bipush 80, 2) := by decide +kernel
theorem dX12_init_237 : decode cX12_init 237 = .ok (.newarray .int, 2) := by decide +kernel
theorem dX12_init_239 : decode cX12_init 239 = .ok (.putfield 97, 3) := by decide +kernel
theorem dX12_init_242 : decode cX12_init 242 = .ok (.aload_n 0, 1) := by decide +kernel
theorem dX12_init_243 : decode cX12_init 243 = .ok (.bipush 124, 2) := by decide +kernel
theorem dX12_init_245 : decode cX12_init 245 = .ok (.newarray .int, 2) := by decide +kernel
theorem dX12_init_247 : decode cX12_init 247 = .ok (.putfield 100, 3) := by decide +kernel
theorem dX12_init_250 : decode cX12_init 250 = .ok (.return_, 1) := by decide +kernel
theorem dX12_thrown_0 : decode cX12_thrown 0 = .ok (.aload_n 0, 1) := by decide +kernel
theorem dX12_thrown_1 : decode cX12_thrown 1 = .ok (.getfield 103, 3) := by decide +kernel
theorem dX12_thrown_4 : decode cX12_thrown 4 = .ok (.ireturn, 1) := by decide +kernel
theorem dX12_within_0 : decode cX12_within 0 = .ok (.lload_n 0, 1) := by decide +kernel
theorem dX12_within_1 : decode cX12_within 1 = .ok (.lload_n 2, 1) := by decide +kernel
theorem dX12_within_2 : decode cX12_within 2 = .ok (.lcmp, 1) := by decide +kernel
theorem dX12_within_3 : decode cX12_within 3 = .ok (.ifCond .lt 14, 3) := by decide +kernel
theorem dX12_within_6 : decode cX12_within 6 = .ok (.lload_n 0, 1) := by decide +kernel
theorem dX12_within_7 : decode cX12_within 7 = .ok (.lload 4, 2) := by decide +kernel
theorem dX12_within_9 : decode cX12_within 9 = .ok (.lcmp, 1) := by decide +kernel
theorem dX12_within_10 : decode cX12_within 10 = .ok (.ifCond .gt 7, 3) := by decide +kernel
theorem dX12_within_13 : decode cX12_within 13 = .ok (.iconst 1, 1) := by decide +kernel
theorem dX12_within_14 : decode cX12_within 14 = .ok (.goto 4, 3) := by decide +kernel
theorem dX12_within_17 : decode cX12_within 17 = .ok (.iconst 0, 1) := by decide +kernel
theorem dX12_within_18 : decode cX12_within 18 = .ok (.ireturn, 1) := by decide +kernel
theorem dX12_puts_0 : decode cX12_puts 0 = .ok (.bipush 24, 2) := by decide +kernel
theorem dX12_puts_2 : decode cX12_puts 2 = .ok (.istore_n 2, 1) := by decide +kernel
theorem dX12_puts_3 : decode cX12_puts 3 = .ok (.iload_n 2, 1) := by decide +kernel
theorem dX12_puts_4 : decode cX12_puts 4 = .ok (.ifCond .lt 32, 3) := by decide +kernel
theorem dX12_puts_7 : decode cX12_puts 7 = .ok (.aload_n 0, 1) := by decide +kernel
theorem dX12_puts_8 : decode cX12_puts 8 = .ok (.getfield 7, 3) := by decide +kernel
theorem dX12_puts_11 : decode cX12_puts 11 = .ok (.aload_n 0, 1) := by decide +kernel
theorem dX12_puts_12 : decode cX12_puts 12 = .ok (.getfield 107, 3) := by decide +kernel
theorem dX12_puts_15 : decode cX12_puts 15 = .ok (.iload_n 1, 1) := by decide +kernel
theorem dX12_puts_16 : decode cX12_puts 16 = .ok (.iload_n 2, 1) := by decide +kernel
theorem dX12_puts_17 : decode cX12_puts 17 = .ok (.ishr, 1) := by decide +kernel
theorem dX12_puts_18 : decode cX12_puts 18 = .ok (.i2b, 1) := by decide +kernel
theorem dX12_puts_19 : decode cX12_puts 19 = .ok (.bastore, 1) := by decide +kernel
theorem dX12_puts_20 : decode cX12_puts 20 = .ok (.aload_n 0, 1) := by decide +kernel
theorem dX12_puts_21 : decode cX12_puts 21 = .ok (.dup, 1) := by decide +kernel
theorem dX12_puts_22 : decode cX12_puts 22 = .ok (.getfield 107, 3) := by decide +kernel
theorem dX12_puts_25 : decode cX12_puts 25 = .ok (.iconst 1, 1) := by decide +kernel
theorem dX12_puts_26 : decode cX12_puts 26 = .ok (.iadd, 1) := by decide +kernel
theorem dX12_puts_27 : decode cX12_puts 27 = .ok (.putfield 107, 3) := by decide +kernel
theorem dX12_puts_30 : decode cX12_puts 30 = .ok (.iinc 2 (-8), 3) := by decide +kernel
theorem dX12_puts_33 : decode cX12_puts 33 = .ok (.goto (-30), 3) := by decide +kernel
theorem dX12_puts_36 : decode cX12_puts 36 = .ok (.return_, 1) := by decide +kernel
theorem dX12_feed_0 : decode cX12_feed 0 = .ok (.aload_n 0, 1) := by decide +kernel
theorem dX12_feed_1 : decode cX12_feed 1 = .ok (.iconst 0, 1) := by decide +kernel
theorem dX12_feed_2 : decode cX12_feed 2 = .ok (.putfield 103, 3) := by decide +kernel
theorem dX12_feed_5 : decode cX12_feed 5 = .ok (.aload_n 0, 1) := by decide +kernel
theorem dX12_feed_6 : decode cX12_feed 6 = .ok (.getfield 107, 3) := by decide +kernel
theorem dX12_feed_9 : decode cX12_feed 9 = .ok (.bipush 20, 2) := by decide +kernel
theorem dX12_feed_11 : decode cX12_feed 11 = .ok (.iadd, 1) := by decide +kernel
theorem dX12_feed_12 : decode cX12_feed 12 = .ok (.sipush 600, 3) := by decide +kernel
theorem dX12_feed_15 : decode cX12_feed 15 = .ok (.if_icmp .le 5, 3) := by decide +kernel
theorem dX12_feed_18 : decode cX12_feed 18 = .ok (.iconst (-1), 1) := by decide +kernel
theorem dX12_feed_19 : decode cX12_feed 19 = .ok (.ireturn, 1) := by decide +kernel
theorem dX12_feed_20 : decode cX12_feed 20 = .ok (.aload_n 0, 1) := by decide +kernel
theorem dX12_feed_21 : decode cX12_feed 21 = .ok (.iload_n 1, 1) := by decide +kernel
theorem dX12_feed_22 : decode cX12_feed 22 = .ok (.invokevirtual 110, 3) := by decide +kernel
theorem dX12_feed_25 : decode cX12_feed 25 = .ok (.aload_n 0, 1) := by decide +kernel
theorem dX12_feed_26 : decode cX12_feed 26 = .ok (.iload_n 2, 1) := by decide +kernel
theorem dX12_feed_27 : decode cX12_feed 27 = .ok (.invokevirtual 110, 3) := by decide +kernel
theorem dX12_feed_30 : decode cX12_feed 30 = .ok (.aload_n 0, 1) := by decide +kernel
theorem dX12_feed_31 : decode cX12_feed 31 = .ok (.iload_n 3, 1) := by decide +kernel
theorem dX12_feed_32 : decode cX12_feed 32 = .ok (.invokevirtual 110, 3) := by decide +kernel
theorem dX12_feed_35 : decode cX12_feed 35 = .ok (.aload_n 0, 1) := by decide +kernel
theorem dX12_feed_36 : decode cX12_feed 36 = .ok (.iload 4, 2) := by decide +kernel
theorem dX12_feed_38 : decode cX12_feed 38 = .ok (.invokevirtual 110, 3) := by decide +kernel
theorem dX12_feed_41 : decode cX12_feed 41 = .ok (.aload_n 0, 1) := by decide +kernel
theorem dX12_feed_42 : decode cX12_feed 42 = .ok (.iload 5, 2) := by decide +kernel
theorem dX12_feed_44 : decode cX12_feed 44 = .ok (.invokevirtual 110, 3) := by decide +kernel
theorem dX12_feed_47 : decode cX12_feed 47 = .ok (.aload_n 0, 1) := by decide +kernel
theorem dX12_feed_48 : decode cX12_feed 48 = .ok (.getfield 107, 3) := by decide +kernel
theorem dX12_feed_51 : decode cX12_feed 51 = .ok (.ireturn, 1) := by decide +kernel
theorem dX12_see_0 : decode cX12_see 0 = .ok (.iload_n 1, 1) := by decide +kernel
theorem dX12_see_1 : decode cX12_see 1 = .ok (.aload_n 0, 1) := by decide +kernel
theorem dX12_see_2 : decode cX12_see 2 = .ok (.getfield 114, 3) := by decide +kernel
theorem dX12_see_5 : decode cX12_see 5 = .ok (.if_icmp .ge 16, 3) := by decide +kernel
theorem dX12_see_8 : decode cX12_see 8 = .ok (.aload_n 0, 1) := by decide +kernel
theorem dX12_see_9 : decode cX12_see 9 = .ok (.getfield 7, 3) := by decide +kernel
theorem dX12_see_12 : decode cX12_see 12 = .ok (.iload_n 1, 1) := by decide +kernel
theorem dX12_see_13 : decode cX12_see 13 = .ok (.baload, 1) := by decide +kernel
theorem dX12_see_14 : decode cX12_see 14 = .ok (.sipush 255, 3) := by decide +kernel
theorem dX12_see_17 : decode cX12_see 17 = .ok (.iand, 1) := by decide +kernel
theorem dX12_see_18 : decode cX12_see 18 = .ok (.goto 4, 3) := by decide +kernel
theorem dX12_see_21 : decode cX12_see 21 = .ok (.iconst (-1), 1) := by decide +kernel
theorem dX12_see_22 : decode cX12_see 22 = .ok (.ireturn, 1) := by decide +kernel
theorem dX12_steps_0 : decode cX12_steps 0 = .ok (.aload_n 0, 1) := by decide +kernel
theorem dX12_steps_1 : decode cX12_steps 1 = .ok (.aload_n 0, 1) := by decide +kernel
theorem dX12_steps_2 : decode cX12_steps 2 = .ok (.getfield 117, 3) := by decide +kernel
theorem dX12_steps_5 : decode cX12_steps 5 = .ok (.putfield 120, 3) := by decide +kernel
theorem dX12_steps_8 : decode cX12_steps 8 = .ok (.aload_n 0, 1) := by decide +kernel
theorem dX12_steps_9 : decode cX12_steps 9 = .ok (.aload_n 0, 1) := by decide +kernel
theorem dX12_steps_10 : decode cX12_steps 10 = .ok (.getfield 120, 3) := by decide +kernel
theorem dX12_steps_13 : decode cX12_steps 13 = .ok (.invokevirtual 123, 3) := by decide +kernel
theorem dX12_steps_16 : decode cX12_steps 16 = .ok (.bipush 32, 2) := by decide +kernel
theorem dX12_steps_18 : decode cX12_steps 18 = .ok (.if_icmp .eq 16, 3) := by decide +kernel
theorem dX12_steps_21 : decode cX12_steps 21 = .ok (.aload_n 0, 1) := by decide +kernel
theorem dX12_steps_22 : decode cX12_steps 22 = .ok (.aload_n 0, 1) := by decide +kernel
theorem dX12_steps_23 : decode cX12_steps 23 = .ok (.getfield 120, 3) := by decide +kernel
theorem dX12_steps_26 : decode cX12_steps 26 = .ok (.invokevirtual 123, 3) := by decide +kernel
theorem dX12_steps_29 : decode cX12_steps 29 = .ok (.bipush 10, 2) := by decide +kernel
theorem dX12_steps_31 : decode cX12_steps 31 = .ok (.if_icmp .ne 16, 3) := by decide +kernel
theorem dX12_steps_34 : decode cX12_steps 34 = .ok (.aload_n 0, 1) := by decide +kernel
theorem dX12_steps_35 : decode cX12_steps 35 = .ok (.dup, 1) := by decide +kernel
theorem dX12_steps_36 : decode cX12_steps 36 = .ok (.getfield 120, 3) := by decide +kernel
theorem dX12_steps_39 : decode cX12_steps 39 = .ok (.iconst 1, 1) := by decide +kernel
theorem dX12_steps_40 : decode cX12_steps 40 = .ok (.iadd, 1) := by decide +kernel
theorem dX12_steps_41 : decode cX12_steps 41 = .ok (.putfield 120, 3) := by decide +kernel
theorem dX12_steps_44 : decode cX12_steps 44 = .ok (.goto (-36), 3) := by decide +kernel
theorem dX12_steps_47 : decode cX12_steps 47 = .ok (.aload_n 0, 1) := by decide +kernel
theorem dX12_steps_48 : decode cX12_steps 48 = .ok (.aload_n 0, 1) := by decide +kernel
theorem dX12_steps_49 : decode cX12_steps 49 = .ok (.getfield 120, 3) := by decide +kernel
theorem dX12_steps_52 : decode cX12_steps 52 = .ok (.invokevirtual 123, 3) := by decide +kernel
theorem dX12_steps_55 : decode cX12_steps 55 = .ok (.istore_n 1, 1) := by decide +kernel
theorem dX12_steps_56 : decode cX12_steps 56 = .ok (.aload_n 0, 1) := by decide +kernel
theorem dX12_steps_57 : decode cX12_steps 57 = .ok (.aload_n 0, 1) := by decide +kernel
theorem dX12_steps_58 : decode cX12_steps 58 = .ok (.getfield 120, 3) := by decide +kernel
theorem dX12_steps_61 : decode cX12_steps 61 = .ok (.iconst 1, 1) := by decide +kernel
theorem dX12_steps_62 : decode cX12_steps 62 = .ok (.iadd, 1) := by decide +kernel
theorem dX12_steps_63 : decode cX12_steps 63 = .ok (.putfield 117, 3) := by decide +kernel
theorem dX12_steps_66 : decode cX12_steps 66 = .ok (.aload_n 0, 1) := by decide +kernel
theorem dX12_steps_67 : decode cX12_steps 67 = .ok (.iconst 4, 1) := by decide +kernel
theorem dX12_steps_68 : decode cX12_steps 68 = .ok (.putfield 127, 3) := by decide +kernel
theorem dX12_steps_71 : decode cX12_steps 71 = .ok (.aload_n 0, 1) := by decide +kernel
theorem dX12_steps_72 : decode cX12_steps 72 = .ok (.iconst 0, 1) := by decide +kernel
theorem dX12_steps_73 : decode cX12_steps 73 = .ok (.putfield 130, 3) := by decide +kernel
theorem dX12_steps_76 : decode cX12_steps 76 = .ok (.aload_n 0, 1) := by decide +kernel
theorem dX12_steps_77 : decode cX12_steps 77 = .ok (.lconst 0, 1) := by decide +kernel
theorem dX12_steps_78 : decode cX12_steps 78 = .ok (.putfield 133, 3) := by decide +kernel
theorem dX12_steps_81 : decode cX12_steps 81 = .ok (.iload_n 1, 1) := by decide +kernel
theorem dX12_steps_82 : decode cX12_steps 82 = .ok (.iconst (-1), 1) := by decide +kernel
theorem dX12_steps_83 : decode cX12_steps 83 = .ok (.if_icmp .ne 19, 3) := by decide +kernel
theorem dX12_steps_86 : decode cX12_steps 86 = .ok (.aload_n 0, 1) := by decide +kernel
theorem dX12_steps_87 : decode cX12_steps 87 = .ok (.aload_n 0, 1) := by decide +kernel
theorem dX12_steps_88 : decode cX12_steps 88 = .ok (.getfield 120, 3) := by decide +kernel
theorem dX12_steps_91 : decode cX12_steps 91 = .ok (.putfield 117, 3) := by decide +kernel
theorem dX12_steps_94 : decode cX12_steps 94 = .ok (.aload_n 0, 1) := by decide +kernel
theorem dX12_steps_95 : decode cX12_steps 95 = .ok (.iconst 0, 1) := by decide +kernel
theorem dX12_steps_96 : decode cX12_steps 96 = .ok (.putfield 127, 3) := by decide +kernel
theorem dX12_steps_99 : decode cX12_steps 99 = .ok (.goto 294, 3) := by decide +kernel
theorem dX12_steps_102 : decode cX12_steps 102 = .ok (.iload_n 1, 1) := by decide +kernel
theorem dX12_steps_103 : decode cX12_steps 103 = .ok (.bipush 59, 2) := by decide +kernel
theorem dX12_steps_105 : decode cX12_steps 105 = .ok (.if_icmp .ne 11, 3) := by decide +kernel
theorem dX12_steps_108 : decode cX12_steps 108 = .ok (.aload_n 0, 1) := by decide +kernel
theorem dX12_steps_109 : decode cX12_steps 109 = .ok (.iconst 3, 1) := by decide +kernel
theorem dX12_steps_110 : decode cX12_steps 110 = .ok (.putfield 127, 3) := by decide +kernel
theorem dX12_steps_113 : decode cX12_steps 113 = .ok (.goto 280, 3) := by decide +kernel
theorem dX12_steps_116 : decode cX12_steps 116 = .ok (.iload_n 1, 1) := by decide +kernel
theorem dX12_steps_117 : decode cX12_steps 117 = .ok (.bipush 40, 2) := by decide +kernel
theorem dX12_steps_119 : decode cX12_steps 119 = .ok (.if_icmp .ne 11, 3) := by decide +kernel
theorem dX12_steps_122 : decode cX12_steps 122 = .ok (.aload_n 0, 1) := by decide +kernel
theorem dX12_steps_123 : decode cX12_steps 123 = .ok (.iconst 5, 1) := by decide +kernel
theorem dX12_steps_124 : decode cX12_steps 124 = .ok (.putfield 127, 3) := by decide +kernel
theorem dX12_steps_127 : decode cX12_steps 127 = .ok (.goto 266, 3) := by decide +kernel
theorem dX12_steps_130 : decode cX12_steps 130 = .ok (.iload_n 1, 1) := by decide +kernel
theorem dX12_steps_131 : decode cX12_steps 131 = .ok (.bipush 41, 2) := by decide +kernel
theorem dX12_steps_133 : decode cX12_steps 133 = .ok (.if_icmp .ne 12, 3) := by decide +kernel
theorem dX12_steps_136 : decode cX12_steps 136 = .ok (.aload_n 0, 1) := by decide +kernel
theorem dX12_steps_137 : decode cX12_steps 137 = .ok (.bipush 6, 2) := by decide +kernel
theorem dX12_steps_139 : decode cX12_steps 139 = .ok (.putfield 127, 3) := by decide +kernel
theorem dX12_steps_142 : decode cX12_steps 142 = .ok (.goto 251, 3) := by decide +kernel
theorem dX12_steps_145 : decode cX12_steps 145 = .ok (.iload_n 1, 1) := by decide +kernel
theorem dX12_steps_146 : decode cX12_steps 146 = .ok (.i2l, 1) := by decide +kernel
theorem dX12_steps_147 : decode cX12_steps 147 = .ok (.ldc2_w 137, 3) := by decide +kernel
theorem dX12_steps_150 : decode cX12_steps 150 = .ok (.ldc2_w 139, 3) := by decide +kernel
theorem dX12_steps_153 : decode cX12_steps 153 = .ok (.invokestatic 141, 3) := by decide +kernel
theorem dX12_steps_156 : decode cX12_steps 156 = .ok (.ifCond .eq 116, 3) := by decide +kernel
theorem dX12_steps_159 : decode cX12_steps 159 = .ok (.aload_n 0, 1) := by decide +kernel
theorem dX12_steps_160 : decode cX12_steps 160 = .ok (.aload_n 0, 1) := by decide +kernel
theorem dX12_steps_161 : decode cX12_steps 161 = .ok (.getfield 120, 3) := by decide +kernel
theorem dX12_steps_164 : decode cX12_steps 164 = .ok (.putfield 117, 3) := by decide +kernel
theorem dX12_steps_167 : decode cX12_steps 167 = .ok (.aload_n 0, 1) := by decide +kernel
theorem dX12_steps_168 : decode cX12_steps 168 = .ok (.aload_n 0, 1) := by decide +kernel
theorem dX12_steps_169 : decode cX12_steps 169 = .ok (.getfield 117, 3) := by decide +kernel
theorem dX12_steps_172 : decode cX12_steps 172 = .ok (.invokevirtual 123, 3) := by decide +kernel
theorem dX12_steps_175 : decode cX12_steps 175 = .ok (.i2l, 1) := by decide +kernel
theorem dX12_steps_176 : decode cX12_steps 176 = .ok (.ldc2_w 137, 3) := by decide +kernel
theorem dX12_steps_179 : decode cX12_steps 179 = .ok (.ldc2_w 139, 3) := by decide +kernel
theorem dX12_steps_182 : decode cX12_steps 182 = .ok (.invokestatic 141, 3) := by decide +kernel
theorem dX12_steps_185 : decode cX12_steps 185 = .ok (.ifCond .eq 61, 3) := by decide +kernel
theorem dX12_steps_188 : decode cX12_steps 188 = .ok (.aload_n 0, 1) := by decide +kernel
theorem dX12_steps_189 : decode cX12_steps 189 = .ok (.aload_n 0, 1) := by decide +kernel
theorem dX12_steps_190 : decode cX12_steps 190 = .ok (.getfield 117, 3) := by decide +kernel
theorem dX12_steps_193 : decode cX12_steps 193 = .ok (.aload_n 0, 1) := by decide +kernel
theorem dX12_steps_194 : decode cX12_steps 194 = .ok (.getfield 120, 3) := by decide +kernel
theorem dX12_steps_197 : decode cX12_steps 197 = .ok (.isub, 1) := by decide +kernel
theorem dX12_steps_198 : decode cX12_steps 198 = .ok (.bipush 6, 2) := by decide +kernel
theorem dX12_steps_200 : decode cX12_steps 200 = .ok (.if_icmp .ge 26, 3) := by decide +kernel
theorem dX12_steps_203 : decode cX12_steps 203 = .ok (.aload_n 0, 1) := by decide +kernel
theorem dX12_steps_204 : decode cX12_steps 204 = .ok (.getfield 133, 3) := by decide +kernel
theorem dX12_steps_207 : decode cX12_steps 207 = .ok (.iconst 5, 1) := by decide +kernel
theorem dX12_steps_208 : decode cX12_steps 208 = .ok (.lshl, 1) := by decide +kernel
theorem dX12_steps_209 : decode cX12_steps 209 = .ok (.aload_n 0, 1) := by decide +kernel
theorem dX12_steps_210 : decode cX12_steps 210 = .ok (.aload_n 0, 1) := by decide +kernel
theorem dX12_steps_211 : decode cX12_steps 211 = .ok (.getfield 117, 3) := by decide +kernel
theorem dX12_steps_214 : decode cX12_steps 214 = .ok (.invokevirtual 123, 3) := by decide +kernel
theorem dX12_steps_217 : decode cX12_steps 217 = .ok (.i2l, 1) := by decide +kernel
theorem dX12_steps_218 : decode cX12_steps 218 = .ok (.ldc2_w 145, 3) := by decide +kernel
theorem dX12_steps_221 : decode cX12_steps 221 = .ok (.lsub, 1) := by decide +kernel
theorem dX12_steps_222 : decode cX12_steps 222 = .ok (.lor, 1) := by decide +kernel
theorem dX12_steps_223 : decode cX12_steps 223 = .ok (.goto 7, 3) := by decide +kernel
theorem dX12_steps_226 : decode cX12_steps 226 = .ok (.aload_n 0, 1) := by decide +kernel
theorem dX12_steps_227 : decode cX12_steps 227 = .ok (.getfield 133, 3) := by decide +kernel
theorem dX12_steps_230 : decode cX12_steps 230 = .ok (.putfield 133, 3) := by decide +kernel
theorem dX12_steps_233 : decode cX12_steps 233 = .ok (.aload_n 0, 1) := by decide +kernel
theorem dX12_steps_234 : decode cX12_steps 234 = .ok (.dup, 1) := by decide +kernel
theorem dX12_steps_235 : decode cX12_steps 235 = .ok (.getfield 117, 3) := by decide +kernel
theorem dX12_steps_238 : decode cX12_steps 238 = .ok (.iconst 1, 1) := by decide +kernel
theorem dX12_steps_239 : decode cX12_steps 239 = .ok (.iadd, 1) := by decide +kernel
theorem dX12_steps_240 : decode cX12_steps 240 = .ok (.putfield 117, 3) := by decide +kernel
theorem dX12_steps_243 : decode cX12_steps 243 = .ok (.goto (-76), 3) := by decide +kernel
theorem dX12_steps_246 : decode cX12_steps 246 = .ok (.aload_n 0, 1) := by decide +kernel
theorem dX12_steps_247 : decode cX12_steps 247 = .ok (.aload_n 0, 1) := by decide +kernel
theorem dX12_steps_248 : decode cX12_steps 248 = .ok (.getfield 117, 3) := by decide +kernel
theorem dX12_steps_251 : decode cX12_steps 251 = .ok (.aload_n 0, 1) := by decide +kernel
theorem dX12_steps_252 : decode cX12_steps 252 = .ok (.getfield 120, 3) := by decide +kernel
theorem dX12_steps_255 : decode cX12_steps 255 = .ok (.isub, 1) := by decide +kernel
theorem dX12_steps_256 : decode cX12_steps 256 = .ok (.bipush 7, 2) := by decide +kernel
theorem dX12_steps_258 : decode cX12_steps 258 = .ok (.if_icmp .ge 7, 3) := by decide +kernel
theorem dX12_steps_261 : decode cX12_steps 261 = .ok (.iconst 1, 1) := by decide +kernel
theorem dX12_steps_262 : decode cX12_steps 262 = .ok (.goto 4, 3) := by decide +kernel
theorem dX12_steps_265 : decode cX12_steps 265 = .ok (.iconst 4, 1) := by decide +kernel
theorem dX12_steps_266 : decode cX12_steps 266 = .ok (.putfield 127, 3) := by decide +kernel
theorem dX12_steps_269 : decode cX12_steps 269 = .ok (.goto 124, 3) := by decide +kernel
theorem dX12_steps_272 : decode cX12_steps 272 = .ok (.iload_n 1, 1) := by decide +kernel
theorem dX12_steps_273 : decode cX12_steps 273 = .ok (.i2l, 1) := by decide +kernel
theorem dX12_steps_274 : decode cX12_steps 274 = .ok (.ldc2_w 147, 3) := by decide +kernel
theorem dX12_steps_277 : decode cX12_steps 277 = .ok (.ldc2_w 149, 3) := by decide +kernel
theorem dX12_steps_280 : decode cX12_steps 280 = .ok (.invokestatic 141, 3) := by decide +kernel
theorem dX12_steps_283 : decode cX12_steps 283 = .ok (.ifCond .eq 110, 3) := by decide +kernel
theorem dX12_steps_286 : decode cX12_steps 286 = .ok (.aload_n 0, 1) := by decide +kernel
theorem dX12_steps_287 : decode cX12_steps 287 = .ok (.aload_n 0, 1) := by decide +kernel
theorem dX12_steps_288 : decode cX12_steps 288 = .ok (.getfield 120, 3) := by decide +kernel
theorem dX12_steps_291 : decode cX12_steps 291 = .ok (.putfield 117, 3) := by decide +kernel
theorem dX12_steps_294 : decode cX12_steps 294 = .ok (.aload_n 0, 1) := by decide +kernel
theorem dX12_steps_295 : decode cX12_steps 295 = .ok (.aload_n 0, 1) := by decide +kernel
theorem dX12_steps_296 : decode cX12_steps 296 = .ok (.getfield 117, 3) := by decide +kernel
theorem dX12_steps_299 : decode cX12_steps 299 = .ok (.invokevirtual 123, 3) := by decide +kernel
theorem dX12_steps_302 : decode cX12_steps 302 = .ok (.i2l, 1) := by decide +kernel
theorem dX12_steps_303 : decode cX12_steps 303 = .ok (.ldc2_w 147, 3) := by decide +kernel
theorem dX12_steps_306 : decode cX12_steps 306 = .ok (.ldc2_w 149, 3) := by decide +kernel
theorem dX12_steps_309 : decode cX12_steps 309 = .ok (.invokestatic 141, 3) := by decide +kernel
theorem dX12_steps_312 : decode cX12_steps 312 = .ok (.ifCond .eq 59, 3) := by decide +kernel
theorem dX12_steps_315 : decode cX12_steps 315 = .ok (.aload_n 0, 1) := by decide +kernel
theorem dX12_steps_316 : decode cX12_steps 316 = .ok (.aload_n 0, 1) := by decide +kernel
theorem dX12_steps_317 : decode cX12_steps 317 = .ok (.getfield 117, 3) := by decide +kernel
theorem dX12_steps_320 : decode cX12_steps 320 = .ok (.aload_n 0, 1) := by decide +kernel
theorem dX12_steps_321 : decode cX12_steps 321 = .ok (.getfield 120, 3) := by decide +kernel
theorem dX12_steps_324 : decode cX12_steps 324 = .ok (.isub, 1) := by decide +kernel
theorem dX12_steps_325 : decode cX12_steps 325 = .ok (.iconst 4, 1) := by decide +kernel
theorem dX12_steps_326 : decode cX12_steps 326 = .ok (.if_icmp .ge 25, 3) := by decide +kernel
theorem dX12_steps_329 : decode cX12_steps 329 = .ok (.bipush 10, 2) := by decide +kernel
theorem dX12_steps_331 : decode cX12_steps 331 = .ok (.aload_n 0, 1) := by decide +kernel
theorem dX12_steps_332 : decode cX12_steps 332 = .ok (.getfield 130, 3) := by decide +kernel
theorem dX12_steps_335 : decode cX12_steps 335 = .ok (.imul, 1) := by decide +kernel
theorem dX12_steps_336 : decode cX12_steps 336 = .ok (.aload_n 0, 1) := by decide +kernel
theorem dX12_steps_337 : decode cX12_steps 337 = .ok (.aload_n 0, 1) := by decide +kernel
theorem dX12_steps_338 : decode cX12_steps 338 = .ok (.getfield 117, 3) := by decide +kernel
theorem dX12_steps_341 : decode cX12_steps 341 = .ok (.invokevirtual 123, 3) := by decide +kernel
theorem dX12_steps_344 : decode cX12_steps 344 = .ok (.iadd, 1) := by decide +kernel
theorem dX12_steps_345 : decode cX12_steps 345 = .ok (.bipush 48, 2) := by decide +kernel
theorem dX12_steps_347 : decode cX12_steps 347 = .ok (.isub, 1) := by decide +kernel
theorem dX12_steps_348 : decode cX12_steps 348 = .ok (.goto 7, 3) := by decide +kernel
theorem dX12_steps_351 : decode cX12_steps 351 = .ok (.aload_n 0, 1) := by decide +kernel
theorem dX12_steps_352 : decode cX12_steps 352 = .ok (.getfield 130, 3) := by decide +kernel
theorem dX12_steps_355 : decode cX12_steps 355 = .ok (.putfield 130, 3) := by decide +kernel
theorem dX12_steps_358 : decode cX12_steps 358 = .ok (.aload_n 0, 1) := by decide +kernel
theorem dX12_steps_359 : decode cX12_steps 359 = .ok (.dup, 1) := by decide +kernel
theorem dX12_steps_360 : decode cX12_steps 360 = .ok (.getfield 117, 3) := by decide +kernel
theorem dX12_steps_363 : decode cX12_steps 363 = .ok (.iconst 1, 1) := by decide +kernel
theorem dX12_steps_364 : decode cX12_steps 364 = .ok (.iadd, 1) := by decide +kernel
theorem dX12_steps_365 : decode cX12_steps 365 = .ok (.putfield 117, 3) := by decide +kernel
theorem dX12_steps_368 : decode cX12_steps 368 = .ok (.goto (-74), 3) := by decide +kernel
theorem dX12_steps_371 : decode cX12_steps 371 = .ok (.aload_n 0, 1) := by decide +kernel
theorem dX12_steps_372 : decode cX12_steps 372 = .ok (.aload_n 0, 1) := by decide +kernel
theorem dX12_steps_373 : decode cX12_steps 373 = .ok (.getfield 117, 3) := by decide +kernel
theorem dX12_steps_376 : decode cX12_steps 376 = .ok (.aload_n 0, 1) := by decide +kernel
theorem dX12_steps_377 : decode cX12_steps 377 = .ok (.getfield 120, 3) := by decide +kernel
theorem dX12_steps_380 : decode cX12_steps 380 = .ok (.isub, 1) := by decide +kernel
theorem dX12_steps_381 : decode cX12_steps 381 = .ok (.iconst 5, 1) := by decide +kernel
theorem dX12_steps_382 : decode cX12_steps 382 = .ok (.if_icmp .ge 7, 3) := by decide +kernel
theorem dX12_steps_385 : decode cX12_steps 385 = .ok (.iconst 2, 1) := by decide +kernel
theorem dX12_steps_386 : decode cX12_steps 386 = .ok (.goto 4, 3) := by decide +kernel
theorem dX12_steps_389 : decode cX12_steps 389 = .ok (.iconst 4, 1) := by decide +kernel
theorem dX12_steps_390 : decode cX12_steps 390 = .ok (.putfield 127, 3) := by decide +kernel
theorem dX12_steps_393 : decode cX12_steps 393 = .ok (.return_, 1) := by decide +kernel
theorem dX12_must_0 : decode cX12_must 0 = .ok (.aload_n 0, 1) := by decide +kernel
theorem dX12_must_1 : decode cX12_must 1 = .ok (.getfield 151, 3) := by decide +kernel
theorem dX12_must_4 : decode cX12_must 4 = .ok (.ifCond .ne 20, 3) := by decide +kernel
theorem dX12_must_7 : decode cX12_must 7 = .ok (.iload_n 1, 1) := by decide +kernel
theorem dX12_must_8 : decode cX12_must 8 = .ok (.ifCond .ne 16, 3) := by decide +kernel
theorem dX12_must_11 : decode cX12_must 11 = .ok (.aload_n 0, 1) := by decide +kernel
theorem dX12_must_12 : decode cX12_must 12 = .ok (.iload_n 2, 1) := by decide +kernel
theorem dX12_must_13 : decode cX12_must 13 = .ok (.putfield 151, 3) := by decide +kernel
theorem dX12_must_16 : decode cX12_must 16 = .ok (.aload_n 0, 1) := by decide +kernel
theorem dX12_must_17 : decode cX12_must 17 = .ok (.aload_n 0, 1) := by decide +kernel
theorem dX12_must_18 : decode cX12_must 18 = .ok (.getfield 120, 3) := by decide +kernel
theorem dX12_must_21 : decode cX12_must 21 = .ok (.putfield 154, 3) := by decide +kernel
theorem dX12_must_24 : decode cX12_must 24 = .ok (.aload_n 0, 1) := by decide +kernel
theorem dX12_must_25 : decode cX12_must 25 = .ok (.getfield 151, 3) := by decide +kernel
theorem dX12_must_28 : decode cX12_must 28 = .ok (.ifCond .ne 7, 3) := by decide +kernel
theorem dX12_must_31 : decode cX12_must 31 = .ok (.iconst 1, 1) := by decide +kernel
theorem dX12_must_32 : decode cX12_must 32 = .ok (.goto 4, 3) := by decide +kernel
theorem dX12_must_35 : decode cX12_must 35 = .ok (.iconst 0, 1) := by decide +kernel
theorem dX12_must_36 : decode cX12_must 36 = .ok (.ireturn, 1) := by decide +kernel
theorem dX12_spelled_0 : decode cX12_spelled 0 = .ok (.lconst 0, 1) := by decide +kernel
theorem dX12_spelled_1 : decode cX12_spelled 1 = .ok (.lstore_n 1, 1) := by decide +kernel
theorem dX12_spelled_2 : decode cX12_spelled 2 = .ok (.iconst 0, 1) := by decide +kernel
theorem dX12_spelled_3 : decode cX12_spelled 3 = .ok (.istore_n 3, 1) := by decide +kernel
theorem dX12_spelled_4 : decode cX12_spelled 4 = .ok (.iload_n 3, 1) := by decide +kernel
theorem dX12_spelled_5 : decode cX12_spelled 5 = .ok (.aload_n 0, 1) := by decide +kernel
theorem dX12_spelled_6 : decode cX12_spelled 6 = .ok (.invokevirtual 157, 3) := by decide +kernel
theorem dX12_spelled_9 : decode cX12_spelled 9 = .ok (.if_icmp .ge 24, 3) := by decide +kernel
theorem dX12_spelled_12 : decode cX12_spelled 12 = .ok (.lload_n 1, 1) := by decide +kernel
theorem dX12_spelled_13 : decode cX12_spelled 13 = .ok (.iconst 5, 1) := by decide +kernel
theorem dX12_spelled_14 : decode cX12_spelled 14 = .ok (.lshl, 1) := by decide +kernel
theorem dX12_spelled_15 : decode cX12_spelled 15 = .ok (.aload_n 0, 1) := by decide +kernel
theorem dX12_spelled_16 : decode cX12_spelled 16 = .ok (.iload_n 3, 1) := by decide +kernel
theorem dX12_spelled_17 : decode cX12_spelled 17 = .ok (.invokevirtual 163, 3) := by decide +kernel
theorem dX12_spelled_20 : decode cX12_spelled 20 = .ok (.i2l, 1) := by decide +kernel
theorem dX12_spelled_21 : decode cX12_spelled 21 = .ok (.ldc2_w 145, 3) := by decide +kernel
theorem dX12_spelled_24 : decode cX12_spelled 24 = .ok (.lsub, 1) := by decide +kernel
theorem dX12_spelled_25 : decode cX12_spelled 25 = .ok (.lor, 1) := by decide +kernel
theorem dX12_spelled_26 : decode cX12_spelled 26 = .ok (.lstore_n 1, 1) := by decide +kernel
theorem dX12_spelled_27 : decode cX12_spelled 27 = .ok (.iinc 3 1, 3) := by decide +kernel
theorem dX12_spelled_30 : decode cX12_spelled 30 = .ok (.goto (-26), 3) := by decide +kernel
theorem dX12_spelled_33 : decode cX12_spelled 33 = .ok (.lload_n 1, 1) := by decide +kernel
theorem dX12_spelled_34 : decode cX12_spelled 34 = .ok (.lreturn, 1) := by decide +kernel
theorem dX12_is_0 : decode cX12_is 0 = .ok (.aload_n 0, 1) := by decide +kernel
theorem dX12_is_1 : decode cX12_is 1 = .ok (.getfield 127, 3) := by decide +kernel
theorem dX12_is_4 : decode cX12_is 4 = .ok (.iconst 1, 1) := by decide +kernel
theorem dX12_is_5 : decode cX12_is 5 = .ok (.if_icmp .ne 19, 3) := by decide +kernel
theorem dX12_is_8 : decode cX12_is 8 = .ok (.aload_n 0, 1) := by decide +kernel
theorem dX12_is_9 : decode cX12_is 9 = .ok (.getfield 133, 3) := by decide +kernel
theorem dX12_is_12 : decode cX12_is 12 = .ok (.aload_n 1, 1) := by decide +kernel
theorem dX12_is_13 : decode cX12_is 13 = .ok (.invokestatic 167, 3) := by decide +kernel
theorem dX12_is_16 : decode cX12_is 16 = .ok (.lcmp, 1) := by decide +kernel
theorem dX12_is_17 : decode cX12_is 17 = .ok (.ifCond .ne 7, 3) := by decide +kernel
theorem dX12_is_20 : decode cX12_is 20 = .ok (.iconst 1, 1) := by decide +kernel
theorem dX12_is_21 : decode cX12_is 21 = .ok (.goto 4, 3) := by decide +kernel
theorem dX12_is_24 : decode cX12_is 24 = .ok (.iconst 0, 1) := by decide +kernel
theorem dX12_is_25 : decode cX12_is 25 = .ok (.ireturn, 1) := by decide +kernel
theorem dX12_isName_0 : decode cX12_isName 0 = .ok (.aload_n 0, 1) := by decide +kernel
theorem dX12_isName_1 : decode cX12_isName 1 = .ok (.getfield 127, 3) := by decide +kernel
theorem dX12_isName_4 : decode cX12_isName 4 = .ok (.iconst 1, 1) := by decide +kernel
theorem dX12_isName_5 : decode cX12_isName 5 = .ok (.if_icmp .ne 25, 3) := by decide +kernel
theorem dX12_isName_8 : decode cX12_isName 8 = .ok (.aload_n 0, 1) := by decide +kernel
theorem dX12_isName_9 : decode cX12_isName 9 = .ok (.ldc 171, 2) := by decide +kernel
theorem dX12_isName_11 : decode cX12_isName 11 = .ok (.invokevirtual 173, 3) := by decide +kernel
theorem dX12_isName_14 : decode cX12_isName 14 = .ok (.ifCond .ne 16, 3) := by decide +kernel
theorem dX12_isName_17 : decode cX12_isName 17 = .ok (.aload_n 0, 1) := by decide +kernel
theorem dX12_isName_18 : decode cX12_isName 18 = .ok (.ldc 177, 2) := by decide +kernel
theorem dX12_isName_20 : decode cX12_isName 20 = .ok (.invokevirtual 173, 3) := by decide +kernel
theorem dX12_isName_23 : decode cX12_isName 23 = .ok (.ifCond .ne 7, 3) := by decide +kernel
theorem dX12_isName_26 : decode cX12_isName 26 = .ok (.iconst 1, 1) := by decide +kernel
theorem dX12_isName_27 : decode cX12_isName 27 = .ok (.goto 4, 3) := by decide +kernel
theorem dX12_isName_30 : decode cX12_isName 30 = .ok (.iconst 0, 1) := by decide +kernel
theorem dX12_isName_31 : decode cX12_isName 31 = .ok (.ireturn, 1) := by decide +kernel
theorem dX12_newName_0 : decode cX12_newName 0 = .ok (.iconst 0, 1) := by decide +kernel
theorem dX12_newName_1 : decode cX12_newName 1 = .ok (.istore_n 1, 1) := by decide +kernel
theorem dX12_newName_2 : decode cX12_newName 2 = .ok (.iconst 0, 1) := by decide +kernel
theorem dX12_newName_3 : decode cX12_newName 3 = .ok (.istore_n 2, 1) := by decide +kernel
theorem dX12_newName_4 : decode cX12_newName 4 = .ok (.iload_n 2, 1) := by decide +kernel
theorem dX12_newName_5 : decode cX12_newName 5 = .ok (.aload_n 0, 1) := by decide +kernel
theorem dX12_newName_6 : decode cX12_newName 6 = .ok (.getfield 179, 3) := by decide +kernel
theorem dX12_newName_9 : decode cX12_newName 9 = .ok (.if_icmp .ge 31, 3) := by decide +kernel
theorem dX12_newName_12 : decode cX12_newName 12 = .ok (.iload_n 1, 1) := by decide +kernel
theorem dX12_newName_13 : decode cX12_newName 13 = .ok (.aload_n 0, 1) := by decide +kernel
theorem dX12_newName_14 : decode cX12_newName 14 = .ok (.getfield 13, 3) := by decide +kernel
theorem dX12_newName_17 : decode cX12_newName 17 = .ok (.iload_n 2, 1) := by decide +kernel
theorem dX12_newName_18 : decode cX12_newName 18 = .ok (.laload, 1) := by decide +kernel
theorem dX12_newName_19 : decode cX12_newName 19 = .ok (.aload_n 0, 1) := by decide +kernel
theorem dX12_newName_20 : decode cX12_newName 20 = .ok (.getfield 133, 3) := by decide +kernel
theorem dX12_newName_23 : decode cX12_newName 23 = .ok (.lcmp, 1) := by decide +kernel
theorem dX12_newName_24 : decode cX12_newName 24 = .ok (.ifCond .ne 7, 3) := by decide +kernel
theorem dX12_newName_27 : decode cX12_newName 27 = .ok (.iconst 1, 1) := by decide +kernel
theorem dX12_newName_28 : decode cX12_newName 28 = .ok (.goto 4, 3) := by decide +kernel
theorem dX12_newName_31 : decode cX12_newName 31 = .ok (.iconst 0, 1) := by decide +kernel
theorem dX12_newName_32 : decode cX12_newName 32 = .ok (.ior, 1) := by decide +kernel
theorem dX12_newName_33 : decode cX12_newName 33 = .ok (.istore_n 1, 1) := by decide +kernel
theorem dX12_newName_34 : decode cX12_newName 34 = .ok (.iinc 2 1, 3) := by decide +kernel
theorem dX12_newName_37 : decode cX12_newName 37 = .ok (.goto (-33), 3) := by decide +kernel
theorem dX12_newName_40 : decode cX12_newName 40 = .ok (.aload_n 0, 1) := by decide +kernel
theorem dX12_newName_41 : decode cX12_newName 41 = .ok (.aload_n 0, 1) := by decide +kernel
theorem dX12_newName_42 : decode cX12_newName 42 = .ok (.invokevirtual 182, 3) := by decide +kernel
theorem dX12_newName_45 : decode cX12_newName 45 = .ok (.iconst 1, 1) := by decide +kernel
theorem dX12_newName_46 : decode cX12_newName 46 = .ok (.invokevirtual 186, 3) := by decide +kernel
theorem dX12_newName_49 : decode cX12_newName 49 = .ok (.ifCond .eq 20, 3) := by decide +kernel
theorem dX12_newName_52 : decode cX12_newName 52 = .ok (.aload_n 0, 1) := by decide +kernel
theorem dX12_newName_53 : decode cX12_newName 53 = .ok (.iload_n 1, 1) := by decide +kernel
theorem dX12_newName_54 : decode cX12_newName 54 = .ok (.ifCond .ne 7, 3) := by decide +kernel
theorem dX12_newName_57 : decode cX12_newName 57 = .ok (.iconst 1, 1) := by decide +kernel
theorem dX12_newName_58 : decode cX12_newName 58 = .ok (.goto 4, 3) := by decide +kernel
theorem dX12_newName_61 : decode cX12_newName 61 = .ok (.iconst 0, 1) := by decide +kernel
theorem dX12_newName_62 : decode cX12_newName 62 = .ok (.iconst 2, 1) := by decide +kernel
theorem dX12_newName_63 : decode cX12_newName 63 = .ok (.invokevirtual 186, 3) := by decide +kernel
theorem dX12_newName_66 : decode cX12_newName 66 = .ok (.ifCond .ne 5, 3) := by decide +kernel
theorem dX12_newName_69 : decode cX12_newName 69 = .ok (.iconst 0, 1) := by decide +kernel
theorem dX12_newName_70 : decode cX12_newName 70 = .ok (.ireturn, 1) := by decide +kernel
theorem dX12_newName_71 : decode cX12_newName 71 = .ok (.aload_n 0, 1) := by decide +kernel
theorem dX12_newName_72 : decode cX12_newName 72 = .ok (.getfield 13, 3) := by decide +kernel
theorem dX12_newName_75 : decode cX12_newName 75 = .ok (.aload_n 0, 1) := by decide +kernel
theorem dX12_newName_76 : decode cX12_newName 76 = .ok (.getfield 179, 3) := by decide +kernel
theorem dX12_newName_79 : decode cX12_newName 79 = .ok (.aload_n 0, 1) := by decide +kernel
theorem dX12_newName_80 : decode cX12_newName 80 = .ok (.getfield 133, 3) := by decide +kernel
theorem dX12_newName_83 : decode cX12_newName 83 = .ok (.lastore, 1) := by decide +kernel
theorem dX12_newName_84 : decode cX12_newName 84 = .ok (.aload_n 0, 1) := by decide +kernel
theorem dX12_newName_85 : decode cX12_newName 85 = .ok (.invokevirtual 190, 3) := by decide +kernel
theorem dX12_newName_88 : decode cX12_newName 88 = .ok (.iconst 1, 1) := by decide +kernel
theorem dX12_newName_89 : decode cX12_newName 89 = .ok (.ireturn, 1) := by decide +kernel
theorem dX12_groupHere_0 : decode cX12_groupHere 0 = .ok (.aload_n 0, 1) := by decide +kernel
theorem dX12_groupHere_1 : decode cX12_groupHere 1 = .ok (.aload_n 0, 1) := by decide +kernel
theorem dX12_groupHere_2 : decode cX12_groupHere 2 = .ok (.getfield 127, 3) := by decide +kernel
theorem dX12_groupHere_5 : decode cX12_groupHere 5 = .ok (.iconst 5, 1) := by decide +kernel
theorem dX12_groupHere_6 : decode cX12_groupHere 6 = .ok (.if_icmp .ne 7, 3) := by decide +kernel
theorem dX12_groupHere_9 : decode cX12_groupHere 9 = .ok (.iconst 1, 1) := by decide +kernel
theorem dX12_groupHere_10 : decode cX12_groupHere 10 = .ok (.goto 4, 3) := by decide +kernel
theorem dX12_groupHere_13 : decode cX12_groupHere 13 = .ok (.iconst 0, 1) := by decide +kernel
theorem dX12_groupHere_14 : decode cX12_groupHere 14 = .ok (.iconst 1, 1) := by decide +kernel
theorem dX12_groupHere_15 : decode cX12_groupHere 15 = .ok (.invokevirtual 186, 3) := by decide +kernel
theorem dX12_groupHere_18 : decode cX12_groupHere 18 = .ok (.ifCond .ne 5, 3) := by decide +kernel
theorem dX12_groupHere_21 : decode cX12_groupHere 21 = .ok (.iconst 0, 1) := by decide +kernel
theorem dX12_groupHere_22 : decode cX12_groupHere 22 = .ok (.ireturn, 1) := by decide +kernel
theorem dX12_groupHere_23 : decode cX12_groupHere 23 = .ok (.aload_n 0, 1) := by decide +kernel
theorem dX12_groupHere_24 : decode cX12_groupHere 24 = .ok (.invokevirtual 190, 3) := by decide +kernel
theorem dX12_groupHere_27 : decode cX12_groupHere 27 = .ok (.iconst 1, 1) := by decide +kernel
theorem dX12_groupHere_28 : decode cX12_groupHere 28 = .ok (.istore_n 1, 1) := by decide +kernel
theorem dX12_groupHere_29 : decode cX12_groupHere 29 = .ok (.aload_n 0, 1) := by decide +kernel
theorem dX12_groupHere_30 : decode cX12_groupHere 30 = .ok (.aload_n 0, 1) := by decide +kernel
theorem dX12_groupHere_31 : decode cX12_groupHere 31 = .ok (.getfield 127, 3) := by decide +kernel
theorem dX12_groupHere_34 : decode cX12_groupHere 34 = .ok (.iconst 2, 1) := by decide +kernel
theorem dX12_groupHere_35 : decode cX12_groupHere 35 = .ok (.if_icmp .ne 7, 3) := by decide +kernel
theorem dX12_groupHere_38 : decode cX12_groupHere 38 = .ok (.iconst 1, 1) := by decide +kernel
theorem dX12_groupHere_39 : decode cX12_groupHere 39 = .ok (.goto 4, 3) := by decide +kernel
theorem dX12_groupHere_42 : decode cX12_groupHere 42 = .ok (.iconst 0, 1) := by decide +kernel
theorem dX12_groupHere_43 : decode cX12_groupHere 43 = .ok (.iconst 1, 1) := by decide +kernel
theorem dX12_groupHere_44 : decode cX12_groupHere 44 = .ok (.invokevirtual 186, 3) := by decide +kernel
theorem dX12_groupHere_47 : decode cX12_groupHere 47 = .ok (.ifCond .eq 50, 3) := by decide +kernel
theorem dX12_groupHere_50 : decode cX12_groupHere 50 = .ok (.aload_n 0, 1) := by decide +kernel
theorem dX12_groupHere_51 : decode cX12_groupHere 51 = .ok (.aload_n 0, 1) := by decide +kernel
theorem dX12_groupHere_52 : decode cX12_groupHere 52 = .ok (.getfield 130, 3) := by decide +kernel
theorem dX12_groupHere_55 : decode cX12_groupHere 55 = .ok (.ifCond .le 7, 3) := by decide +kernel
theorem dX12_groupHere_58 : decode cX12_groupHere 58 = .ok (.iconst 1, 1) := by decide +kernel
theorem dX12_groupHere_59 : decode cX12_groupHere 59 = .ok (.goto 4, 3) := by decide +kernel
theorem dX12_groupHere_62 : decode cX12_groupHere 62 = .ok (.iconst 0, 1) := by decide +kernel
theorem dX12_groupHere_63 : decode cX12_groupHere 63 = .ok (.iconst 3, 1) := by decide +kernel
theorem dX12_groupHere_64 : decode cX12_groupHere 64 = .ok (.invokevirtual 186, 3) := by decide +kernel
theorem dX12_groupHere_67 : decode cX12_groupHere 67 = .ok (.ifCond .eq 30, 3) := by decide +kernel
theorem dX12_groupHere_70 : decode cX12_groupHere 70 = .ok (.aload_n 0, 1) := by decide +kernel
theorem dX12_groupHere_71 : decode cX12_groupHere 71 = .ok (.aload_n 0, 1) := by decide +kernel
theorem dX12_groupHere_72 : decode cX12_groupHere 72 = .ok (.getfield 21, 3) := by decide +kernel
theorem dX12_groupHere_75 : decode cX12_groupHere 75 = .ok (.aload_n 0, 1) := by decide +kernel
theorem dX12_groupHere_76 : decode cX12_groupHere 76 = .ok (.getfield 179, 3) := by decide +kernel
theorem dX12_groupHere_79 : decode cX12_groupHere 79 = .ok (.iaload, 1) := by decide +kernel
theorem dX12_groupHere_80 : decode cX12_groupHere 80 = .ok (.bipush 24, 2) := by decide +kernel
theorem dX12_groupHere_82 : decode cX12_groupHere 82 = .ok (.if_icmp .ge 7, 3) := by decide +kernel
theorem dX12_groupHere_85 : decode cX12_groupHere 85 = .ok (.iconst 1, 1) := by decide +kernel
theorem dX12_groupHere_86 : decode cX12_groupHere 86 = .ok (.goto 4, 3) := by decide +kernel
theorem dX12_groupHere_89 : decode cX12_groupHere 89 = .ok (.iconst 0, 1) := by decide +kernel
theorem dX12_groupHere_90 : decode cX12_groupHere 90 = .ok (.iconst 4, 1) := by decide +kernel
theorem dX12_groupHere_91 : decode cX12_groupHere 91 = .ok (.invokevirtual 186, 3) := by decide +kernel
theorem dX12_groupHere_94 : decode cX12_groupHere 94 = .ok (.ifCond .ne 5, 3) := by decide +kernel
theorem dX12_groupHere_97 : decode cX12_groupHere 97 = .ok (.iconst 0, 1) := by decide +kernel
theorem dX12_groupHere_98 : decode cX12_groupHere 98 = .ok (.ireturn, 1) := by decide +kernel
theorem dX12_groupHere_99 : decode cX12_groupHere 99 = .ok (.aload_n 0, 1) := by decide +kernel
theorem dX12_groupHere_100 : decode cX12_groupHere 100 = .ok (.getfield 27, 3) := by decide +kernel
theorem dX12_groupHere_103 : decode cX12_groupHere 103 = .ok (.bipush 29, 2) := by decide +kernel
theorem dX12_groupHere_105 : decode cX12_groupHere 105 = .ok (.aload_n 0, 1) := by decide +kernel
theorem dX12_groupHere_106 : decode cX12_groupHere 106 = .ok (.getfield 179, 3) := by decide +kernel
theorem dX12_groupHere_109 : decode cX12_groupHere 109 = .ok (.imul, 1) := by decide +kernel
theorem dX12_groupHere_110 : decode cX12_groupHere 110 = .ok (.aload_n 0, 1) := by decide +kernel
theorem dX12_groupHere_111 : decode cX12_groupHere 111 = .ok (.getfield 21, 3) := by decide +kernel
theorem dX12_groupHere_114 : decode cX12_groupHere 114 = .ok (.aload_n 0, 1) := by decide +kernel
theorem dX12_groupHere_115 : decode cX12_groupHere 115 = .ok (.getfield 179, 3) := by decide +kernel
theorem dX12_groupHere_118 : decode cX12_groupHere 118 = .ok (.iaload, 1) := by decide +kernel
theorem dX12_groupHere_119 : decode cX12_groupHere 119 = .ok (.iadd, 1) := by decide +kernel
theorem dX12_groupHere_120 : decode cX12_groupHere 120 = .ok (.iload_n 1, 1) := by decide +kernel
theorem dX12_groupHere_121 : decode cX12_groupHere 121 = .ok (.ifCond .eq 11, 3) := by decide +kernel
theorem dX12_groupHere_124 : decode cX12_groupHere 124 = .ok (.aload_n 0, 1) := by decide +kernel
theorem dX12_groupHere_125 : decode cX12_groupHere 125 = .ok (.getfield 130, 3) := by decide +kernel
theorem dX12_groupHere_128 : decode cX12_groupHere 128 = .ok (.ineg, 1) := by decide +kernel
theorem dX12_groupHere_129 : decode cX12_groupHere 129 = .ok (.goto 7, 3) := by decide +kernel
theorem dX12_groupHere_132 : decode cX12_groupHere 132 = .ok (.aload_n 0, 1) := by decide +kernel
theorem dX12_groupHere_133 : decode cX12_groupHere 133 = .ok (.getfield 130, 3) := by decide +kernel
theorem dX12_groupHere_136 : decode cX12_groupHere 136 = .ok (.iastore, 1) := by decide +kernel
theorem dX12_groupHere_137 : decode cX12_groupHere 137 = .ok (.aload_n 0, 1) := by decide +kernel
theorem dX12_groupHere_138 : decode cX12_groupHere 138 = .ok (.getfield 21, 3) := by decide +kernel
theorem dX12_groupHere_141 : decode cX12_groupHere 141 = .ok (.aload_n 0, 1) := by decide +kernel
theorem dX12_groupHere_142 : decode cX12_groupHere 142 = .ok (.getfield 179, 3) := by decide +kernel
theorem dX12_groupHere_145 : decode cX12_groupHere 145 = .ok (.dup2, 1) := by decide +kernel
theorem dX12_groupHere_146 : decode cX12_groupHere 146 = .ok (.iaload, 1) := by decide +kernel
theorem dX12_groupHere_147 : decode cX12_groupHere 147 = .ok (.iconst 1, 1) := by decide +kernel
theorem dX12_groupHere_148 : decode cX12_groupHere 148 = .ok (.iadd, 1) := by decide +kernel
theorem dX12_groupHere_149 : decode cX12_groupHere 149 = .ok (.iastore, 1) := by decide +kernel
theorem dX12_groupHere_150 : decode cX12_groupHere 150 = .ok (.iconst 0, 1) := by decide +kernel
theorem dX12_groupHere_151 : decode cX12_groupHere 151 = .ok (.istore_n 1, 1) := by decide +kernel
theorem dX12_groupHere_152 : decode cX12_groupHere 152 = .ok (.aload_n 0, 1) := by decide +kernel
theorem dX12_groupHere_153 : decode cX12_groupHere 153 = .ok (.invokevirtual 190, 3) := by decide +kernel
theorem dX12_groupHere_156 : decode cX12_groupHere 156 = .ok (.aload_n 0, 1) := by decide +kernel
theorem dX12_groupHere_157 : decode cX12_groupHere 157 = .ok (.getfield 127, 3) := by decide +kernel
theorem dX12_groupHere_160 : decode cX12_groupHere 160 = .ok (.bipush 6, 2) := by decide +kernel
theorem dX12_groupHere_162 : decode cX12_groupHere 162 = .ok (.if_icmp .ne (-133), 3) := by decide +kernel
theorem dX12_groupHere_165 : decode cX12_groupHere 165 = .ok (.aload_n 0, 1) := by decide +kernel
theorem dX12_groupHere_166 : decode cX12_groupHere 166 = .ok (.invokevirtual 190, 3) := by decide +kernel
theorem dX12_groupHere_169 : decode cX12_groupHere 169 = .ok (.iconst 1, 1) := by decide +kernel
theorem dX12_groupHere_170 : decode cX12_groupHere 170 = .ok (.ireturn, 1) := by decide +kernel
theorem dX12_drawnLine_0 : decode cX12_drawnLine 0 = .ok (.aload_n 0, 1) := by decide +kernel
theorem dX12_drawnLine_1 : decode cX12_drawnLine 1 = .ok (.invokevirtual 193, 3) := by decide +kernel
theorem dX12_drawnLine_4 : decode cX12_drawnLine 4 = .ok (.ifCond .ne 5, 3) := by decide +kernel
theorem dX12_drawnLine_7 : decode cX12_drawnLine 7 = .ok (.iconst 0, 1) := by decide +kernel
theorem dX12_drawnLine_8 : decode cX12_drawnLine 8 = .ok (.ireturn, 1) := by decide +kernel
theorem dX12_drawnLine_9 : decode cX12_drawnLine 9 = .ok (.aload_n 0, 1) := by decide +kernel
theorem dX12_drawnLine_10 : decode cX12_drawnLine 10 = .ok (.invokevirtual 196, 3) := by decide +kernel
theorem dX12_drawnLine_13 : decode cX12_drawnLine 13 = .ok (.ifCond .ne 5, 3) := by decide +kernel
theorem dX12_drawnLine_16 : decode cX12_drawnLine 16 = .ok (.iconst 0, 1) := by decide +kernel
theorem dX12_drawnLine_17 : decode cX12_drawnLine 17 = .ok (.ireturn, 1) := by decide +kernel
theorem dX12_drawnLine_18 : decode cX12_drawnLine 18 = .ok (.aload_n 0, 1) := by decide +kernel
theorem dX12_drawnLine_19 : decode cX12_drawnLine 19 = .ok (.getfield 127, 3) := by decide +kernel
theorem dX12_drawnLine_22 : decode cX12_drawnLine 22 = .ok (.iconst 5, 1) := by decide +kernel
theorem dX12_drawnLine_23 : decode cX12_drawnLine 23 = .ok (.if_icmp .eq (-14), 3) := by decide +kernel
theorem dX12_drawnLine_26 : decode cX12_drawnLine 26 = .ok (.iconst 1, 1) := by decide +kernel
theorem dX12_drawnLine_27 : decode cX12_drawnLine 27 = .ok (.ireturn, 1) := by decide +kernel
theorem dX12_netLine_0 : decode cX12_netLine 0 = .ok (.aload_n 0, 1) := by decide +kernel
theorem dX12_netLine_1 : decode cX12_netLine 1 = .ok (.invokevirtual 193, 3) := by decide +kernel
theorem dX12_netLine_4 : decode cX12_netLine 4 = .ok (.ifCond .ne 5, 3) := by decide +kernel
theorem dX12_netLine_7 : decode cX12_netLine 7 = .ok (.iconst 0, 1) := by decide +kernel
theorem dX12_netLine_8 : decode cX12_netLine 8 = .ok (.ireturn, 1) := by decide +kernel
theorem dX12_netLine_9 : decode cX12_netLine 9 = .ok (.aload_n 0, 1) := by decide +kernel
theorem dX12_netLine_10 : decode cX12_netLine 10 = .ok (.aload_n 0, 1) := by decide +kernel
theorem dX12_netLine_11 : decode cX12_netLine 11 = .ok (.getfield 127, 3) := by decide +kernel
theorem dX12_netLine_14 : decode cX12_netLine 14 = .ok (.iconst 2, 1) := by decide +kernel
theorem dX12_netLine_15 : decode cX12_netLine 15 = .ok (.if_icmp .ne 7, 3) := by decide +kernel
theorem dX12_netLine_18 : decode cX12_netLine 18 = .ok (.iconst 1, 1) := by decide +kernel
theorem dX12_netLine_19 : decode cX12_netLine 19 = .ok (.goto 4, 3) := by decide +kernel
theorem dX12_netLine_22 : decode cX12_netLine 22 = .ok (.iconst 0, 1) := by decide +kernel
theorem dX12_netLine_23 : decode cX12_netLine 23 = .ok (.iconst 1, 1) := by decide +kernel
theorem dX12_netLine_24 : decode cX12_netLine 24 = .ok (.invokevirtual 186, 3) := by decide +kernel
theorem dX12_netLine_27 : decode cX12_netLine 27 = .ok (.ifCond .eq 25, 3) := by decide +kernel
theorem dX12_netLine_30 : decode cX12_netLine 30 = .ok (.aload_n 0, 1) := by decide +kernel
theorem dX12_netLine_31 : decode cX12_netLine 31 = .ok (.aload_n 0, 1) := by decide +kernel
theorem dX12_netLine_32 : decode cX12_netLine 32 = .ok (.getfield 130, 3) := by decide +kernel
theorem dX12_netLine_35 : decode cX12_netLine 35 = .ok (.i2l, 1) := by decide +kernel
theorem dX12_netLine_36 : decode cX12_netLine 36 = .ok (.ldc2_w 199, 3) := by decide +kernel
theorem dX12_netLine_39 : decode cX12_netLine 39 = .ok (.ldc2_w 201, 3) := by decide +kernel
theorem dX12_netLine_42 : decode cX12_netLine 42 = .ok (.invokestatic 141, 3) := by decide +kernel
theorem dX12_netLine_45 : decode cX12_netLine 45 = .ok (.iconst 3, 1) := by decide +kernel
theorem dX12_netLine_46 : decode cX12_netLine 46 = .ok (.invokevirtual 186, 3) := by decide +kernel
theorem dX12_netLine_49 : decode cX12_netLine 49 = .ok (.ifCond .ne 5, 3) := by decide +kernel
theorem dX12_netLine_52 : decode cX12_netLine 52 = .ok (.iconst 0, 1) := by decide +kernel
theorem dX12_netLine_53 : decode cX12_netLine 53 = .ok (.ireturn, 1) := by decide +kernel
theorem dX12_netLine_54 : decode cX12_netLine 54 = .ok (.aload_n 0, 1) := by decide +kernel
theorem dX12_netLine_55 : decode cX12_netLine 55 = .ok (.getfield 24, 3) := by decide +kernel
theorem dX12_netLine_58 : decode cX12_netLine 58 = .ok (.aload_n 0, 1) := by decide +kernel
theorem dX12_netLine_59 : decode cX12_netLine 59 = .ok (.getfield 179, 3) := by decide +kernel
theorem dX12_netLine_62 : decode cX12_netLine 62 = .ok (.aload_n 0, 1) := by decide +kernel
theorem dX12_netLine_63 : decode cX12_netLine 63 = .ok (.getfield 130, 3) := by decide +kernel
theorem dX12_netLine_66 : decode cX12_netLine 66 = .ok (.iastore, 1) := by decide +kernel
theorem dX12_netLine_67 : decode cX12_netLine 67 = .ok (.aload_n 0, 1) := by decide +kernel
theorem dX12_netLine_68 : decode cX12_netLine 68 = .ok (.invokevirtual 190, 3) := by decide +kernel
theorem dX12_netLine_71 : decode cX12_netLine 71 = .ok (.aload_n 0, 1) := by decide +kernel
theorem dX12_netLine_72 : decode cX12_netLine 72 = .ok (.getfield 127, 3) := by decide +kernel
theorem dX12_netLine_75 : decode cX12_netLine 75 = .ok (.iconst 2, 1) := by decide +kernel
theorem dX12_netLine_76 : decode cX12_netLine 76 = .ok (.if_icmp .ne 201, 3) := by decide +kernel
theorem dX12_netLine_79 : decode cX12_netLine 79 = .ok (.aload_n 0, 1) := by decide +kernel
theorem dX12_netLine_80 : decode cX12_netLine 80 = .ok (.aload_n 0, 1) := by decide +kernel
theorem dX12_netLine_81 : decode cX12_netLine 81 = .ok (.getfield 130, 3) := by decide +kernel
theorem dX12_netLine_84 : decode cX12_netLine 84 = .ok (.aload_n 0, 1) := by decide +kernel
theorem dX12_netLine_85 : decode cX12_netLine 85 = .ok (.getfield 24, 3) := by decide +kernel
theorem dX12_netLine_88 : decode cX12_netLine 88 = .ok (.aload_n 0, 1) := by decide +kernel
theorem dX12_netLine_89 : decode cX12_netLine 89 = .ok (.getfield 179, 3) := by decide +kernel
theorem dX12_netLine_92 : decode cX12_netLine 92 = .ok (.iaload, 1) := by decide +kernel
theorem dX12_netLine_93 : decode cX12_netLine 93 = .ok (.if_icmp .ge 7, 3) := by decide +kernel
theorem dX12_netLine_96 : decode cX12_netLine 96 = .ok (.iconst 1, 1) := by decide +kernel
theorem dX12_netLine_97 : decode cX12_netLine 97 = .ok (.goto 4, 3) := by decide +kernel
theorem dX12_netLine_100 : decode cX12_netLine 100 = .ok (.iconst 0, 1) := by decide +kernel
theorem dX12_netLine_101 : decode cX12_netLine 101 = .ok (.iconst 3, 1) := by decide +kernel
theorem dX12_netLine_102 : decode cX12_netLine 102 = .ok (.invokevirtual 186, 3) := by decide +kernel
theorem dX12_netLine_105 : decode cX12_netLine 105 = .ok (.ifCond .eq 30, 3) := by decide +kernel
theorem dX12_netLine_108 : decode cX12_netLine 108 = .ok (.aload_n 0, 1) := by decide +kernel
theorem dX12_netLine_109 : decode cX12_netLine 109 = .ok (.aload_n 0, 1) := by decide +kernel
theorem dX12_netLine_110 : decode cX12_netLine 110 = .ok (.getfield 21, 3) := by decide +kernel
theorem dX12_netLine_113 : decode cX12_netLine 113 = .ok (.aload_n 0, 1) := by decide +kernel
theorem dX12_netLine_114 : decode cX12_netLine 114 = .ok (.getfield 179, 3) := by decide +kernel
theorem dX12_netLine_117 : decode cX12_netLine 117 = .ok (.iaload, 1) := by decide +kernel
theorem dX12_netLine_118 : decode cX12_netLine 118 = .ok (.bipush 28, 2) := by decide +kernel
theorem dX12_netLine_120 : decode cX12_netLine 120 = .ok (.if_icmp .ge 7, 3) := by decide +kernel
theorem dX12_netLine_123 : decode cX12_netLine 123 = .ok (.iconst 1, 1) := by decide +kernel
theorem dX12_netLine_124 : decode cX12_netLine 124 = .ok (.goto 4, 3) := by decide +kernel
theorem dX12_netLine_127 : decode cX12_netLine 127 = .ok (.iconst 0, 1) := by decide +kernel
theorem dX12_netLine_128 : decode cX12_netLine 128 = .ok (.iconst 4, 1) := by decide +kernel
theorem dX12_netLine_129 : decode cX12_netLine 129 = .ok (.invokevirtual 186, 3) := by decide +kernel
theorem dX12_netLine_132 : decode cX12_netLine 132 = .ok (.ifCond .ne 5, 3) := by decide +kernel
theorem dX12_netLine_135 : decode cX12_netLine 135 = .ok (.iconst 0, 1) := by decide +kernel
theorem dX12_netLine_136 : decode cX12_netLine 136 = .ok (.ireturn, 1) := by decide +kernel
theorem dX12_netLine_137 : decode cX12_netLine 137 = .ok (.aload_n 0, 1) := by decide +kernel
theorem dX12_netLine_138 : decode cX12_netLine 138 = .ok (.getfield 130, 3) := by decide +kernel
theorem dX12_netLine_141 : decode cX12_netLine 141 = .ok (.istore_n 1, 1) := by decide +kernel
theorem dX12_netLine_142 : decode cX12_netLine 142 = .ok (.aload_n 0, 1) := by decide +kernel
theorem dX12_netLine_143 : decode cX12_netLine 143 = .ok (.invokevirtual 190, 3) := by decide +kernel
theorem dX12_netLine_146 : decode cX12_netLine 146 = .ok (.aload_n 0, 1) := by decide +kernel
theorem dX12_netLine_147 : decode cX12_netLine 147 = .ok (.aload_n 0, 1) := by decide +kernel
theorem dX12_netLine_148 : decode cX12_netLine 148 = .ok (.getfield 127, 3) := by decide +kernel
theorem dX12_netLine_151 : decode cX12_netLine 151 = .ok (.iconst 2, 1) := by decide +kernel
theorem dX12_netLine_152 : decode cX12_netLine 152 = .ok (.if_icmp .ne 7, 3) := by decide +kernel
theorem dX12_netLine_155 : decode cX12_netLine 155 = .ok (.iconst 1, 1) := by decide +kernel
theorem dX12_netLine_156 : decode cX12_netLine 156 = .ok (.goto 4, 3) := by decide +kernel
theorem dX12_netLine_159 : decode cX12_netLine 159 = .ok (.iconst 0, 1) := by decide +kernel
theorem dX12_netLine_160 : decode cX12_netLine 160 = .ok (.iconst 1, 1) := by decide +kernel
theorem dX12_netLine_161 : decode cX12_netLine 161 = .ok (.invokevirtual 186, 3) := by decide +kernel
theorem dX12_netLine_164 : decode cX12_netLine 164 = .ok (.ifCond .eq 40, 3) := by decide +kernel
theorem dX12_netLine_167 : decode cX12_netLine 167 = .ok (.aload_n 0, 1) := by decide +kernel
theorem dX12_netLine_168 : decode cX12_netLine 168 = .ok (.aload_n 0, 1) := by decide +kernel
theorem dX12_netLine_169 : decode cX12_netLine 169 = .ok (.getfield 130, 3) := by decide +kernel
theorem dX12_netLine_172 : decode cX12_netLine 172 = .ok (.aload_n 0, 1) := by decide +kernel
theorem dX12_netLine_173 : decode cX12_netLine 173 = .ok (.getfield 24, 3) := by decide +kernel
theorem dX12_netLine_176 : decode cX12_netLine 176 = .ok (.aload_n 0, 1) := by decide +kernel
theorem dX12_netLine_177 : decode cX12_netLine 177 = .ok (.getfield 179, 3) := by decide +kernel
theorem dX12_netLine_180 : decode cX12_netLine 180 = .ok (.iaload, 1) := by decide +kernel
theorem dX12_netLine_181 : decode cX12_netLine 181 = .ok (.if_icmp .ge 15, 3) := by decide +kernel
theorem dX12_netLine_184 : decode cX12_netLine 184 = .ok (.aload_n 0, 1) := by decide +kernel
theorem dX12_netLine_185 : decode cX12_netLine 185 = .ok (.getfield 130, 3) := by decide +kernel
theorem dX12_netLine_188 : decode cX12_netLine 188 = .ok (.iload_n 1, 1) := by decide +kernel
theorem dX12_netLine_189 : decode cX12_netLine 189 = .ok (.if_icmp .eq 7, 3) := by decide +kernel
theorem dX12_netLine_192 : decode cX12_netLine 192 = .ok (.iconst 1, 1) := by decide +kernel
theorem dX12_netLine_193 : decode cX12_netLine 193 = .ok (.goto 4, 3) := by decide +kernel
theorem dX12_netLine_196 : decode cX12_netLine 196 = .ok (.iconst 0, 1) := by decide +kernel
theorem dX12_netLine_197 : decode cX12_netLine 197 = .ok (.iconst 3, 1) := by decide +kernel
theorem dX12_netLine_198 : decode cX12_netLine 198 = .ok (.invokevirtual 186, 3) := by decide +kernel
theorem dX12_netLine_201 : decode cX12_netLine 201 = .ok (.ifCond .ne 5, 3) := by decide +kernel
theorem dX12_netLine_204 : decode cX12_netLine 204 = .ok (.iconst 0, 1) := by decide +kernel
theorem dX12_netLine_205 : decode cX12_netLine 205 = .ok (.ireturn, 1) := by decide +kernel
theorem dX12_netLine_206 : decode cX12_netLine 206 = .ok (.aload_n 0, 1) := by decide +kernel
theorem dX12_netLine_207 : decode cX12_netLine 207 = .ok (.getfield 27, 3) := by decide +kernel
theorem dX12_netLine_210 : decode cX12_netLine 210 = .ok (.bipush 29, 2) := by decide +kernel
theorem dX12_netLine_212 : decode cX12_netLine 212 = .ok (.aload_n 0, 1) := by decide +kernel
theorem dX12_netLine_213 : decode cX12_netLine 213 = .ok (.getfield 179, 3) := by decide +kernel
theorem dX12_netLine_216 : decode cX12_netLine 216 = .ok (.imul, 1) := by decide +kernel
theorem dX12_netLine_217 : decode cX12_netLine 217 = .ok (.aload_n 0, 1) := by decide +kernel
theorem dX12_netLine_218 : decode cX12_netLine 218 = .ok (.getfield 21, 3) := by decide +kernel
theorem dX12_netLine_221 : decode cX12_netLine 221 = .ok (.aload_n 0, 1) := by decide +kernel
theorem dX12_netLine_222 : decode cX12_netLine 222 = .ok (.getfield 179, 3) := by decide +kernel
theorem dX12_netLine_225 : decode cX12_netLine 225 = .ok (.iaload, 1) := by decide +kernel
theorem dX12_netLine_226 : decode cX12_netLine 226 = .ok (.iadd, 1) := by decide +kernel
theorem dX12_netLine_227 : decode cX12_netLine 227 = .ok (.iload_n 1, 1) := by decide +kernel
theorem dX12_netLine_228 : decode cX12_netLine 228 = .ok (.iastore, 1) := by decide +kernel
theorem dX12_netLine_229 : decode cX12_netLine 229 = .ok (.aload_n 0, 1) := by decide +kernel
theorem dX12_netLine_230 : decode cX12_netLine 230 = .ok (.getfield 27, 3) := by decide +kernel
theorem dX12_netLine_233 : decode cX12_netLine 233 = .ok (.bipush 29, 2) := by decide +kernel
theorem dX12_netLine_235 : decode cX12_netLine 235 = .ok (.aload_n 0, 1) := by decide +kernel
theorem dX12_netLine_236 : decode cX12_netLine 236 = .ok (.getfield 179, 3) := by decide +kernel
theorem dX12_netLine_239 : decode cX12_netLine 239 = .ok (.imul, 1) := by decide +kernel
theorem dX12_netLine_240 : decode cX12_netLine 240 = .ok (.aload_n 0, 1) := by decide +kernel
theorem dX12_netLine_241 : decode cX12_netLine 241 = .ok (.getfield 21, 3) := by decide +kernel
theorem dX12_netLine_244 : decode cX12_netLine 244 = .ok (.aload_n 0, 1) := by decide +kernel
theorem dX12_netLine_245 : decode cX12_netLine 245 = .ok (.getfield 179, 3) := by decide +kernel
theorem dX12_netLine_248 : decode cX12_netLine 248 = .ok (.iaload, 1) := by decide +kernel
theorem dX12_netLine_249 : decode cX12_netLine 249 = .ok (.iadd, 1) := by decide +kernel
theorem dX12_netLine_250 : decode cX12_netLine 250 = .ok (.iconst 1, 1) := by decide +kernel
theorem dX12_netLine_251 : decode cX12_netLine 251 = .ok (.iadd, 1) := by decide +kernel
theorem dX12_netLine_252 : decode cX12_netLine 252 = .ok (.aload_n 0, 1) := by decide +kernel
theorem dX12_netLine_253 : decode cX12_netLine 253 = .ok (.getfield 130, 3) := by decide +kernel
theorem dX12_netLine_256 : decode cX12_netLine 256 = .ok (.iastore, 1) := by decide +kernel
theorem dX12_netLine_257 : decode cX12_netLine 257 = .ok (.aload_n 0, 1) := by decide +kernel
theorem dX12_netLine_258 : decode cX12_netLine 258 = .ok (.getfield 21, 3) := by decide +kernel
theorem dX12_netLine_261 : decode cX12_netLine 261 = .ok (.aload_n 0, 1) := by decide +kernel
theorem dX12_netLine_262 : decode cX12_netLine 262 = .ok (.getfield 179, 3) := by decide +kernel
theorem dX12_netLine_265 : decode cX12_netLine 265 = .ok (.dup2, 1) := by decide +kernel
theorem dX12_netLine_266 : decode cX12_netLine 266 = .ok (.iaload, 1) := by decide +kernel
theorem dX12_netLine_267 : decode cX12_netLine 267 = .ok (.iconst 2, 1) := by decide +kernel
theorem dX12_netLine_268 : decode cX12_netLine 268 = .ok (.iadd, 1) := by decide +kernel
theorem dX12_netLine_269 : decode cX12_netLine 269 = .ok (.iastore, 1) := by decide +kernel
theorem dX12_netLine_270 : decode cX12_netLine 270 = .ok (.aload_n 0, 1) := by decide +kernel
theorem dX12_netLine_271 : decode cX12_netLine 271 = .ok (.invokevirtual 190, 3) := by decide +kernel
theorem dX12_netLine_274 : decode cX12_netLine 274 = .ok (.goto (-203), 3) := by decide +kernel
theorem dX12_netLine_277 : decode cX12_netLine 277 = .ok (.iconst 1, 1) := by decide +kernel
theorem dX12_netLine_278 : decode cX12_netLine 278 = .ok (.ireturn, 1) := by decide +kernel
theorem dX12_lineHere_0 : decode cX12_lineHere 0 = .ok (.aload_n 0, 1) := by decide +kernel
theorem dX12_lineHere_1 : decode cX12_lineHere 1 = .ok (.ldc 171, 2) := by decide +kernel
theorem dX12_lineHere_3 : decode cX12_lineHere 3 = .ok (.invokevirtual 173, 3) := by decide +kernel
theorem dX12_lineHere_6 : decode cX12_lineHere 6 = .ok (.ifCond .eq 7, 3) := by decide +kernel
theorem dX12_lineHere_9 : decode cX12_lineHere 9 = .ok (.iconst 0, 1) := by decide +kernel
theorem dX12_lineHere_10 : decode cX12_lineHere 10 = .ok (.goto 17, 3) := by decide +kernel
theorem dX12_lineHere_13 : decode cX12_lineHere 13 = .ok (.aload_n 0, 1) := by decide +kernel
theorem dX12_lineHere_14 : decode cX12_lineHere 14 = .ok (.ldc 177, 2) := by decide +kernel
theorem dX12_lineHere_16 : decode cX12_lineHere 16 = .ok (.invokevirtual 173, 3) := by decide +kernel
theorem dX12_lineHere_19 : decode cX12_lineHere 19 = .ok (.ifCond .eq 7, 3) := by decide +kernel
theorem dX12_lineHere_22 : decode cX12_lineHere 22 = .ok (.iconst 1, 1) := by decide +kernel
theorem dX12_lineHere_23 : decode cX12_lineHere 23 = .ok (.goto 4, 3) := by decide +kernel
theorem dX12_lineHere_26 : decode cX12_lineHere 26 = .ok (.iconst (-1), 1) := by decide +kernel
theorem dX12_lineHere_27 : decode cX12_lineHere 27 = .ok (.istore_n 1, 1) := by decide +kernel
theorem dX12_lineHere_28 : decode cX12_lineHere 28 = .ok (.aload_n 0, 1) := by decide +kernel
theorem dX12_lineHere_29 : decode cX12_lineHere 29 = .ok (.iload_n 1, 1) := by decide +kernel
theorem dX12_lineHere_30 : decode cX12_lineHere 30 = .ok (.ifCond .lt 7, 3) := by decide +kernel
theorem dX12_lineHere_33 : decode cX12_lineHere 33 = .ok (.iconst 1, 1) := by decide +kernel
theorem dX12_lineHere_34 : decode cX12_lineHere 34 = .ok (.goto 4, 3) := by decide +kernel
theorem dX12_lineHere_37 : decode cX12_lineHere 37 = .ok (.iconst 0, 1) := by decide +kernel
theorem dX12_lineHere_38 : decode cX12_lineHere 38 = .ok (.iconst 1, 1) := by decide +kernel
theorem dX12_lineHere_39 : decode cX12_lineHere 39 = .ok (.invokevirtual 186, 3) := by decide +kernel
theorem dX12_lineHere_42 : decode cX12_lineHere 42 = .ok (.ifCond .eq 25, 3) := by decide +kernel
theorem dX12_lineHere_45 : decode cX12_lineHere 45 = .ok (.aload_n 0, 1) := by decide +kernel
theorem dX12_lineHere_46 : decode cX12_lineHere 46 = .ok (.aload_n 0, 1) := by decide +kernel
theorem dX12_lineHere_47 : decode cX12_lineHere 47 = .ok (.getfield 179, 3) := by decide +kernel
theorem dX12_lineHere_50 : decode cX12_lineHere 50 = .ok (.bipush 6, 2) := by decide +kernel
theorem dX12_lineHere_52 : decode cX12_lineHere 52 = .ok (.if_icmp .ge 7, 3) := by decide +kernel
theorem dX12_lineHere_55 : decode cX12_lineHere 55 = .ok (.iconst 1, 1) := by decide +kernel
theorem dX12_lineHere_56 : decode cX12_lineHere 56 = .ok (.goto 4, 3) := by decide +kernel
theorem dX12_lineHere_59 : decode cX12_lineHere 59 = .ok (.iconst 0, 1) := by decide +kernel
theorem dX12_lineHere_60 : decode cX12_lineHere 60 = .ok (.iconst 4, 1) := by decide +kernel
theorem dX12_lineHere_61 : decode cX12_lineHere 61 = .ok (.invokevirtual 186, 3) := by decide +kernel
theorem dX12_lineHere_64 : decode cX12_lineHere 64 = .ok (.ifCond .ne 5, 3) := by decide +kernel
theorem dX12_lineHere_67 : decode cX12_lineHere 67 = .ok (.iconst 0, 1) := by decide +kernel
theorem dX12_lineHere_68 : decode cX12_lineHere 68 = .ok (.ireturn, 1) := by decide +kernel
theorem dX12_lineHere_69 : decode cX12_lineHere 69 = .ok (.aload_n 0, 1) := by decide +kernel
theorem dX12_lineHere_70 : decode cX12_lineHere 70 = .ok (.invokevirtual 190, 3) := by decide +kernel
theorem dX12_lineHere_73 : decode cX12_lineHere 73 = .ok (.aload_n 0, 1) := by decide +kernel
theorem dX12_lineHere_74 : decode cX12_lineHere 74 = .ok (.getfield 17, 3) := by decide +kernel
theorem dX12_lineHere_77 : decode cX12_lineHere 77 = .ok (.aload_n 0, 1) := by decide +kernel
theorem dX12_lineHere_78 : decode cX12_lineHere 78 = .ok (.getfield 179, 3) := by decide +kernel
theorem dX12_lineHere_81 : decode cX12_lineHere 81 = .ok (.iload_n 1, 1) := by decide +kernel
theorem dX12_lineHere_82 : decode cX12_lineHere 82 = .ok (.iastore, 1) := by decide +kernel
theorem dX12_lineHere_83 : decode cX12_lineHere 83 = .ok (.aload_n 0, 1) := by decide +kernel
theorem dX12_lineHere_84 : decode cX12_lineHere 84 = .ok (.getfield 21, 3) := by decide +kernel
theorem dX12_lineHere_87 : decode cX12_lineHere 87 = .ok (.aload_n 0, 1) := by decide +kernel
theorem dX12_lineHere_88 : decode cX12_lineHere 88 = .ok (.getfield 179, 3) := by decide +kernel
theorem dX12_lineHere_91 : decode cX12_lineHere 91 = .ok (.iconst 0, 1) := by decide +kernel
theorem dX12_lineHere_92 : decode cX12_lineHere 92 = .ok (.iastore, 1) := by decide +kernel
theorem dX12_lineHere_93 : decode cX12_lineHere 93 = .ok (.iload_n 1, 1) := by decide +kernel
theorem dX12_lineHere_94 : decode cX12_lineHere 94 = .ok (.ifCond .ne 13, 3) := by decide +kernel
theorem dX12_lineHere_97 : decode cX12_lineHere 97 = .ok (.aload_n 0, 1) := by decide +kernel
theorem dX12_lineHere_98 : decode cX12_lineHere 98 = .ok (.invokevirtual 203, 3) := by decide +kernel
theorem dX12_lineHere_101 : decode cX12_lineHere 101 = .ok (.ifCond .eq 34, 3) := by decide +kernel
theorem dX12_lineHere_104 : decode cX12_lineHere 104 = .ok (.goto 10, 3) := by decide +kernel
theorem dX12_lineHere_107 : decode cX12_lineHere 107 = .ok (.aload_n 0, 1) := by decide +kernel
theorem dX12_lineHere_108 : decode cX12_lineHere 108 = .ok (.invokevirtual 206, 3) := by decide +kernel
theorem dX12_lineHere_111 : decode cX12_lineHere 111 = .ok (.ifCond .eq 24, 3) := by decide +kernel
theorem dX12_lineHere_114 : decode cX12_lineHere 114 = .ok (.aload_n 0, 1) := by decide +kernel
theorem dX12_lineHere_115 : decode cX12_lineHere 115 = .ok (.aload_n 0, 1) := by decide +kernel
theorem dX12_lineHere_116 : decode cX12_lineHere 116 = .ok (.getfield 127, 3) := by decide +kernel
theorem dX12_lineHere_119 : decode cX12_lineHere 119 = .ok (.iconst 3, 1) := by decide +kernel
theorem dX12_lineHere_120 : decode cX12_lineHere 120 = .ok (.if_icmp .ne 7, 3) := by decide +kernel
theorem dX12_lineHere_123 : decode cX12_lineHere 123 = .ok (.iconst 1, 1) := by decide +kernel
theorem dX12_lineHere_124 : decode cX12_lineHere 124 = .ok (.goto 4, 3) := by decide +kernel
theorem dX12_lineHere_127 : decode cX12_lineHere 127 = .ok (.iconst 0, 1) := by decide +kernel
theorem dX12_lineHere_128 : decode cX12_lineHere 128 = .ok (.iconst 1, 1) := by decide +kernel
theorem dX12_lineHere_129 : decode cX12_lineHere 129 = .ok (.invokevirtual 186, 3) := by decide +kernel
theorem dX12_lineHere_132 : decode cX12_lineHere 132 = .ok (.ifCond .ne 5, 3) := by decide +kernel
theorem dX12_lineHere_135 : decode cX12_lineHere 135 = .ok (.iconst 0, 1) := by decide +kernel
theorem dX12_lineHere_136 : decode cX12_lineHere 136 = .ok (.ireturn, 1) := by decide +kernel
theorem dX12_lineHere_137 : decode cX12_lineHere 137 = .ok (.aload_n 0, 1) := by decide +kernel
theorem dX12_lineHere_138 : decode cX12_lineHere 138 = .ok (.dup, 1) := by decide +kernel
theorem dX12_lineHere_139 : decode cX12_lineHere 139 = .ok (.getfield 179, 3) := by decide +kernel
theorem dX12_lineHere_142 : decode cX12_lineHere 142 = .ok (.iconst 1, 1) := by decide +kernel
theorem dX12_lineHere_143 : decode cX12_lineHere 143 = .ok (.iadd, 1) := by decide +kernel
theorem dX12_lineHere_144 : decode cX12_lineHere 144 = .ok (.putfield 179, 3) := by decide +kernel
theorem dX12_lineHere_147 : decode cX12_lineHere 147 = .ok (.aload_n 0, 1) := by decide +kernel
theorem dX12_lineHere_148 : decode cX12_lineHere 148 = .ok (.invokevirtual 190, 3) := by decide +kernel
theorem dX12_lineHere_151 : decode cX12_lineHere 151 = .ok (.iconst 1, 1) := by decide +kernel
theorem dX12_lineHere_152 : decode cX12_lineHere 152 = .ok (.ireturn, 1) := by decide +kernel
theorem dX12_of_0 : decode cX12_of 0 = .ok (.aload_n 0, 1) := by decide +kernel
theorem dX12_of_1 : decode cX12_of 1 = .ok (.getfield 30, 3) := by decide +kernel
theorem dX12_of_4 : decode cX12_of 4 = .ok (.bipush 124, 2) := by decide +kernel
theorem dX12_of_6 : decode cX12_of 6 = .ok (.iload_n 1, 1) := by decide +kernel
theorem dX12_of_7 : decode cX12_of 7 = .ok (.imul, 1) := by decide +kernel
theorem dX12_of_8 : decode cX12_of 8 = .ok (.iload_n 2, 1) := by decide +kernel
theorem dX12_of_9 : decode cX12_of 9 = .ok (.iadd, 1) := by decide +kernel
theorem dX12_of_10 : decode cX12_of 10 = .ok (.iaload, 1) := by decide +kernel
theorem dX12_of_11 : decode cX12_of 11 = .ok (.ireturn, 1) := by decide +kernel
theorem dX12_put_0 : decode cX12_put 0 = .ok (.aload_n 0, 1) := by decide +kernel
theorem dX12_put_1 : decode cX12_put 1 = .ok (.getfield 30, 3) := by decide +kernel
theorem dX12_put_4 : decode cX12_put 4 = .ok (.bipush 124, 2) := by decide +kernel
theorem dX12_put_6 : decode cX12_put 6 = .ok (.iload_n 1, 1) := by decide +kernel
theorem dX12_put_7 : decode cX12_put 7 = .ok (.imul, 1) := by decide +kernel
theorem dX12_put_8 : decode cX12_put 8 = .ok (.iload_n 2, 1) := by decide +kernel
theorem dX12_put_9 : decode cX12_put 9 = .ok (.iadd, 1) := by decide +kernel
theorem dX12_put_10 : decode cX12_put 10 = .ok (.iload_n 3, 1) := by decide +kernel
theorem dX12_put_11 : decode cX12_put 11 = .ok (.iastore, 1) := by decide +kernel
theorem dX12_put_12 : decode cX12_put 12 = .ok (.return_, 1) := by decide +kernel
theorem dX12_laysOutline_0 : decode cX12_laysOutline 0 = .ok (.aload_n 0, 1) := by decide +kernel
theorem dX12_laysOutline_1 : decode cX12_laysOutline 1 = .ok (.iload_n 1, 1) := by decide +kernel
theorem dX12_laysOutline_2 : decode cX12_laysOutline 2 = .ok (.putfield 209, 3) := by decide +kernel
theorem dX12_laysOutline_5 : decode cX12_laysOutline 5 = .ok (.aload_n 0, 1) := by decide +kernel
theorem dX12_laysOutline_6 : decode cX12_laysOutline 6 = .ok (.getfield 70, 3) := by decide +kernel
theorem dX12_laysOutline_9 : decode cX12_laysOutline 9 = .ok (.iconst 0, 1) := by decide +kernel
theorem dX12_laysOutline_10 : decode cX12_laysOutline 10 = .ok (.iconst 1, 1) := by decide +kernel
theorem dX12_laysOutline_11 : decode cX12_laysOutline 11 = .ok (.iastore, 1) := by decide +kernel
theorem dX12_laysOutline_12 : decode cX12_laysOutline 12 = .ok (.aload_n 0, 1) := by decide +kernel
theorem dX12_laysOutline_13 : decode cX12_laysOutline 13 = .ok (.getfield 73, 3) := by decide +kernel
theorem dX12_laysOutline_16 : decode cX12_laysOutline 16 = .ok (.iconst 0, 1) := by decide +kernel
theorem dX12_laysOutline_17 : decode cX12_laysOutline 17 = .ok (.iconst 0, 1) := by decide +kernel
theorem dX12_laysOutline_18 : decode cX12_laysOutline 18 = .ok (.iastore, 1) := by decide +kernel
theorem dX12_laysOutline_19 : decode cX12_laysOutline 19 = .ok (.aload_n 0, 1) := by decide +kernel
theorem dX12_laysOutline_20 : decode cX12_laysOutline 20 = .ok (.getfield 76, 3) := by decide +kernel
theorem dX12_laysOutline_23 : decode cX12_laysOutline 23 = .ok (.iconst 0, 1) := by decide +kernel
theorem dX12_laysOutline_24 : decode cX12_laysOutline 24 = .ok (.iconst 0, 1) := by decide +kernel
theorem dX12_laysOutline_25 : decode cX12_laysOutline 25 = .ok (.iastore, 1) := by decide +kernel
theorem dX12_laysOutline_26 : decode cX12_laysOutline 26 = .ok (.return_, 1) := by decide +kernel
theorem dX12_notchAt_0 : decode cX12_notchAt 0 = .ok (.iconst 0, 1) := by decide +kernel
theorem dX12_notchAt_1 : decode cX12_notchAt 1 = .ok (.istore_n 2, 1) := by decide +kernel
theorem dX12_notchAt_2 : decode cX12_notchAt 2 = .ok (.iconst 1, 1) := by decide +kernel
theorem dX12_notchAt_3 : decode cX12_notchAt 3 = .ok (.istore_n 3, 1) := by decide +kernel
theorem dX12_notchAt_4 : decode cX12_notchAt 4 = .ok (.iload_n 3, 1) := by decide +kernel
theorem dX12_notchAt_5 : decode cX12_notchAt 5 = .ok (.aload_n 0, 1) := by decide +kernel
theorem dX12_notchAt_6 : decode cX12_notchAt 6 = .ok (.getfield 70, 3) := by decide +kernel
theorem dX12_notchAt_9 : decode cX12_notchAt 9 = .ok (.iload_n 1, 1) := by decide +kernel
theorem dX12_notchAt_10 : decode cX12_notchAt 10 = .ok (.iaload, 1) := by decide +kernel
theorem dX12_notchAt_11 : decode cX12_notchAt 11 = .ok (.if_icmp .ge 36, 3) := by decide +kernel
theorem dX12_notchAt_14 : decode cX12_notchAt 14 = .ok (.aload_n 0, 1) := by decide +kernel
theorem dX12_notchAt_15 : decode cX12_notchAt 15 = .ok (.getfield 76, 3) := by decide +kernel
theorem dX12_notchAt_18 : decode cX12_notchAt 18 = .ok (.bipush 42, 2) := by decide +kernel
theorem dX12_notchAt_20 : decode cX12_notchAt 20 = .ok (.iload_n 1, 1) := by decide +kernel
theorem dX12_notchAt_21 : decode cX12_notchAt 21 = .ok (.imul, 1) := by decide +kernel
theorem dX12_notchAt_22 : decode cX12_notchAt 22 = .ok (.iload_n 3, 1) := by decide +kernel
theorem dX12_notchAt_23 : decode cX12_notchAt 23 = .ok (.iadd, 1) := by decide +kernel
theorem dX12_notchAt_24 : decode cX12_notchAt 24 = .ok (.iaload, 1) := by decide +kernel
theorem dX12_notchAt_25 : decode cX12_notchAt 25 = .ok (.aload_n 0, 1) := by decide +kernel
theorem dX12_notchAt_26 : decode cX12_notchAt 26 = .ok (.getfield 76, 3) := by decide +kernel
theorem dX12_notchAt_29 : decode cX12_notchAt 29 = .ok (.bipush 42, 2) := by decide +kernel
theorem dX12_notchAt_31 : decode cX12_notchAt 31 = .ok (.iload_n 1, 1) := by decide +kernel
theorem dX12_notchAt_32 : decode cX12_notchAt 32 = .ok (.imul, 1) := by decide +kernel
theorem dX12_notchAt_33 : decode cX12_notchAt 33 = .ok (.iload_n 2, 1) := by decide +kernel
theorem dX12_notchAt_34 : decode cX12_notchAt 34 = .ok (.iadd, 1) := by decide +kernel
theorem dX12_notchAt_35 : decode cX12_notchAt 35 = .ok (.iaload, 1) := by decide +kernel
theorem dX12_notchAt_36 : decode cX12_notchAt 36 = .ok (.if_icmp .ge 5, 3) := by decide +kernel
theorem dX12_notchAt_39 : decode cX12_notchAt 39 = .ok (.iload_n 3, 1) := by decide +kernel
theorem dX12_notchAt_40 : decode cX12_notchAt 40 = .ok (.istore_n 2, 1) := by decide +kernel
theorem dX12_notchAt_41 : decode cX12_notchAt 41 = .ok (.iinc 3 1, 3) := by decide +kernel
theorem dX12_notchAt_44 : decode cX12_notchAt 44 = .ok (.goto (-40), 3) := by decide +kernel
theorem dX12_notchAt_47 : decode cX12_notchAt 47 = .ok (.iload_n 2, 1) := by decide +kernel
theorem dX12_notchAt_48 : decode cX12_notchAt 48 = .ok (.ireturn, 1) := by decide +kernel
theorem dX12_endOf_0 : decode cX12_endOf 0 = .ok (.iload_n 2, 1) := by decide +kernel
theorem dX12_endOf_1 : decode cX12_endOf 1 = .ok (.iconst 1, 1) := by decide +kernel
theorem dX12_endOf_2 : decode cX12_endOf 2 = .ok (.iadd, 1) := by decide +kernel
theorem dX12_endOf_3 : decode cX12_endOf 3 = .ok (.aload_n 0, 1) := by decide +kernel
