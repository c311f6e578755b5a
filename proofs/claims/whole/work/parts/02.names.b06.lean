theorem dX12_turns_71 : decode cX12_turns 71 = .ok (.goto (-11), 3) := by decide +kernel
theorem dX12_turns_74 : decode cX12_turns 74 = .ok (.return_, 1) := by decide +kernel
theorem dX12_isThere_0 : decode cX12_isThere 0 = .ok (.iconst 0, 1) := by decide +kernel
theorem dX12_isThere_1 : decode cX12_isThere 1 = .ok (.istore_n 3, 1) := by decide +kernel
theorem dX12_isThere_2 : decode cX12_isThere 2 = .ok (.iload_n 3, 1) := by decide +kernel
theorem dX12_isThere_3 : decode cX12_isThere 3 = .ok (.aload_n 0, 1) := by decide +kernel
theorem dX12_isThere_4 : decode cX12_isThere 4 = .ok (.iload_n 1, 1) := by decide +kernel
theorem dX12_isThere_5 : decode cX12_isThere 5 = .ok (.iconst 0, 1) := by decide +kernel
theorem dX12_isThere_6 : decode cX12_isThere 6 = .ok (.invokevirtual 306, 3) := by decide +kernel
theorem dX12_isThere_9 : decode cX12_isThere 9 = .ok (.if_icmp .ge 151, 3) := by decide +kernel
theorem dX12_isThere_12 : decode cX12_isThere 12 = .ok (.aload_n 0, 1) := by decide +kernel
theorem dX12_isThere_13 : decode cX12_isThere 13 = .ok (.getfield 100, 3) := by decide +kernel
theorem dX12_isThere_16 : decode cX12_isThere 16 = .ok (.iconst 4, 1) := by decide +kernel
theorem dX12_isThere_17 : decode cX12_isThere 17 = .ok (.iload_n 2, 1) := by decide +kernel
theorem dX12_isThere_18 : decode cX12_isThere 18 = .ok (.iadd, 1) := by decide +kernel
theorem dX12_isThere_19 : decode cX12_isThere 19 = .ok (.iaload, 1) := by decide +kernel
theorem dX12_isThere_20 : decode cX12_isThere 20 = .ok (.i2l, 1) := by decide +kernel
theorem dX12_isThere_21 : decode cX12_isThere 21 = .ok (.aload_n 0, 1) := by decide +kernel
theorem dX12_isThere_22 : decode cX12_isThere 22 = .ok (.iload_n 1, 1) := by decide +kernel
theorem dX12_isThere_23 : decode cX12_isThere 23 = .ok (.iconst 1, 1) := by decide +kernel
theorem dX12_isThere_24 : decode cX12_isThere 24 = .ok (.invokevirtual 306, 3) := by decide +kernel
theorem dX12_isThere_27 : decode cX12_isThere 27 = .ok (.i2l, 1) := by decide +kernel
theorem dX12_isThere_28 : decode cX12_isThere 28 = .ok (.lmul, 1) := by decide +kernel
theorem dX12_isThere_29 : decode cX12_isThere 29 = .ok (.aload_n 0, 1) := by decide +kernel
theorem dX12_isThere_30 : decode cX12_isThere 30 = .ok (.iload_n 1, 1) := by decide +kernel
theorem dX12_isThere_31 : decode cX12_isThere 31 = .ok (.iconst 4, 1) := by decide +kernel
theorem dX12_isThere_32 : decode cX12_isThere 32 = .ok (.iload_n 3, 1) := by decide +kernel
theorem dX12_isThere_33 : decode cX12_isThere 33 = .ok (.iadd, 1) := by decide +kernel
theorem dX12_isThere_34 : decode cX12_isThere 34 = .ok (.invokevirtual 306, 3) := by decide +kernel
theorem dX12_isThere_37 : decode cX12_isThere 37 = .ok (.i2l, 1) := by decide +kernel
theorem dX12_isThere_38 : decode cX12_isThere 38 = .ok (.aload_n 0, 1) := by decide +kernel
theorem dX12_isThere_39 : decode cX12_isThere 39 = .ok (.getfield 100, 3) := by decide +kernel
theorem dX12_isThere_42 : decode cX12_isThere 42 = .ok (.iconst 1, 1) := by decide +kernel
theorem dX12_isThere_43 : decode cX12_isThere 43 = .ok (.iaload, 1) := by decide +kernel
theorem dX12_isThere_44 : decode cX12_isThere 44 = .ok (.i2l, 1) := by decide +kernel
theorem dX12_isThere_45 : decode cX12_isThere 45 = .ok (.lmul, 1) := by decide +kernel
theorem dX12_isThere_46 : decode cX12_isThere 46 = .ok (.lcmp, 1) := by decide +kernel
theorem dX12_isThere_47 : decode cX12_isThere 47 = .ok (.ifCond .ne 7, 3) := by decide +kernel
theorem dX12_isThere_50 : decode cX12_isThere 50 = .ok (.iconst 1, 1) := by decide +kernel
theorem dX12_isThere_51 : decode cX12_isThere 51 = .ok (.goto 4, 3) := by decide +kernel
theorem dX12_isThere_54 : decode cX12_isThere 54 = .ok (.iconst 0, 1) := by decide +kernel
theorem dX12_isThere_55 : decode cX12_isThere 55 = .ok (.istore 4, 2) := by decide +kernel
theorem dX12_isThere_57 : decode cX12_isThere 57 = .ok (.iload 4, 2) := by decide +kernel
theorem dX12_isThere_59 : decode cX12_isThere 59 = .ok (.aload_n 0, 1) := by decide +kernel
theorem dX12_isThere_60 : decode cX12_isThere 60 = .ok (.getfield 100, 3) := by decide +kernel
theorem dX12_isThere_63 : decode cX12_isThere 63 = .ok (.bipush 44, 2) := by decide +kernel
theorem dX12_isThere_65 : decode cX12_isThere 65 = .ok (.iload_n 2, 1) := by decide +kernel
theorem dX12_isThere_66 : decode cX12_isThere 66 = .ok (.iadd, 1) := by decide +kernel
theorem dX12_isThere_67 : decode cX12_isThere 67 = .ok (.iaload, 1) := by decide +kernel
theorem dX12_isThere_68 : decode cX12_isThere 68 = .ok (.i2l, 1) := by decide +kernel
theorem dX12_isThere_69 : decode cX12_isThere 69 = .ok (.aload_n 0, 1) := by decide +kernel
theorem dX12_isThere_70 : decode cX12_isThere 70 = .ok (.iload_n 1, 1) := by decide +kernel
theorem dX12_isThere_71 : decode cX12_isThere 71 = .ok (.iconst 1, 1) := by decide +kernel
theorem dX12_isThere_72 : decode cX12_isThere 72 = .ok (.invokevirtual 306, 3) := by decide +kernel
theorem dX12_isThere_75 : decode cX12_isThere 75 = .ok (.i2l, 1) := by decide +kernel
theorem dX12_isThere_76 : decode cX12_isThere 76 = .ok (.lmul, 1) := by decide +kernel
theorem dX12_isThere_77 : decode cX12_isThere 77 = .ok (.aload_n 0, 1) := by decide +kernel
theorem dX12_isThere_78 : decode cX12_isThere 78 = .ok (.iload_n 1, 1) := by decide +kernel
theorem dX12_isThere_79 : decode cX12_isThere 79 = .ok (.bipush 44, 2) := by decide +kernel
theorem dX12_isThere_81 : decode cX12_isThere 81 = .ok (.iload_n 3, 1) := by decide +kernel
theorem dX12_isThere_82 : decode cX12_isThere 82 = .ok (.iadd, 1) := by decide +kernel
theorem dX12_isThere_83 : decode cX12_isThere 83 = .ok (.invokevirtual 306, 3) := by decide +kernel
theorem dX12_isThere_86 : decode cX12_isThere 86 = .ok (.i2l, 1) := by decide +kernel
theorem dX12_isThere_87 : decode cX12_isThere 87 = .ok (.aload_n 0, 1) := by decide +kernel
theorem dX12_isThere_88 : decode cX12_isThere 88 = .ok (.getfield 100, 3) := by decide +kernel
theorem dX12_isThere_91 : decode cX12_isThere 91 = .ok (.iconst 1, 1) := by decide +kernel
theorem dX12_isThere_92 : decode cX12_isThere 92 = .ok (.iaload, 1) := by decide +kernel
theorem dX12_isThere_93 : decode cX12_isThere 93 = .ok (.i2l, 1) := by decide +kernel
theorem dX12_isThere_94 : decode cX12_isThere 94 = .ok (.lmul, 1) := by decide +kernel
theorem dX12_isThere_95 : decode cX12_isThere 95 = .ok (.lcmp, 1) := by decide +kernel
theorem dX12_isThere_96 : decode cX12_isThere 96 = .ok (.ifCond .ne 7, 3) := by decide +kernel
theorem dX12_isThere_99 : decode cX12_isThere 99 = .ok (.iconst 1, 1) := by decide +kernel
theorem dX12_isThere_100 : decode cX12_isThere 100 = .ok (.goto 4, 3) := by decide +kernel
theorem dX12_isThere_103 : decode cX12_isThere 103 = .ok (.iconst 0, 1) := by decide +kernel
theorem dX12_isThere_104 : decode cX12_isThere 104 = .ok (.iand, 1) := by decide +kernel
theorem dX12_isThere_105 : decode cX12_isThere 105 = .ok (.istore 4, 2) := by decide +kernel
theorem dX12_isThere_107 : decode cX12_isThere 107 = .ok (.iload 4, 2) := by decide +kernel
theorem dX12_isThere_109 : decode cX12_isThere 109 = .ok (.ifCond .eq 45, 3) := by decide +kernel
theorem dX12_isThere_112 : decode cX12_isThere 112 = .ok (.aload_n 0, 1) := by decide +kernel
theorem dX12_isThere_113 : decode cX12_isThere 113 = .ok (.getfield 100, 3) := by decide +kernel
theorem dX12_isThere_116 : decode cX12_isThere 116 = .ok (.bipush 84, 2) := by decide +kernel
theorem dX12_isThere_118 : decode cX12_isThere 118 = .ok (.iload_n 2, 1) := by decide +kernel
theorem dX12_isThere_119 : decode cX12_isThere 119 = .ok (.iadd, 1) := by decide +kernel
theorem dX12_isThere_120 : decode cX12_isThere 120 = .ok (.iaload, 1) := by decide +kernel
theorem dX12_isThere_121 : decode cX12_isThere 121 = .ok (.i2l, 1) := by decide +kernel
theorem dX12_isThere_122 : decode cX12_isThere 122 = .ok (.aload_n 0, 1) := by decide +kernel
theorem dX12_isThere_123 : decode cX12_isThere 123 = .ok (.iload_n 1, 1) := by decide +kernel
theorem dX12_isThere_124 : decode cX12_isThere 124 = .ok (.iconst 1, 1) := by decide +kernel
theorem dX12_isThere_125 : decode cX12_isThere 125 = .ok (.invokevirtual 306, 3) := by decide +kernel
theorem dX12_isThere_128 : decode cX12_isThere 128 = .ok (.i2l, 1) := by decide +kernel
theorem dX12_isThere_129 : decode cX12_isThere 129 = .ok (.lmul, 1) := by decide +kernel
theorem dX12_isThere_130 : decode cX12_isThere 130 = .ok (.aload_n 0, 1) := by decide +kernel
theorem dX12_isThere_131 : decode cX12_isThere 131 = .ok (.iload_n 1, 1) := by decide +kernel
theorem dX12_isThere_132 : decode cX12_isThere 132 = .ok (.bipush 84, 2) := by decide +kernel
theorem dX12_isThere_134 : decode cX12_isThere 134 = .ok (.iload_n 3, 1) := by decide +kernel
theorem dX12_isThere_135 : decode cX12_isThere 135 = .ok (.iadd, 1) := by decide +kernel
theorem dX12_isThere_136 : decode cX12_isThere 136 = .ok (.invokevirtual 306, 3) := by decide +kernel
theorem dX12_isThere_139 : decode cX12_isThere 139 = .ok (.i2l, 1) := by decide +kernel
theorem dX12_isThere_140 : decode cX12_isThere 140 = .ok (.aload_n 0, 1) := by decide +kernel
theorem dX12_isThere_141 : decode cX12_isThere 141 = .ok (.getfield 100, 3) := by decide +kernel
theorem dX12_isThere_144 : decode cX12_isThere 144 = .ok (.iconst 1, 1) := by decide +kernel
theorem dX12_isThere_145 : decode cX12_isThere 145 = .ok (.iaload, 1) := by decide +kernel
theorem dX12_isThere_146 : decode cX12_isThere 146 = .ok (.i2l, 1) := by decide +kernel
theorem dX12_isThere_147 : decode cX12_isThere 147 = .ok (.lmul, 1) := by decide +kernel
theorem dX12_isThere_148 : decode cX12_isThere 148 = .ok (.lcmp, 1) := by decide +kernel
theorem dX12_isThere_149 : decode cX12_isThere 149 = .ok (.ifCond .ne 5, 3) := by decide +kernel
theorem dX12_isThere_152 : decode cX12_isThere 152 = .ok (.iconst 1, 1) := by decide +kernel
theorem dX12_isThere_153 : decode cX12_isThere 153 = .ok (.ireturn, 1) := by decide +kernel
theorem dX12_isThere_154 : decode cX12_isThere 154 = .ok (.iinc 3 1, 3) := by decide +kernel
theorem dX12_isThere_157 : decode cX12_isThere 157 = .ok (.goto (-155), 3) := by decide +kernel
theorem dX12_isThere_160 : decode cX12_isThere 160 = .ok (.iconst 0, 1) := by decide +kernel
theorem dX12_isThere_161 : decode cX12_isThere 161 = .ok (.ireturn, 1) := by decide +kernel
theorem dX12_areAlike_0 : decode cX12_areAlike 0 = .ok (.aload_n 0, 1) := by decide +kernel
theorem dX12_areAlike_1 : decode cX12_areAlike 1 = .ok (.getfield 100, 3) := by decide +kernel
theorem dX12_areAlike_4 : decode cX12_areAlike 4 = .ok (.iconst 0, 1) := by decide +kernel
theorem dX12_areAlike_5 : decode cX12_areAlike 5 = .ok (.iaload, 1) := by decide +kernel
theorem dX12_areAlike_6 : decode cX12_areAlike 6 = .ok (.aload_n 0, 1) := by decide +kernel
theorem dX12_areAlike_7 : decode cX12_areAlike 7 = .ok (.iload_n 1, 1) := by decide +kernel
theorem dX12_areAlike_8 : decode cX12_areAlike 8 = .ok (.iconst 0, 1) := by decide +kernel
theorem dX12_areAlike_9 : decode cX12_areAlike 9 = .ok (.invokevirtual 306, 3) := by decide +kernel
theorem dX12_areAlike_12 : decode cX12_areAlike 12 = .ok (.if_icmp .ne 37, 3) := by decide +kernel
theorem dX12_areAlike_15 : decode cX12_areAlike 15 = .ok (.aload_n 0, 1) := by decide +kernel
theorem dX12_areAlike_16 : decode cX12_areAlike 16 = .ok (.getfield 100, 3) := by decide +kernel
theorem dX12_areAlike_19 : decode cX12_areAlike 19 = .ok (.iconst 2, 1) := by decide +kernel
theorem dX12_areAlike_20 : decode cX12_areAlike 20 = .ok (.iaload, 1) := by decide +kernel
theorem dX12_areAlike_21 : decode cX12_areAlike 21 = .ok (.i2l, 1) := by decide +kernel
theorem dX12_areAlike_22 : decode cX12_areAlike 22 = .ok (.aload_n 0, 1) := by decide +kernel
theorem dX12_areAlike_23 : decode cX12_areAlike 23 = .ok (.iload_n 1, 1) := by decide +kernel
theorem dX12_areAlike_24 : decode cX12_areAlike 24 = .ok (.iconst 1, 1) := by decide +kernel
theorem dX12_areAlike_25 : decode cX12_areAlike 25 = .ok (.invokevirtual 306, 3) := by decide +kernel
theorem dX12_areAlike_28 : decode cX12_areAlike 28 = .ok (.i2l, 1) := by decide +kernel
theorem dX12_areAlike_29 : decode cX12_areAlike 29 = .ok (.lmul, 1) := by decide +kernel
theorem dX12_areAlike_30 : decode cX12_areAlike 30 = .ok (.aload_n 0, 1) := by decide +kernel
theorem dX12_areAlike_31 : decode cX12_areAlike 31 = .ok (.iload_n 1, 1) := by decide +kernel
theorem dX12_areAlike_32 : decode cX12_areAlike 32 = .ok (.iconst 2, 1) := by decide +kernel
theorem dX12_areAlike_33 : decode cX12_areAlike 33 = .ok (.invokevirtual 306, 3) := by decide +kernel
theorem dX12_areAlike_36 : decode cX12_areAlike 36 = .ok (.i2l, 1) := by decide +kernel
theorem dX12_areAlike_37 : decode cX12_areAlike 37 = .ok (.aload_n 0, 1) := by decide +kernel
theorem dX12_areAlike_38 : decode cX12_areAlike 38 = .ok (.getfield 100, 3) := by decide +kernel
theorem dX12_areAlike_41 : decode cX12_areAlike 41 = .ok (.iconst 1, 1) := by decide +kernel
theorem dX12_areAlike_42 : decode cX12_areAlike 42 = .ok (.iaload, 1) := by decide +kernel
theorem dX12_areAlike_43 : decode cX12_areAlike 43 = .ok (.i2l, 1) := by decide +kernel
theorem dX12_areAlike_44 : decode cX12_areAlike 44 = .ok (.lmul, 1) := by decide +kernel
theorem dX12_areAlike_45 : decode cX12_areAlike 45 = .ok (.lcmp, 1) := by decide +kernel
theorem dX12_areAlike_46 : decode cX12_areAlike 46 = .ok (.ifCond .eq 5, 3) := by decide +kernel
theorem dX12_areAlike_49 : decode cX12_areAlike 49 = .ok (.iconst 0, 1) := by decide +kernel
theorem dX12_areAlike_50 : decode cX12_areAlike 50 = .ok (.ireturn, 1) := by decide +kernel
theorem dX12_areAlike_51 : decode cX12_areAlike 51 = .ok (.iconst 0, 1) := by decide +kernel
theorem dX12_areAlike_52 : decode cX12_areAlike 52 = .ok (.istore_n 2, 1) := by decide +kernel
theorem dX12_areAlike_53 : decode cX12_areAlike 53 = .ok (.iload_n 2, 1) := by decide +kernel
theorem dX12_areAlike_54 : decode cX12_areAlike 54 = .ok (.aload_n 0, 1) := by decide +kernel
theorem dX12_areAlike_55 : decode cX12_areAlike 55 = .ok (.getfield 100, 3) := by decide +kernel
theorem dX12_areAlike_58 : decode cX12_areAlike 58 = .ok (.iconst 0, 1) := by decide +kernel
theorem dX12_areAlike_59 : decode cX12_areAlike 59 = .ok (.iaload, 1) := by decide +kernel
theorem dX12_areAlike_60 : decode cX12_areAlike 60 = .ok (.if_icmp .ge 20, 3) := by decide +kernel
theorem dX12_areAlike_63 : decode cX12_areAlike 63 = .ok (.aload_n 0, 1) := by decide +kernel
theorem dX12_areAlike_64 : decode cX12_areAlike 64 = .ok (.iload_n 1, 1) := by decide +kernel
theorem dX12_areAlike_65 : decode cX12_areAlike 65 = .ok (.iload_n 2, 1) := by decide +kernel
theorem dX12_areAlike_66 : decode cX12_areAlike 66 = .ok (.invokevirtual 377, 3) := by decide +kernel
theorem dX12_areAlike_69 : decode cX12_areAlike 69 = .ok (.ifCond .ne 5, 3) := by decide +kernel
theorem dX12_areAlike_72 : decode cX12_areAlike 72 = .ok (.iconst 0, 1) := by decide +kernel
theorem dX12_areAlike_73 : decode cX12_areAlike 73 = .ok (.ireturn, 1) := by decide +kernel
theorem dX12_areAlike_74 : decode cX12_areAlike 74 = .ok (.iinc 2 1, 3) := by decide +kernel
theorem dX12_areAlike_77 : decode cX12_areAlike 77 = .ok (.goto (-24), 3) := by decide +kernel
theorem dX12_areAlike_80 : decode cX12_areAlike 80 = .ok (.iconst 1, 1) := by decide +kernel
theorem dX12_areAlike_81 : decode cX12_areAlike 81 = .ok (.ireturn, 1) := by decide +kernel
theorem dX12_alike_0 : decode cX12_alike 0 = .ok (.aload_n 0, 1) := by decide +kernel
theorem dX12_alike_1 : decode cX12_alike 1 = .ok (.iconst 0, 1) := by decide +kernel
theorem dX12_alike_2 : decode cX12_alike 2 = .ok (.putfield 103, 3) := by decide +kernel
theorem dX12_alike_5 : decode cX12_alike 5 = .ok (.aload_n 0, 1) := by decide +kernel
theorem dX12_alike_6 : decode cX12_alike 6 = .ok (.iload_n 1, 1) := by decide +kernel
theorem dX12_alike_7 : decode cX12_alike 7 = .ok (.invokevirtual 316, 3) := by decide +kernel
theorem dX12_alike_10 : decode cX12_alike 10 = .ok (.ifCond .eq 11, 3) := by decide +kernel
theorem dX12_alike_13 : decode cX12_alike 13 = .ok (.aload_n 0, 1) := by decide +kernel
theorem dX12_alike_14 : decode cX12_alike 14 = .ok (.iload_n 2, 1) := by decide +kernel
theorem dX12_alike_15 : decode cX12_alike 15 = .ok (.invokevirtual 316, 3) := by decide +kernel
theorem dX12_alike_18 : decode cX12_alike 18 = .ok (.ifCond .ne 5, 3) := by decide +kernel
theorem dX12_alike_21 : decode cX12_alike 21 = .ok (.iconst (-1), 1) := by decide +kernel
theorem dX12_alike_22 : decode cX12_alike 22 = .ok (.ireturn, 1) := by decide +kernel
theorem dX12_alike_23 : decode cX12_alike 23 = .ok (.aload_n 0, 1) := by decide +kernel
theorem dX12_alike_24 : decode cX12_alike 24 = .ok (.iload_n 1, 1) := by decide +kernel
theorem dX12_alike_25 : decode cX12_alike 25 = .ok (.invokevirtual 325, 3) := by decide +kernel
theorem dX12_alike_28 : decode cX12_alike 28 = .ok (.ifCond .ne 11, 3) := by decide +kernel
theorem dX12_alike_31 : decode cX12_alike 31 = .ok (.aload_n 0, 1) := by decide +kernel
theorem dX12_alike_32 : decode cX12_alike 32 = .ok (.iload_n 2, 1) := by decide +kernel
theorem dX12_alike_33 : decode cX12_alike 33 = .ok (.invokevirtual 325, 3) := by decide +kernel
theorem dX12_alike_36 : decode cX12_alike 36 = .ok (.ifCond .eq 5, 3) := by decide +kernel
theorem dX12_alike_39 : decode cX12_alike 39 = .ok (.iconst 0, 1) := by decide +kernel
theorem dX12_alike_40 : decode cX12_alike 40 = .ok (.ireturn, 1) := by decide +kernel
theorem dX12_alike_41 : decode cX12_alike 41 = .ok (.iconst 0, 1) := by decide +kernel
theorem dX12_alike_42 : decode cX12_alike 42 = .ok (.istore_n 3, 1) := by decide +kernel
theorem dX12_alike_43 : decode cX12_alike 43 = .ok (.iload_n 3, 1) := by decide +kernel
theorem dX12_alike_44 : decode cX12_alike 44 = .ok (.bipush 8, 2) := by decide +kernel
theorem dX12_alike_46 : decode cX12_alike 46 = .ok (.if_icmp .ge 29, 3) := by decide +kernel
theorem dX12_alike_49 : decode cX12_alike 49 = .ok (.aload_n 0, 1) := by decide +kernel
theorem dX12_alike_50 : decode cX12_alike 50 = .ok (.iload_n 1, 1) := by decide +kernel
theorem dX12_alike_51 : decode cX12_alike 51 = .ok (.invokevirtual 380, 3) := by decide +kernel
theorem dX12_alike_54 : decode cX12_alike 54 = .ok (.aload_n 0, 1) := by decide +kernel
theorem dX12_alike_55 : decode cX12_alike 55 = .ok (.iload_n 3, 1) := by decide +kernel
theorem dX12_alike_56 : decode cX12_alike 56 = .ok (.invokevirtual 383, 3) := by decide +kernel
theorem dX12_alike_59 : decode cX12_alike 59 = .ok (.aload_n 0, 1) := by decide +kernel
theorem dX12_alike_60 : decode cX12_alike 60 = .ok (.iload_n 2, 1) := by decide +kernel
theorem dX12_alike_61 : decode cX12_alike 61 = .ok (.invokevirtual 386, 3) := by decide +kernel
theorem dX12_alike_64 : decode cX12_alike 64 = .ok (.ifCond .eq 5, 3) := by decide +kernel
theorem dX12_alike_67 : decode cX12_alike 67 = .ok (.iconst 1, 1) := by decide +kernel
theorem dX12_alike_68 : decode cX12_alike 68 = .ok (.ireturn, 1) := by decide +kernel
theorem dX12_alike_69 : decode cX12_alike 69 = .ok (.iinc 3 1, 3) := by decide +kernel
theorem dX12_alike_72 : decode cX12_alike 72 = .ok (.goto (-29), 3) := by decide +kernel
theorem dX12_alike_75 : decode cX12_alike 75 = .ok (.iconst 0, 1) := by decide +kernel
theorem dX12_alike_76 : decode cX12_alike 76 = .ok (.ireturn, 1) := by decide +kernel
theorem dX12_isAhead_0 : decode cX12_isAhead 0 = .ok (.aload_n 0, 1) := by decide +kernel
theorem dX12_isAhead_1 : decode cX12_isAhead 1 = .ok (.getfield 100, 3) := by decide +kernel
theorem dX12_isAhead_4 : decode cX12_isAhead 4 = .ok (.bipush 44, 2) := by decide +kernel
theorem dX12_isAhead_6 : decode cX12_isAhead 6 = .ok (.iload_n 1, 1) := by decide +kernel
theorem dX12_isAhead_7 : decode cX12_isAhead 7 = .ok (.iadd, 1) := by decide +kernel
theorem dX12_isAhead_8 : decode cX12_isAhead 8 = .ok (.iaload, 1) := by decide +kernel
theorem dX12_isAhead_9 : decode cX12_isAhead 9 = .ok (.aload_n 0, 1) := by decide +kernel
theorem dX12_isAhead_10 : decode cX12_isAhead 10 = .ok (.getfield 100, 3) := by decide +kernel
theorem dX12_isAhead_13 : decode cX12_isAhead 13 = .ok (.bipush 44, 2) := by decide +kernel
theorem dX12_isAhead_15 : decode cX12_isAhead 15 = .ok (.iload_n 2, 1) := by decide +kernel
theorem dX12_isAhead_16 : decode cX12_isAhead 16 = .ok (.iadd, 1) := by decide +kernel
theorem dX12_isAhead_17 : decode cX12_isAhead 17 = .ok (.iaload, 1) := by decide +kernel
theorem dX12_isAhead_18 : decode cX12_isAhead 18 = .ok (.if_icmp .eq 32, 3) := by decide +kernel
theorem dX12_isAhead_21 : decode cX12_isAhead 21 = .ok (.aload_n 0, 1) := by decide +kernel
theorem dX12_isAhead_22 : decode cX12_isAhead 22 = .ok (.getfield 100, 3) := by decide +kernel
theorem dX12_isAhead_25 : decode cX12_isAhead 25 = .ok (.bipush 44, 2) := by decide +kernel
theorem dX12_isAhead_27 : decode cX12_isAhead 27 = .ok (.iload_n 1, 1) := by decide +kernel
theorem dX12_isAhead_28 : decode cX12_isAhead 28 = .ok (.iadd, 1) := by decide +kernel
theorem dX12_isAhead_29 : decode cX12_isAhead 29 = .ok (.iaload, 1) := by decide +kernel
theorem dX12_isAhead_30 : decode cX12_isAhead 30 = .ok (.aload_n 0, 1) := by decide +kernel
theorem dX12_isAhead_31 : decode cX12_isAhead 31 = .ok (.getfield 100, 3) := by decide +kernel
theorem dX12_isAhead_34 : decode cX12_isAhead 34 = .ok (.bipush 44, 2) := by decide +kernel
theorem dX12_isAhead_36 : decode cX12_isAhead 36 = .ok (.iload_n 2, 1) := by decide +kernel
theorem dX12_isAhead_37 : decode cX12_isAhead 37 = .ok (.iadd, 1) := by decide +kernel
theorem dX12_isAhead_38 : decode cX12_isAhead 38 = .ok (.iaload, 1) := by decide +kernel
theorem dX12_isAhead_39 : decode cX12_isAhead 39 = .ok (.if_icmp .ge 7, 3) := by decide +kernel
theorem dX12_isAhead_42 : decode cX12_isAhead 42 = .ok (.iconst 1, 1) := by decide +kernel
theorem dX12_isAhead_43 : decode cX12_isAhead 43 = .ok (.goto 31, 3) := by decide +kernel
theorem dX12_isAhead_46 : decode cX12_isAhead 46 = .ok (.iconst 0, 1) := by decide +kernel
theorem dX12_isAhead_47 : decode cX12_isAhead 47 = .ok (.goto 27, 3) := by decide +kernel
theorem dX12_isAhead_50 : decode cX12_isAhead 50 = .ok (.aload_n 0, 1) := by decide +kernel
theorem dX12_isAhead_51 : decode cX12_isAhead 51 = .ok (.getfield 100, 3) := by decide +kernel
theorem dX12_isAhead_54 : decode cX12_isAhead 54 = .ok (.iconst 4, 1) := by decide +kernel
theorem dX12_isAhead_55 : decode cX12_isAhead 55 = .ok (.iload_n 1, 1) := by decide +kernel
theorem dX12_isAhead_56 : decode cX12_isAhead 56 = .ok (.iadd, 1) := by decide +kernel
theorem dX12_isAhead_57 : decode cX12_isAhead 57 = .ok (.iaload, 1) := by decide +kernel
theorem dX12_isAhead_58 : decode cX12_isAhead 58 = .ok (.aload_n 0, 1) := by decide +kernel
theorem dX12_isAhead_59 : decode cX12_isAhead 59 = .ok (.getfield 100, 3) := by decide +kernel
theorem dX12_isAhead_62 : decode cX12_isAhead 62 = .ok (.iconst 4, 1) := by decide +kernel
theorem dX12_isAhead_63 : decode cX12_isAhead 63 = .ok (.iload_n 2, 1) := by decide +kernel
theorem dX12_isAhead_64 : decode cX12_isAhead 64 = .ok (.iadd, 1) := by decide +kernel
theorem dX12_isAhead_65 : decode cX12_isAhead 65 = .ok (.iaload, 1) := by decide +kernel
theorem dX12_isAhead_66 : decode cX12_isAhead 66 = .ok (.if_icmp .ge 7, 3) := by decide +kernel
theorem dX12_isAhead_69 : decode cX12_isAhead 69 = .ok (.iconst 1, 1) := by decide +kernel
theorem dX12_isAhead_70 : decode cX12_isAhead 70 = .ok (.goto 4, 3) := by decide +kernel
theorem dX12_isAhead_73 : decode cX12_isAhead 73 = .ok (.iconst 0, 1) := by decide +kernel
theorem dX12_isAhead_74 : decode cX12_isAhead 74 = .ok (.ireturn, 1) := by decide +kernel
theorem dX12_trades_0 : decode cX12_trades 0 = .ok (.iconst 4, 1) := by decide +kernel
theorem dX12_trades_1 : decode cX12_trades 1 = .ok (.istore_n 3, 1) := by decide +kernel
theorem dX12_trades_2 : decode cX12_trades 2 = .ok (.iload_n 3, 1) := by decide +kernel
theorem dX12_trades_3 : decode cX12_trades 3 = .ok (.bipush 84, 2) := by decide +kernel
theorem dX12_trades_5 : decode cX12_trades 5 = .ok (.if_icmp .gt 45, 3) := by decide +kernel
theorem dX12_trades_8 : decode cX12_trades 8 = .ok (.aload_n 0, 1) := by decide +kernel
theorem dX12_trades_9 : decode cX12_trades 9 = .ok (.getfield 100, 3) := by decide +kernel
theorem dX12_trades_12 : decode cX12_trades 12 = .ok (.iload_n 3, 1) := by decide +kernel
theorem dX12_trades_13 : decode cX12_trades 13 = .ok (.iload_n 1, 1) := by decide +kernel
theorem dX12_trades_14 : decode cX12_trades 14 = .ok (.iadd, 1) := by decide +kernel
theorem dX12_trades_15 : decode cX12_trades 15 = .ok (.iaload, 1) := by decide +kernel
theorem dX12_trades_16 : decode cX12_trades 16 = .ok (.istore 4, 2) := by decide +kernel
theorem dX12_trades_18 : decode cX12_trades 18 = .ok (.aload_n 0, 1) := by decide +kernel
theorem dX12_trades_19 : decode cX12_trades 19 = .ok (.getfield 100, 3) := by decide +kernel
theorem dX12_trades_22 : decode cX12_trades 22 = .ok (.iload_n 3, 1) := by decide +kernel
theorem dX12_trades_23 : decode cX12_trades 23 = .ok (.iload_n 1, 1) := by decide +kernel
theorem dX12_trades_24 : decode cX12_trades 24 = .ok (.iadd, 1) := by decide +kernel
theorem dX12_trades_25 : decode cX12_trades 25 = .ok (.aload_n 0, 1) := by decide +kernel
theorem dX12_trades_26 : decode cX12_trades 26 = .ok (.getfield 100, 3) := by decide +kernel
theorem dX12_trades_29 : decode cX12_trades 29 = .ok (.iload_n 3, 1) := by decide +kernel
theorem dX12_trades_30 : decode cX12_trades 30 = .ok (.iload_n 2, 1) := by decide +kernel
theorem dX12_trades_31 : decode cX12_trades 31 = .ok (.iadd, 1) := by decide +kernel
theorem dX12_trades_32 : decode cX12_trades 32 = .ok (.iaload, 1) := by decide +kernel
theorem dX12_trades_33 : decode cX12_trades 33 = .ok (.iastore, 1) := by decide +kernel
theorem dX12_trades_34 : decode cX12_trades 34 = .ok (.aload_n 0, 1) := by decide +kernel
theorem dX12_trades_35 : decode cX12_trades 35 = .ok (.getfield 100, 3) := by decide +kernel
theorem dX12_trades_38 : decode cX12_trades 38 = .ok (.iload_n 3, 1) := by decide +kernel
theorem dX12_trades_39 : decode cX12_trades 39 = .ok (.iload_n 2, 1) := by decide +kernel
theorem dX12_trades_40 : decode cX12_trades 40 = .ok (.iadd, 1) := by decide +kernel
theorem dX12_trades_41 : decode cX12_trades 41 = .ok (.iload 4, 2) := by decide +kernel
theorem dX12_trades_43 : decode cX12_trades 43 = .ok (.iastore, 1) := by decide +kernel
theorem dX12_trades_44 : decode cX12_trades 44 = .ok (.iinc 3 40, 3) := by decide +kernel
theorem dX12_trades_47 : decode cX12_trades 47 = .ok (.goto (-45), 3) := by decide +kernel
theorem dX12_trades_50 : decode cX12_trades 50 = .ok (.return_, 1) := by decide +kernel
theorem dX12_canMake_0 : decode cX12_canMake 0 = .ok (.aload_n 0, 1) := by decide +kernel
theorem dX12_canMake_1 : decode cX12_canMake 1 = .ok (.iload_n 1, 1) := by decide +kernel
theorem dX12_canMake_2 : decode cX12_canMake 2 = .ok (.invokevirtual 316, 3) := by decide +kernel
theorem dX12_canMake_5 : decode cX12_canMake 5 = .ok (.ifCond .eq 24, 3) := by decide +kernel
theorem dX12_canMake_8 : decode cX12_canMake 8 = .ok (.aload_n 0, 1) := by decide +kernel
theorem dX12_canMake_9 : decode cX12_canMake 9 = .ok (.iload_n 1, 1) := by decide +kernel
theorem dX12_canMake_10 : decode cX12_canMake 10 = .ok (.invokevirtual 325, 3) := by decide +kernel
theorem dX12_canMake_13 : decode cX12_canMake 13 = .ok (.ifCond .ne 16, 3) := by decide +kernel
theorem dX12_canMake_16 : decode cX12_canMake 16 = .ok (.aload_n 0, 1) := by decide +kernel
theorem dX12_canMake_17 : decode cX12_canMake 17 = .ok (.getfield 285, 3) := by decide +kernel
theorem dX12_canMake_20 : decode cX12_canMake 20 = .ok (.bipush 12, 2) := by decide +kernel
theorem dX12_canMake_22 : decode cX12_canMake 22 = .ok (.if_icmp .ge 7, 3) := by decide +kernel
theorem dX12_canMake_25 : decode cX12_canMake 25 = .ok (.iconst 1, 1) := by decide +kernel
theorem dX12_canMake_26 : decode cX12_canMake 26 = .ok (.goto 4, 3) := by decide +kernel
theorem dX12_canMake_29 : decode cX12_canMake 29 = .ok (.iconst 0, 1) := by decide +kernel
theorem dX12_canMake_30 : decode cX12_canMake 30 = .ok (.ireturn, 1) := by decide +kernel
theorem dX12_makes_0 : decode cX12_makes 0 = .ok (.iconst 1, 1) := by decide +kernel
theorem dX12_makes_1 : decode cX12_makes 1 = .ok (.istore_n 1, 1) := by decide +kernel
theorem dX12_makes_2 : decode cX12_makes 2 = .ok (.iload_n 1, 1) := by decide +kernel
theorem dX12_makes_3 : decode cX12_makes 3 = .ok (.aload_n 0, 1) := by decide +kernel
theorem dX12_makes_4 : decode cX12_makes 4 = .ok (.getfield 100, 3) := by decide +kernel
theorem dX12_makes_7 : decode cX12_makes 7 = .ok (.iconst 0, 1) := by decide +kernel
theorem dX12_makes_8 : decode cX12_makes 8 = .ok (.iaload, 1) := by decide +kernel
theorem dX12_makes_9 : decode cX12_makes 9 = .ok (.if_icmp .ge 40, 3) := by decide +kernel
theorem dX12_makes_12 : decode cX12_makes 12 = .ok (.iload_n 1, 1) := by decide +kernel
theorem dX12_makes_13 : decode cX12_makes 13 = .ok (.istore_n 2, 1) := by decide +kernel
theorem dX12_makes_14 : decode cX12_makes 14 = .ok (.iload_n 2, 1) := by decide +kernel
theorem dX12_makes_15 : decode cX12_makes 15 = .ok (.ifCond .le 28, 3) := by decide +kernel
theorem dX12_makes_18 : decode cX12_makes 18 = .ok (.aload_n 0, 1) := by decide +kernel
theorem dX12_makes_19 : decode cX12_makes 19 = .ok (.iload_n 2, 1) := by decide +kernel
theorem dX12_makes_20 : decode cX12_makes 20 = .ok (.iload_n 2, 1) := by decide +kernel
theorem dX12_makes_21 : decode cX12_makes 21 = .ok (.iconst 1, 1) := by decide +kernel
theorem dX12_makes_22 : decode cX12_makes 22 = .ok (.isub, 1) := by decide +kernel
theorem dX12_makes_23 : decode cX12_makes 23 = .ok (.invokevirtual 389, 3) := by decide +kernel
theorem dX12_makes_26 : decode cX12_makes 26 = .ok (.ifCond .eq 17, 3) := by decide +kernel
theorem dX12_makes_29 : decode cX12_makes 29 = .ok (.aload_n 0, 1) := by decide +kernel
theorem dX12_makes_30 : decode cX12_makes 30 = .ok (.iload_n 2, 1) := by decide +kernel
theorem dX12_makes_31 : decode cX12_makes 31 = .ok (.iload_n 2, 1) := by decide +kernel
theorem dX12_makes_32 : decode cX12_makes 32 = .ok (.iconst 1, 1) := by decide +kernel
theorem dX12_makes_33 : decode cX12_makes 33 = .ok (.isub, 1) := by decide +kernel
theorem dX12_makes_34 : decode cX12_makes 34 = .ok (.invokevirtual 392, 3) := by decide +kernel
theorem dX12_makes_37 : decode cX12_makes 37 = .ok (.iinc 2 (-1), 3) := by decide +kernel
theorem dX12_makes_40 : decode cX12_makes 40 = .ok (.goto (-26), 3) := by decide +kernel
theorem dX12_makes_43 : decode cX12_makes 43 = .ok (.iinc 1 1, 3) := by decide +kernel
theorem dX12_makes_46 : decode cX12_makes 46 = .ok (.goto (-44), 3) := by decide +kernel
theorem dX12_makes_49 : decode cX12_makes 49 = .ok (.iconst 0, 1) := by decide +kernel
theorem dX12_makes_50 : decode cX12_makes 50 = .ok (.istore_n 1, 1) := by decide +kernel
theorem dX12_makes_51 : decode cX12_makes 51 = .ok (.iload_n 1, 1) := by decide +kernel
theorem dX12_makes_52 : decode cX12_makes 52 = .ok (.bipush 124, 2) := by decide +kernel
theorem dX12_makes_54 : decode cX12_makes 54 = .ok (.if_icmp .ge 29, 3) := by decide +kernel
theorem dX12_makes_57 : decode cX12_makes 57 = .ok (.aload_n 0, 1) := by decide +kernel
theorem dX12_makes_58 : decode cX12_makes 58 = .ok (.getfield 30, 3) := by decide +kernel
theorem dX12_makes_61 : decode cX12_makes 61 = .ok (.bipush 124, 2) := by decide +kernel
theorem dX12_makes_63 : decode cX12_makes 63 = .ok (.aload_n 0, 1) := by decide +kernel
theorem dX12_makes_64 : decode cX12_makes 64 = .ok (.getfield 285, 3) := by decide +kernel
theorem dX12_makes_67 : decode cX12_makes 67 = .ok (.imul, 1) := by decide +kernel
theorem dX12_makes_68 : decode cX12_makes 68 = .ok (.iload_n 1, 1) := by decide +kernel
theorem dX12_makes_69 : decode cX12_makes 69 = .ok (.iadd, 1) := by decide +kernel
theorem dX12_makes_70 : decode cX12_makes 70 = .ok (.aload_n 0, 1) := by decide +kernel
theorem dX12_makes_71 : decode cX12_makes 71 = .ok (.getfield 100, 3) := by decide +kernel
theorem dX12_makes_74 : decode cX12_makes 74 = .ok (.iload_n 1, 1) := by decide +kernel
theorem dX12_makes_75 : decode cX12_makes 75 = .ok (.iaload, 1) := by decide +kernel
theorem dX12_makes_76 : decode cX12_makes 76 = .ok (.iastore, 1) := by decide +kernel
theorem dX12_makes_77 : decode cX12_makes 77 = .ok (.iinc 1 1, 3) := by decide +kernel
theorem dX12_makes_80 : decode cX12_makes 80 = .ok (.goto (-29), 3) := by decide +kernel
theorem dX12_makes_83 : decode cX12_makes 83 = .ok (.aload_n 0, 1) := by decide +kernel
theorem dX12_makes_84 : decode cX12_makes 84 = .ok (.dup, 1) := by decide +kernel
theorem dX12_makes_85 : decode cX12_makes 85 = .ok (.getfield 285, 3) := by decide +kernel
theorem dX12_makes_88 : decode cX12_makes 88 = .ok (.iconst 1, 1) := by decide +kernel
theorem dX12_makes_89 : decode cX12_makes 89 = .ok (.iadd, 1) := by decide +kernel
theorem dX12_makes_90 : decode cX12_makes 90 = .ok (.putfield 285, 3) := by decide +kernel
theorem dX12_makes_93 : decode cX12_makes 93 = .ok (.aload_n 0, 1) := by decide +kernel
theorem dX12_makes_94 : decode cX12_makes 94 = .ok (.aload_n 0, 1) := by decide +kernel
theorem dX12_makes_95 : decode cX12_makes 95 = .ok (.getfield 297, 3) := by decide +kernel
theorem dX12_makes_98 : decode cX12_makes 98 = .ok (.bipush 12, 2) := by decide +kernel
theorem dX12_makes_100 : decode cX12_makes 100 = .ok (.if_icmp .ge 12, 3) := by decide +kernel
theorem dX12_makes_103 : decode cX12_makes 103 = .ok (.aload_n 0, 1) := by decide +kernel
theorem dX12_makes_104 : decode cX12_makes 104 = .ok (.getfield 297, 3) := by decide +kernel
theorem dX12_makes_107 : decode cX12_makes 107 = .ok (.iconst 1, 1) := by decide +kernel
theorem dX12_makes_108 : decode cX12_makes 108 = .ok (.iadd, 1) := by decide +kernel
theorem dX12_makes_109 : decode cX12_makes 109 = .ok (.goto 7, 3) := by decide +kernel
theorem dX12_makes_112 : decode cX12_makes 112 = .ok (.aload_n 0, 1) := by decide +kernel
theorem dX12_makes_113 : decode cX12_makes 113 = .ok (.getfield 297, 3) := by decide +kernel
theorem dX12_makes_116 : decode cX12_makes 116 = .ok (.putfield 297, 3) := by decide +kernel
theorem dX12_makes_119 : decode cX12_makes 119 = .ok (.aload_n 0, 1) := by decide +kernel
theorem dX12_makes_120 : decode cX12_makes 120 = .ok (.getfield 285, 3) := by decide +kernel
theorem dX12_makes_123 : decode cX12_makes 123 = .ok (.iconst 1, 1) := by decide +kernel
theorem dX12_makes_124 : decode cX12_makes 124 = .ok (.isub, 1) := by decide +kernel
theorem dX12_makes_125 : decode cX12_makes 125 = .ok (.ireturn, 1) := by decide +kernel
theorem dX12_mayGrow_0 : decode cX12_mayGrow 0 = .ok (.aload_n 0, 1) := by decide +kernel
theorem dX12_mayGrow_1 : decode cX12_mayGrow 1 = .ok (.getfield 100, 3) := by decide +kernel
theorem dX12_mayGrow_4 : decode cX12_mayGrow 4 = .ok (.iconst 1, 1) := by decide +kernel
theorem dX12_mayGrow_5 : decode cX12_mayGrow 5 = .ok (.iaload, 1) := by decide +kernel
theorem dX12_mayGrow_6 : decode cX12_mayGrow 6 = .ok (.i2l, 1) := by decide +kernel
theorem dX12_mayGrow_7 : decode cX12_mayGrow 7 = .ok (.lload_n 1, 1) := by decide +kernel
theorem dX12_mayGrow_8 : decode cX12_mayGrow 8 = .ok (.lmul, 1) := by decide +kernel
theorem dX12_mayGrow_9 : decode cX12_mayGrow 9 = .ok (.ldc2_w 395, 3) := by decide +kernel
theorem dX12_mayGrow_12 : decode cX12_mayGrow 12 = .ok (.lcmp, 1) := by decide +kernel
theorem dX12_mayGrow_13 : decode cX12_mayGrow 13 = .ok (.ifCond .gt 23, 3) := by decide +kernel
theorem dX12_mayGrow_16 : decode cX12_mayGrow 16 = .ok (.aload_n 0, 1) := by decide +kernel
theorem dX12_mayGrow_17 : decode cX12_mayGrow 17 = .ok (.getfield 100, 3) := by decide +kernel
theorem dX12_mayGrow_20 : decode cX12_mayGrow 20 = .ok (.iconst 2, 1) := by decide +kernel
theorem dX12_mayGrow_21 : decode cX12_mayGrow 21 = .ok (.iaload, 1) := by decide +kernel
theorem dX12_mayGrow_22 : decode cX12_mayGrow 22 = .ok (.i2l, 1) := by decide +kernel
theorem dX12_mayGrow_23 : decode cX12_mayGrow 23 = .ok (.lload_n 1, 1) := by decide +kernel
theorem dX12_mayGrow_24 : decode cX12_mayGrow 24 = .ok (.lmul, 1) := by decide +kernel
theorem dX12_mayGrow_25 : decode cX12_mayGrow 25 = .ok (.ldc2_w 395, 3) := by decide +kernel
theorem dX12_mayGrow_28 : decode cX12_mayGrow 28 = .ok (.lcmp, 1) := by decide +kernel
theorem dX12_mayGrow_29 : decode cX12_mayGrow 29 = .ok (.ifCond .gt 7, 3) := by decide +kernel
theorem dX12_mayGrow_32 : decode cX12_mayGrow 32 = .ok (.iconst 1, 1) := by decide +kernel
theorem dX12_mayGrow_33 : decode cX12_mayGrow 33 = .ok (.goto 4, 3) := by decide +kernel
theorem dX12_mayGrow_36 : decode cX12_mayGrow 36 = .ok (.iconst 0, 1) := by decide +kernel
theorem dX12_mayGrow_37 : decode cX12_mayGrow 37 = .ok (.ireturn, 1) := by decide +kernel
theorem dX12_grows_0 : decode cX12_grows 0 = .ok (.aload_n 0, 1) := by decide +kernel
theorem dX12_grows_1 : decode cX12_grows 1 = .ok (.getfield 100, 3) := by decide +kernel
theorem dX12_grows_4 : decode cX12_grows 4 = .ok (.iconst 1, 1) := by decide +kernel
theorem dX12_grows_5 : decode cX12_grows 5 = .ok (.dup2, 1) := by decide +kernel
theorem dX12_grows_6 : decode cX12_grows 6 = .ok (.iaload, 1) := by decide +kernel
theorem dX12_grows_7 : decode cX12_grows 7 = .ok (.iload_n 1, 1) := by decide +kernel
theorem dX12_grows_8 : decode cX12_grows 8 = .ok (.imul, 1) := by decide +kernel
theorem dX12_grows_9 : decode cX12_grows 9 = .ok (.iastore, 1) := by decide +kernel
theorem dX12_grows_10 : decode cX12_grows 10 = .ok (.aload_n 0, 1) := by decide +kernel
theorem dX12_grows_11 : decode cX12_grows 11 = .ok (.getfield 100, 3) := by decide +kernel
theorem dX12_grows_14 : decode cX12_grows 14 = .ok (.iconst 2, 1) := by decide +kernel
theorem dX12_grows_15 : decode cX12_grows 15 = .ok (.dup2, 1) := by decide +kernel
theorem dX12_grows_16 : decode cX12_grows 16 = .ok (.iaload, 1) := by decide +kernel
theorem dX12_grows_17 : decode cX12_grows 17 = .ok (.iload_n 1, 1) := by decide +kernel
theorem dX12_grows_18 : decode cX12_grows 18 = .ok (.imul, 1) := by decide +kernel
theorem dX12_grows_19 : decode cX12_grows 19 = .ok (.iastore, 1) := by decide +kernel
theorem dX12_grows_20 : decode cX12_grows 20 = .ok (.iconst 0, 1) := by decide +kernel
theorem dX12_grows_21 : decode cX12_grows 21 = .ok (.istore_n 2, 1) := by decide +kernel
theorem dX12_grows_22 : decode cX12_grows 22 = .ok (.iload_n 2, 1) := by decide +kernel
theorem dX12_grows_23 : decode cX12_grows 23 = .ok (.aload_n 0, 1) := by decide +kernel
theorem dX12_grows_24 : decode cX12_grows 24 = .ok (.getfield 100, 3) := by decide +kernel
theorem dX12_grows_27 : decode cX12_grows 27 = .ok (.iconst 0, 1) := by decide +kernel
theorem dX12_grows_28 : decode cX12_grows 28 = .ok (.iaload, 1) := by decide +kernel
theorem dX12_grows_29 : decode cX12_grows 29 = .ok (.if_icmp .ge 47, 3) := by decide +kernel
theorem dX12_grows_32 : decode cX12_grows 32 = .ok (.aload_n 0, 1) := by decide +kernel
theorem dX12_grows_33 : decode cX12_grows 33 = .ok (.getfield 100, 3) := by decide +kernel
theorem dX12_grows_36 : decode cX12_grows 36 = .ok (.iconst 4, 1) := by decide +kernel
theorem dX12_grows_37 : decode cX12_grows 37 = .ok (.iload_n 2, 1) := by decide +kernel
theorem dX12_grows_38 : decode cX12_grows 38 = .ok (.iadd, 1) := by decide +kernel
theorem dX12_grows_39 : decode cX12_grows 39 = .ok (.dup2, 1) := by decide +kernel
theorem dX12_grows_40 : decode cX12_grows 40 = .ok (.iaload, 1) := by decide +kernel
theorem dX12_grows_41 : decode cX12_grows 41 = .ok (.iload_n 1, 1) := by decide +kernel
theorem dX12_grows_42 : decode cX12_grows 42 = .ok (.imul, 1) := by decide +kernel
theorem dX12_grows_43 : decode cX12_grows 43 = .ok (.iastore, 1) := by decide +kernel
theorem dX12_grows_44 : decode cX12_grows 44 = .ok (.aload_n 0, 1) := by decide +kernel
theorem dX12_grows_45 : decode cX12_grows 45 = .ok (.getfield 100, 3) := by decide +kernel
theorem dX12_grows_48 : decode cX12_grows 48 = .ok (.bipush 44, 2) := by decide +kernel
theorem dX12_grows_50 : decode cX12_grows 50 = .ok (.iload_n 2, 1) := by decide +kernel
theorem dX12_grows_51 : decode cX12_grows 51 = .ok (.iadd, 1) := by decide +kernel
theorem dX12_grows_52 : decode cX12_grows 52 = .ok (.dup2, 1) := by decide +kernel
theorem dX12_grows_53 : decode cX12_grows 53 = .ok (.iaload, 1) := by decide +kernel
theorem dX12_grows_54 : decode cX12_grows 54 = .ok (.iload_n 1, 1) := by decide +kernel
theorem dX12_grows_55 : decode cX12_grows 55 = .ok (.imul, 1) := by decide +kernel
theorem dX12_grows_56 : decode cX12_grows 56 = .ok (.iastore, 1) := by decide +kernel
theorem dX12_grows_57 : decode cX12_grows 57 = .ok (.aload_n 0, 1) := by decide +kernel
theorem dX12_grows_58 : decode cX12_grows 58 = .ok (.getfield 100, 3) := by decide +kernel
theorem dX12_grows_61 : decode cX12_grows 61 = .ok (.bipush 84, 2) := by decide +kernel
theorem dX12_grows_63 : decode cX12_grows 63 = .ok (.iload_n 2, 1) := by decide +kernel
theorem dX12_grows_64 : decode cX12_grows 64 = .ok (.iadd, 1) := by decide +kernel
theorem dX12_grows_65 : decode cX12_grows 65 = .ok (.dup2, 1) := by decide +kernel
theorem dX12_grows_66 : decode cX12_grows 66 = .ok (.iaload, 1) := by decide +kernel
theorem dX12_grows_67 : decode cX12_grows 67 = .ok (.iload_n 1, 1) := by decide +kernel
theorem dX12_grows_68 : decode cX12_grows 68 = .ok (.imul, 1) := by decide +kernel
theorem dX12_grows_69 : decode cX12_grows 69 = .ok (.iastore, 1) := by decide +kernel
theorem dX12_grows_70 : decode cX12_grows 70 = .ok (.iinc 2 1, 3) := by decide +kernel
theorem dX12_grows_73 : decode cX12_grows 73 = .ok (.goto (-51), 3) := by decide +kernel
theorem dX12_grows_76 : decode cX12_grows 76 = .ok (.return_, 1) := by decide +kernel
theorem dX12_join_0 : decode cX12_join 0 = .ok (.aload_n 0, 1) := by decide +kernel
theorem dX12_join_1 : decode cX12_join 1 = .ok (.iconst 0, 1) := by decide +kernel
theorem dX12_join_2 : decode cX12_join 2 = .ok (.putfield 103, 3) := by decide +kernel
theorem dX12_join_5 : decode cX12_join 5 = .ok (.aload_n 0, 1) := by decide +kernel
theorem dX12_join_6 : decode cX12_join 6 = .ok (.iload_n 1, 1) := by decide +kernel
theorem dX12_join_7 : decode cX12_join 7 = .ok (.invokevirtual 397, 3) := by decide +kernel
theorem dX12_join_10 : decode cX12_join 10 = .ok (.ifCond .eq 29, 3) := by decide +kernel
theorem dX12_join_13 : decode cX12_join 13 = .ok (.aload_n 0, 1) := by decide +kernel
theorem dX12_join_14 : decode cX12_join 14 = .ok (.iload_n 2, 1) := by decide +kernel
theorem dX12_join_15 : decode cX12_join 15 = .ok (.invokevirtual 397, 3) := by decide +kernel
theorem dX12_join_18 : decode cX12_join 18 = .ok (.ifCond .eq 21, 3) := by decide +kernel
theorem dX12_join_21 : decode cX12_join 21 = .ok (.aload_n 0, 1) := by decide +kernel
theorem dX12_join_22 : decode cX12_join 22 = .ok (.iload_n 1, 1) := by decide +kernel
theorem dX12_join_23 : decode cX12_join 23 = .ok (.iconst 0, 1) := by decide +kernel
theorem dX12_join_24 : decode cX12_join 24 = .ok (.invokevirtual 306, 3) := by decide +kernel
theorem dX12_join_27 : decode cX12_join 27 = .ok (.aload_n 0, 1) := by decide +kernel
theorem dX12_join_28 : decode cX12_join 28 = .ok (.iload_n 2, 1) := by decide +kernel
theorem dX12_join_29 : decode cX12_join 29 = .ok (.iconst 0, 1) := by decide +kernel
theorem dX12_join_30 : decode cX12_join 30 = .ok (.invokevirtual 306, 3) := by decide +kernel
theorem dX12_join_33 : decode cX12_join 33 = .ok (.iadd, 1) := by decide +kernel
theorem dX12_join_34 : decode cX12_join 34 = .ok (.bipush 40, 2) := by decide +kernel
theorem dX12_join_36 : decode cX12_join 36 = .ok (.if_icmp .le 5, 3) := by decide +kernel
theorem dX12_join_39 : decode cX12_join 39 = .ok (.iconst (-1), 1) := by decide +kernel
theorem dX12_join_40 : decode cX12_join 40 = .ok (.ireturn, 1) := by decide +kernel
theorem dX12_join_41 : decode cX12_join 41 = .ok (.aload_n 0, 1) := by decide +kernel
theorem dX12_join_42 : decode cX12_join 42 = .ok (.iload_n 1, 1) := by decide +kernel
theorem dX12_join_43 : decode cX12_join 43 = .ok (.iload_n 3, 1) := by decide +kernel
theorem dX12_join_44 : decode cX12_join 44 = .ok (.ifCond .eq 7, 3) := by decide +kernel
theorem dX12_join_47 : decode cX12_join 47 = .ok (.iconst 1, 1) := by decide +kernel
theorem dX12_join_48 : decode cX12_join 48 = .ok (.goto 4, 3) := by decide +kernel
theorem dX12_join_51 : decode cX12_join 51 = .ok (.iconst 2, 1) := by decide +kernel
theorem dX12_join_52 : decode cX12_join 52 = .ok (.invokevirtual 306, 3) := by decide +kernel
theorem dX12_join_55 : decode cX12_join 55 = .ok (.istore 4, 2) := by decide +kernel
theorem dX12_join_57 : decode cX12_join 57 = .ok (.aload_n 0, 1) := by decide +kernel
theorem dX12_join_58 : decode cX12_join 58 = .ok (.iload_n 2, 1) := by decide +kernel
theorem dX12_join_59 : decode cX12_join 59 = .ok (.iload_n 3, 1) := by decide +kernel
theorem dX12_join_60 : decode cX12_join 60 = .ok (.ifCond .eq 7, 3) := by decide +kernel
theorem dX12_join_63 : decode cX12_join 63 = .ok (.iconst 1, 1) := by decide +kernel
theorem dX12_join_64 : decode cX12_join 64 = .ok (.goto 4, 3) := by decide +kernel
theorem dX12_join_67 : decode cX12_join 67 = .ok (.iconst 2, 1) := by decide +kernel
theorem dX12_join_68 : decode cX12_join 68 = .ok (.invokevirtual 306, 3) := by decide +kernel
theorem dX12_join_71 : decode cX12_join 71 = .ok (.istore 5, 2) := by decide +kernel
theorem dX12_join_73 : decode cX12_join 73 = .ok (.iload 4, 2) := by decide +kernel
theorem dX12_join_75 : decode cX12_join 75 = .ok (.i2l, 1) := by decide +kernel
theorem dX12_join_76 : decode cX12_join 76 = .ok (.iload 5, 2) := by decide +kernel
theorem dX12_join_78 : decode cX12_join 78 = .ok (.i2l, 1) := by decide +kernel
theorem dX12_join_79 : decode cX12_join 79 = .ok (.invokestatic 260, 3) := by decide +kernel
theorem dX12_join_82 : decode cX12_join 82 = .ok (.lstore 6, 2) := by decide +kernel
theorem dX12_join_84 : decode cX12_join 84 = .ok (.iload 5, 2) := by decide +kernel
theorem dX12_join_86 : decode cX12_join 86 = .ok (.i2l, 1) := by decide +kernel
theorem dX12_join_87 : decode cX12_join 87 = .ok (.lload 6, 2) := by decide +kernel
theorem dX12_join_89 : decode cX12_join 89 = .ok (.ldiv, 1) := by decide +kernel
theorem dX12_join_90 : decode cX12_join 90 = .ok (.lstore 8, 2) := by decide +kernel
theorem dX12_join_92 : decode cX12_join 92 = .ok (.iload 4, 2) := by decide +kernel
theorem dX12_join_94 : decode cX12_join 94 = .ok (.i2l, 1) := by decide +kernel
theorem dX12_join_95 : decode cX12_join 95 = .ok (.lload 6, 2) := by decide +kernel
theorem dX12_join_97 : decode cX12_join 97 = .ok (.ldiv, 1) := by decide +kernel
theorem dX12_join_98 : decode cX12_join 98 = .ok (.lstore 10, 2) := by decide +kernel
theorem dX12_join_100 : decode cX12_join 100 = .ok (.iload_n 3, 1) := by decide +kernel
theorem dX12_join_101 : decode cX12_join 101 = .ok (.ifCond .eq 16, 3) := by decide +kernel
theorem dX12_join_104 : decode cX12_join 104 = .ok (.lload 8, 2) := by decide +kernel
theorem dX12_join_106 : decode cX12_join 106 = .ok (.aload_n 0, 1) := by decide +kernel
theorem dX12_join_107 : decode cX12_join 107 = .ok (.iload_n 1, 1) := by decide +kernel
theorem dX12_join_108 : decode cX12_join 108 = .ok (.iconst 1, 1) := by decide +kernel
theorem dX12_join_109 : decode cX12_join 109 = .ok (.invokevirtual 306, 3) := by decide +kernel
theorem dX12_join_112 : decode cX12_join 112 = .ok (.i2l, 1) := by decide +kernel
theorem dX12_join_113 : decode cX12_join 113 = .ok (.lmul, 1) := by decide +kernel
theorem dX12_join_114 : decode cX12_join 114 = .ok (.goto 24, 3) := by decide +kernel
theorem dX12_join_117 : decode cX12_join 117 = .ok (.lload 8, 2) := by decide +kernel
theorem dX12_join_119 : decode cX12_join 119 = .ok (.aload_n 0, 1) := by decide +kernel
theorem dX12_join_120 : decode cX12_join 120 = .ok (.iload_n 1, 1) := by decide +kernel
theorem dX12_join_121 : decode cX12_join 121 = .ok (.iconst 1, 1) := by decide +kernel
theorem dX12_join_122 : decode cX12_join 122 = .ok (.invokevirtual 306, 3) := by decide +kernel
theorem dX12_join_125 : decode cX12_join 125 = .ok (.i2l, 1) := by decide +kernel
theorem dX12_join_126 : decode cX12_join 126 = .ok (.lmul, 1) := by decide +kernel
theorem dX12_join_127 : decode cX12_join 127 = .ok (.lload 10, 2) := by decide +kernel
theorem dX12_join_129 : decode cX12_join 129 = .ok (.aload_n 0, 1) := by decide +kernel
theorem dX12_join_130 : decode cX12_join 130 = .ok (.iload_n 2, 1) := by decide +kernel
theorem dX12_join_131 : decode cX12_join 131 = .ok (.iconst 1, 1) := by decide +kernel
theorem dX12_join_132 : decode cX12_join 132 = .ok (.invokevirtual 306, 3) := by decide +kernel
theorem dX12_join_135 : decode cX12_join 135 = .ok (.i2l, 1) := by decide +kernel
theorem dX12_join_136 : decode cX12_join 136 = .ok (.lmul, 1) := by decide +kernel
theorem dX12_join_137 : decode cX12_join 137 = .ok (.ladd, 1) := by decide +kernel
theorem dX12_join_138 : decode cX12_join 138 = .ok (.lstore 12, 2) := by decide +kernel
theorem dX12_join_140 : decode cX12_join 140 = .ok (.iload_n 3, 1) := by decide +kernel
theorem dX12_join_141 : decode cX12_join 141 = .ok (.ifCond .eq 27, 3) := by decide +kernel
theorem dX12_join_144 : decode cX12_join 144 = .ok (.lload 8, 2) := by decide +kernel
theorem dX12_join_146 : decode cX12_join 146 = .ok (.aload_n 0, 1) := by decide +kernel
theorem dX12_join_147 : decode cX12_join 147 = .ok (.iload_n 1, 1) := by decide +kernel
theorem dX12_join_148 : decode cX12_join 148 = .ok (.iconst 2, 1) := by decide +kernel
theorem dX12_join_149 : decode cX12_join 149 = .ok (.invokevirtual 306, 3) := by decide +kernel
theorem dX12_join_152 : decode cX12_join 152 = .ok (.i2l, 1) := by decide +kernel
theorem dX12_join_153 : decode cX12_join 153 = .ok (.lmul, 1) := by decide +kernel
theorem dX12_join_154 : decode cX12_join 154 = .ok (.lload 10, 2) := by decide +kernel
theorem dX12_join_156 : decode cX12_join 156 = .ok (.aload_n 0, 1) := by decide +kernel
theorem dX12_join_157 : decode cX12_join 157 = .ok (.iload_n 2, 1) := by decide +kernel
theorem dX12_join_158 : decode cX12_join 158 = .ok (.iconst 2, 1) := by decide +kernel
theorem dX12_join_159 : decode cX12_join 159 = .ok (.invokevirtual 306, 3) := by decide +kernel
theorem dX12_join_162 : decode cX12_join 162 = .ok (.i2l, 1) := by decide +kernel
theorem dX12_join_163 : decode cX12_join 163 = .ok (.lmul, 1) := by decide +kernel
theorem dX12_join_164 : decode cX12_join 164 = .ok (.ladd, 1) := by decide +kernel
theorem dX12_join_165 : decode cX12_join 165 = .ok (.goto 13, 3) := by decide +kernel
theorem dX12_join_168 : decode cX12_join 168 = .ok (.lload 8, 2) := by decide +kernel
theorem dX12_join_170 : decode cX12_join 170 = .ok (.aload_n 0, 1) := by decide +kernel
theorem dX12_join_171 : decode cX12_join 171 = .ok (.iload_n 1, 1) := by decide +kernel
theorem dX12_join_172 : decode cX12_join 172 = .ok (.iconst 2, 1) := by decide +kernel
theorem dX12_join_173 : decode cX12_join 173 = .ok (.invokevirtual 306, 3) := by decide +kernel
theorem dX12_join_176 : decode cX12_join 176 = .ok (.i2l, 1) := by decide +kernel
theorem dX12_join_177 : decode cX12_join 177 = .ok (.lmul, 1) := by decide +kernel
theorem dX12_join_178 : decode cX12_join 178 = .ok (.lstore 14, 2) := by decide +kernel
theorem dX12_join_180 : decode cX12_join 180 = .ok (.lload 12, 2) := by decide +kernel
theorem dX12_join_182 : decode cX12_join 182 = .ok (.ldc2_w 395, 3) := by decide +kernel
theorem dX12_join_185 : decode cX12_join 185 = .ok (.lcmp, 1) := by decide +kernel
theorem dX12_join_186 : decode cX12_join 186 = .ok (.ifCond .gt 12, 3) := by decide +kernel
theorem dX12_join_189 : decode cX12_join 189 = .ok (.lload 14, 2) := by decide +kernel
theorem dX12_join_191 : decode cX12_join 191 = .ok (.ldc2_w 395, 3) := by decide +kernel
theorem dX12_join_194 : decode cX12_join 194 = .ok (.lcmp, 1) := by decide +kernel
theorem dX12_join_195 : decode cX12_join 195 = .ok (.ifCond .le 5, 3) := by decide +kernel
theorem dX12_join_198 : decode cX12_join 198 = .ok (.iconst (-1), 1) := by decide +kernel
theorem dX12_join_199 : decode cX12_join 199 = .ok (.ireturn, 1) := by decide +kernel
theorem dX12_join_200 : decode cX12_join 200 = .ok (.aload_n 0, 1) := by decide +kernel
theorem dX12_join_201 : decode cX12_join 201 = .ok (.iload_n 1, 1) := by decide +kernel
theorem dX12_join_202 : decode cX12_join 202 = .ok (.invokevirtual 380, 3) := by decide +kernel
theorem dX12_join_205 : decode cX12_join 205 = .ok (.aload_n 0, 1) := by decide +kernel
theorem dX12_join_206 : decode cX12_join 206 = .ok (.lload 8, 2) := by decide +kernel
theorem dX12_join_208 : decode cX12_join 208 = .ok (.l2i, 1) := by decide +kernel
theorem dX12_join_209 : decode cX12_join 209 = .ok (.invokevirtual 400, 3) := by decide +kernel
theorem dX12_join_212 : decode cX12_join 212 = .ok (.aload_n 0, 1) := by decide +kernel
theorem dX12_join_213 : decode cX12_join 213 = .ok (.getfield 100, 3) := by decide +kernel
theorem dX12_join_216 : decode cX12_join 216 = .ok (.iconst 0, 1) := by decide +kernel
theorem dX12_join_217 : decode cX12_join 217 = .ok (.iaload, 1) := by decide +kernel
theorem dX12_join_218 : decode cX12_join 218 = .ok (.istore 16, 2) := by decide +kernel
theorem dX12_join_220 : decode cX12_join 220 = .ok (.iconst 0, 1) := by decide +kernel
theorem dX12_join_221 : decode cX12_join 221 = .ok (.istore 17, 2) := by decide +kernel
theorem dX12_join_223 : decode cX12_join 223 = .ok (.iload 17, 2) := by decide +kernel
theorem dX12_join_225 : decode cX12_join 225 = .ok (.aload_n 0, 1) := by decide +kernel
theorem dX12_join_226 : decode cX12_join 226 = .ok (.iload_n 2, 1) := by decide +kernel
theorem dX12_join_227 : decode cX12_join 227 = .ok (.iconst 0, 1) := by decide +kernel
theorem dX12_join_228 : decode cX12_join 228 = .ok (.invokevirtual 306, 3) := by decide +kernel
theorem dX12_join_231 : decode cX12_join 231 = .ok (.if_icmp .ge 121, 3) := by decide +kernel
theorem dX12_join_234 : decode cX12_join 234 = .ok (.aload_n 0, 1) := by decide +kernel
theorem dX12_join_235 : decode cX12_join 235 = .ok (.getfield 100, 3) := by decide +kernel
theorem dX12_join_238 : decode cX12_join 238 = .ok (.iconst 4, 1) := by decide +kernel
theorem dX12_join_239 : decode cX12_join 239 = .ok (.iload 16, 2) := by decide +kernel
theorem dX12_join_241 : decode cX12_join 241 = .ok (.iadd, 1) := by decide +kernel
theorem dX12_join_242 : decode cX12_join 242 = .ok (.iload 17, 2) := by decide +kernel
theorem dX12_join_244 : decode cX12_join 244 = .ok (.iadd, 1) := by decide +kernel
theorem dX12_join_245 : decode cX12_join 245 = .ok (.lload 10, 2) := by decide +kernel
theorem dX12_join_247 : decode cX12_join 247 = .ok (.aload_n 0, 1) := by decide +kernel
theorem dX12_join_248 : decode cX12_join 248 = .ok (.iload_n 2, 1) := by decide +kernel
theorem dX12_join_249 : decode cX12_join 249 = .ok (.iconst 4, 1) := by decide +kernel
theorem dX12_join_250 : decode cX12_join 250 = .ok (.iload 17, 2) := by decide +kernel
theorem dX12_join_252 : decode cX12_join 252 = .ok (.iadd, 1) := by decide +kernel
theorem dX12_join_253 : decode cX12_join 253 = .ok (.invokevirtual 306, 3) := by decide +kernel
theorem dX12_join_256 : decode cX12_join 256 = .ok (.i2l, 1) := by decide +kernel
theorem dX12_join_257 : decode cX12_join 257 = .ok (.lmul, 1) := by decide +kernel
theorem dX12_join_258 : decode cX12_join 258 = .ok (.l2i, 1) := by decide +kernel
theorem dX12_join_259 : decode cX12_join 259 = .ok (.iload_n 3, 1) := by decide +kernel
theorem dX12_join_260 : decode cX12_join 260 = .ok (.ifCond .eq 7, 3) := by decide +kernel
theorem dX12_join_263 : decode cX12_join 263 = .ok (.iconst 0, 1) := by decide +kernel
theorem dX12_join_264 : decode cX12_join 264 = .ok (.goto 9, 3) := by decide +kernel
theorem dX12_join_267 : decode cX12_join 267 = .ok (.aload_n 0, 1) := by decide +kernel
theorem dX12_join_268 : decode cX12_join 268 = .ok (.getfield 100, 3) := by decide +kernel
theorem dX12_join_271 : decode cX12_join 271 = .ok (.iconst 1, 1) := by decide +kernel
theorem dX12_join_272 : decode cX12_join 272 = .ok (.iaload, 1) := by decide +kernel
theorem dX12_join_273 : decode cX12_join 273 = .ok (.iadd, 1) := by decide +kernel
theorem dX12_join_274 : decode cX12_join 274 = .ok (.iastore, 1) := by decide +kernel
theorem dX12_join_275 : decode cX12_join 275 = .ok (.aload_n 0, 1) := by decide +kernel
theorem dX12_join_276 : decode cX12_join 276 = .ok (.getfield 100, 3) := by decide +kernel
theorem dX12_join_279 : decode cX12_join 279 = .ok (.bipush 44, 2) := by decide +kernel
theorem dX12_join_281 : decode cX12_join 281 = .ok (.iload 16, 2) := by decide +kernel
theorem dX12_join_283 : decode cX12_join 283 = .ok (.iadd, 1) := by decide +kernel
theorem dX12_join_284 : decode cX12_join 284 = .ok (.iload 17, 2) := by decide +kernel
theorem dX12_join_286 : decode cX12_join 286 = .ok (.iadd, 1) := by decide +kernel
theorem dX12_join_287 : decode cX12_join 287 = .ok (.lload 10, 2) := by decide +kernel
theorem dX12_join_289 : decode cX12_join 289 = .ok (.aload_n 0, 1) := by decide +kernel
theorem dX12_join_290 : decode cX12_join 290 = .ok (.iload_n 2, 1) := by decide +kernel
theorem dX12_join_291 : decode cX12_join 291 = .ok (.bipush 44, 2) := by decide +kernel
theorem dX12_join_293 : decode cX12_join 293 = .ok (.iload 17, 2) := by decide +kernel
theorem dX12_join_295 : decode cX12_join 295 = .ok (.iadd, 1) := by decide +kernel
theorem dX12_join_296 : decode cX12_join 296 = .ok (.invokevirtual 306, 3) := by decide +kernel
theorem dX12_join_299 : decode cX12_join 299 = .ok (.i2l, 1) := by decide +kernel
theorem dX12_join_300 : decode cX12_join 300 = .ok (.lmul, 1) := by decide +kernel
theorem dX12_join_301 : decode cX12_join 301 = .ok (.l2i, 1) := by decide +kernel
theorem dX12_join_302 : decode cX12_join 302 = .ok (.iload_n 3, 1) := by decide +kernel
theorem dX12_join_303 : decode cX12_join 303 = .ok (.ifCond .eq 12, 3) := by decide +kernel
theorem dX12_join_306 : decode cX12_join 306 = .ok (.aload_n 0, 1) := by decide +kernel
theorem dX12_join_307 : decode cX12_join 307 = .ok (.getfield 100, 3) := by decide +kernel
theorem dX12_join_310 : decode cX12_join 310 = .ok (.iconst 2, 1) := by decide +kernel
theorem dX12_join_311 : decode cX12_join 311 = .ok (.iaload, 1) := by decide +kernel
theorem dX12_join_312 : decode cX12_join 312 = .ok (.goto 4, 3) := by decide +kernel
theorem dX12_join_315 : decode cX12_join 315 = .ok (.iconst 0, 1) := by decide +kernel
theorem dX12_join_316 : decode cX12_join 316 = .ok (.iadd, 1) := by decide +kernel
theorem dX12_join_317 : decode cX12_join 317 = .ok (.iastore, 1) := by decide +kernel
theorem dX12_join_318 : decode cX12_join 318 = .ok (.aload_n 0, 1) := by decide +kernel
theorem dX12_join_319 : decode cX12_join 319 = .ok (.getfield 100, 3) := by decide +kernel
theorem dX12_join_322 : decode cX12_join 322 = .ok (.bipush 84, 2) := by decide +kernel
theorem dX12_join_324 : decode cX12_join 324 = .ok (.iload 16, 2) := by decide +kernel
theorem dX12_join_326 : decode cX12_join 326 = .ok (.iadd, 1) := by decide +kernel
theorem dX12_join_327 : decode cX12_join 327 = .ok (.iload 17, 2) := by decide +kernel
theorem dX12_join_329 : decode cX12_join 329 = .ok (.iadd, 1) := by decide +kernel
theorem dX12_join_330 : decode cX12_join 330 = .ok (.lload 10, 2) := by decide +kernel
theorem dX12_join_332 : decode cX12_join 332 = .ok (.aload_n 0, 1) := by decide +kernel
theorem dX12_join_333 : decode cX12_join 333 = .ok (.iload_n 2, 1) := by decide +kernel
theorem dX12_join_334 : decode cX12_join 334 = .ok (.bipush 84, 2) := by decide +kernel
theorem dX12_join_336 : decode cX12_join 336 = .ok (.iload 17, 2) := by decide +kernel
theorem dX12_join_338 : decode cX12_join 338 = .ok (.iadd, 1) := by decide +kernel
theorem dX12_join_339 : decode cX12_join 339 = .ok (.invokevirtual 306, 3) := by decide +kernel
theorem dX12_join_342 : decode cX12_join 342 = .ok (.i2l, 1) := by decide +kernel
theorem dX12_join_343 : decode cX12_join 343 = .ok (.lmul, 1) := by decide +kernel
theorem dX12_join_344 : decode cX12_join 344 = .ok (.l2i, 1) := by decide +kernel
theorem dX12_join_345 : decode cX12_join 345 = .ok (.iastore, 1) := by decide +kernel
theorem dX12_join_346 : decode cX12_join 346 = .ok (.iinc 17 1, 3) := by decide +kernel
theorem dX12_join_349 : decode cX12_join 349 = .ok (.goto (-126), 3) := by decide +kernel
theorem dX12_join_352 : decode cX12_join 352 = .ok (.aload_n 0, 1) := by decide +kernel
theorem dX12_join_353 : decode cX12_join 353 = .ok (.getfield 100, 3) := by decide +kernel
theorem dX12_join_356 : decode cX12_join 356 = .ok (.iconst 0, 1) := by decide +kernel
theorem dX12_join_357 : decode cX12_join 357 = .ok (.dup2, 1) := by decide +kernel
theorem dX12_join_358 : decode cX12_join 358 = .ok (.iaload, 1) := by decide +kernel
theorem dX12_join_359 : decode cX12_join 359 = .ok (.aload_n 0, 1) := by decide +kernel
theorem dX12_join_360 : decode cX12_join 360 = .ok (.iload_n 2, 1) := by decide +kernel
theorem dX12_join_361 : decode cX12_join 361 = .ok (.iconst 0, 1) := by decide +kernel
theorem dX12_join_362 : decode cX12_join 362 = .ok (.invokevirtual 306, 3) := by decide +kernel
theorem dX12_join_365 : decode cX12_join 365 = .ok (.iadd, 1) := by decide +kernel
theorem dX12_join_366 : decode cX12_join 366 = .ok (.iastore, 1) := by decide +kernel
theorem dX12_join_367 : decode cX12_join 367 = .ok (.aload_n 0, 1) := by decide +kernel
theorem dX12_join_368 : decode cX12_join 368 = .ok (.getfield 100, 3) := by decide +kernel
theorem dX12_join_371 : decode cX12_join 371 = .ok (.iconst 1, 1) := by decide +kernel
theorem dX12_join_372 : decode cX12_join 372 = .ok (.lload 12, 2) := by decide +kernel
theorem dX12_join_374 : decode cX12_join 374 = .ok (.l2i, 1) := by decide +kernel
theorem dX12_join_375 : decode cX12_join 375 = .ok (.iastore, 1) := by decide +kernel
theorem dX12_join_376 : decode cX12_join 376 = .ok (.aload_n 0, 1) := by decide +kernel
theorem dX12_join_377 : decode cX12_join 377 = .ok (.getfield 100, 3) := by decide +kernel
theorem dX12_join_380 : decode cX12_join 380 = .ok (.iconst 2, 1) := by decide +kernel
theorem dX12_join_381 : decode cX12_join 381 = .ok (.lload 14, 2) := by decide +kernel
theorem dX12_join_383 : decode cX12_join 383 = .ok (.l2i, 1) := by decide +kernel
theorem dX12_join_384 : decode cX12_join 384 = .ok (.iastore, 1) := by decide +kernel
theorem dX12_join_385 : decode cX12_join 385 = .ok (.aload_n 0, 1) := by decide +kernel
theorem dX12_join_386 : decode cX12_join 386 = .ok (.invokevirtual 403, 3) := by decide +kernel
theorem dX12_join_389 : decode cX12_join 389 = .ok (.ireturn, 1) := by decide +kernel
theorem dX12_grow_0 : decode cX12_grow 0 = .ok (.aload_n 0, 1) := by decide +kernel
theorem dX12_grow_1 : decode cX12_grow 1 = .ok (.iconst 0, 1) := by decide +kernel
theorem dX12_grow_2 : decode cX12_grow 2 = .ok (.putfield 103, 3) := by decide +kernel
theorem dX12_grow_5 : decode cX12_grow 5 = .ok (.aload_n 0, 1) := by decide +kernel
theorem dX12_grow_6 : decode cX12_grow 6 = .ok (.iload_n 1, 1) := by decide +kernel
theorem dX12_grow_7 : decode cX12_grow 7 = .ok (.invokevirtual 397, 3) := by decide +kernel
theorem dX12_grow_10 : decode cX12_grow 10 = .ok (.ifCond .eq 36, 3) := by decide +kernel
theorem dX12_grow_13 : decode cX12_grow 13 = .ok (.aload_n 0, 1) := by decide +kernel
theorem dX12_grow_14 : decode cX12_grow 14 = .ok (.iload_n 1, 1) := by decide +kernel
theorem dX12_grow_15 : decode cX12_grow 15 = .ok (.iconst 0, 1) := by decide +kernel
theorem dX12_grow_16 : decode cX12_grow 16 = .ok (.invokevirtual 306, 3) := by decide +kernel
theorem dX12_grow_19 : decode cX12_grow 19 = .ok (.bipush 40, 2) := by decide +kernel
theorem dX12_grow_21 : decode cX12_grow 21 = .ok (.if_icmp .eq 25, 3) := by decide +kernel
theorem dX12_grow_24 : decode cX12_grow 24 = .ok (.aload_n 0, 1) := by decide +kernel
theorem dX12_grow_25 : decode cX12_grow 25 = .ok (.iload_n 1, 1) := by decide +kernel
theorem dX12_grow_26 : decode cX12_grow 26 = .ok (.iconst 1, 1) := by decide +kernel
theorem dX12_grow_27 : decode cX12_grow 27 = .ok (.invokevirtual 306, 3) := by decide +kernel
theorem dX12_grow_30 : decode cX12_grow 30 = .ok (.i2l, 1) := by decide +kernel
theorem dX12_grow_31 : decode cX12_grow 31 = .ok (.aload_n 0, 1) := by decide +kernel
theorem dX12_grow_32 : decode cX12_grow 32 = .ok (.iload_n 1, 1) := by decide +kernel
theorem dX12_grow_33 : decode cX12_grow 33 = .ok (.iconst 2, 1) := by decide +kernel
theorem dX12_grow_34 : decode cX12_grow 34 = .ok (.invokevirtual 306, 3) := by decide +kernel
theorem dX12_grow_37 : decode cX12_grow 37 = .ok (.i2l, 1) := by decide +kernel
theorem dX12_grow_38 : decode cX12_grow 38 = .ok (.ladd, 1) := by decide +kernel
theorem dX12_grow_39 : decode cX12_grow 39 = .ok (.ldc2_w 395, 3) := by decide +kernel
theorem dX12_grow_42 : decode cX12_grow 42 = .ok (.lcmp, 1) := by decide +kernel
theorem dX12_grow_43 : decode cX12_grow 43 = .ok (.ifCond .le 5, 3) := by decide +kernel
theorem dX12_grow_46 : decode cX12_grow 46 = .ok (.iconst (-1), 1) := by decide +kernel
theorem dX12_grow_47 : decode cX12_grow 47 = .ok (.ireturn, 1) := by decide +kernel
theorem dX12_grow_48 : decode cX12_grow 48 = .ok (.aload_n 0, 1) := by decide +kernel
theorem dX12_grow_49 : decode cX12_grow 49 = .ok (.iload_n 1, 1) := by decide +kernel
theorem dX12_grow_50 : decode cX12_grow 50 = .ok (.invokevirtual 380, 3) := by decide +kernel
theorem dX12_grow_53 : decode cX12_grow 53 = .ok (.aload_n 0, 1) := by decide +kernel
theorem dX12_grow_54 : decode cX12_grow 54 = .ok (.getfield 100, 3) := by decide +kernel
theorem dX12_grow_57 : decode cX12_grow 57 = .ok (.iconst 0, 1) := by decide +kernel
theorem dX12_grow_58 : decode cX12_grow 58 = .ok (.iaload, 1) := by decide +kernel
theorem dX12_grow_59 : decode cX12_grow 59 = .ok (.istore_n 3, 1) := by decide +kernel
theorem dX12_grow_60 : decode cX12_grow 60 = .ok (.aload_n 0, 1) := by decide +kernel
theorem dX12_grow_61 : decode cX12_grow 61 = .ok (.getfield 100, 3) := by decide +kernel
theorem dX12_grow_64 : decode cX12_grow 64 = .ok (.iconst 4, 1) := by decide +kernel
theorem dX12_grow_65 : decode cX12_grow 65 = .ok (.iload_n 3, 1) := by decide +kernel
theorem dX12_grow_66 : decode cX12_grow 66 = .ok (.iadd, 1) := by decide +kernel
theorem dX12_grow_67 : decode cX12_grow 67 = .ok (.iload_n 2, 1) := by decide +kernel
theorem dX12_grow_68 : decode cX12_grow 68 = .ok (.ifCond .eq 7, 3) := by decide +kernel
theorem dX12_grow_71 : decode cX12_grow 71 = .ok (.iconst 0, 1) := by decide +kernel
theorem dX12_grow_72 : decode cX12_grow 72 = .ok (.goto 9, 3) := by decide +kernel
theorem dX12_grow_75 : decode cX12_grow 75 = .ok (.aload_n 0, 1) := by decide +kernel
theorem dX12_grow_76 : decode cX12_grow 76 = .ok (.getfield 100, 3) := by decide +kernel
theorem dX12_grow_79 : decode cX12_grow 79 = .ok (.iconst 1, 1) := by decide +kernel
theorem dX12_grow_80 : decode cX12_grow 80 = .ok (.iaload, 1) := by decide +kernel
theorem dX12_grow_81 : decode cX12_grow 81 = .ok (.iastore, 1) := by decide +kernel
theorem dX12_grow_82 : decode cX12_grow 82 = .ok (.aload_n 0, 1) := by decide +kernel
theorem dX12_grow_83 : decode cX12_grow 83 = .ok (.getfield 100, 3) := by decide +kernel
theorem dX12_grow_86 : decode cX12_grow 86 = .ok (.bipush 44, 2) := by decide +kernel
theorem dX12_grow_88 : decode cX12_grow 88 = .ok (.iload_n 3, 1) := by decide +kernel
theorem dX12_grow_89 : decode cX12_grow 89 = .ok (.iadd, 1) := by decide +kernel
theorem dX12_grow_90 : decode cX12_grow 90 = .ok (.iload_n 2, 1) := by decide +kernel
theorem dX12_grow_91 : decode cX12_grow 91 = .ok (.ifCond .eq 12, 3) := by decide +kernel
theorem dX12_grow_94 : decode cX12_grow 94 = .ok (.aload_n 0, 1) := by decide +kernel
theorem dX12_grow_95 : decode cX12_grow 95 = .ok (.getfield 100, 3) := by decide +kernel
theorem dX12_grow_98 : decode cX12_grow 98 = .ok (.iconst 2, 1) := by decide +kernel
theorem dX12_grow_99 : decode cX12_grow 99 = .ok (.iaload, 1) := by decide +kernel
theorem dX12_grow_100 : decode cX12_grow 100 = .ok (.goto 4, 3) := by decide +kernel
theorem dX12_grow_103 : decode cX12_grow 103 = .ok (.iconst 0, 1) := by decide +kernel
theorem dX12_grow_104 : decode cX12_grow 104 = .ok (.iastore, 1) := by decide +kernel
theorem dX12_grow_105 : decode cX12_grow 105 = .ok (.aload_n 0, 1) := by decide +kernel
theorem dX12_grow_106 : decode cX12_grow 106 = .ok (.getfield 100, 3) := by decide +kernel
theorem dX12_grow_109 : decode cX12_grow 109 = .ok (.bipush 84, 2) := by decide +kernel
theorem dX12_grow_111 : decode cX12_grow 111 = .ok (.iload_n 3, 1) := by decide +kernel
theorem dX12_grow_112 : decode cX12_grow 112 = .ok (.iadd, 1) := by decide +kernel
theorem dX12_grow_113 : decode cX12_grow 113 = .ok (.iload_n 2, 1) := by decide +kernel
theorem dX12_grow_114 : decode cX12_grow 114 = .ok (.ifCond .eq 12, 3) := by decide +kernel
theorem dX12_grow_117 : decode cX12_grow 117 = .ok (.aload_n 0, 1) := by decide +kernel
theorem dX12_grow_118 : decode cX12_grow 118 = .ok (.getfield 100, 3) := by decide +kernel
theorem dX12_grow_121 : decode cX12_grow 121 = .ok (.iconst 1, 1) := by decide +kernel
theorem dX12_grow_122 : decode cX12_grow 122 = .ok (.iaload, 1) := by decide +kernel
theorem dX12_grow_123 : decode cX12_grow 123 = .ok (.goto 9, 3) := by decide +kernel
theorem dX12_grow_126 : decode cX12_grow 126 = .ok (.aload_n 0, 1) := by decide +kernel
theorem dX12_grow_127 : decode cX12_grow 127 = .ok (.getfield 100, 3) := by decide +kernel
theorem dX12_grow_130 : decode cX12_grow 130 = .ok (.iconst 2, 1) := by decide +kernel
theorem dX12_grow_131 : decode cX12_grow 131 = .ok (.iaload, 1) := by decide +kernel
theorem dX12_grow_132 : decode cX12_grow 132 = .ok (.iastore, 1) := by decide +kernel
theorem dX12_grow_133 : decode cX12_grow 133 = .ok (.iload_n 2, 1) := by decide +kernel
theorem dX12_grow_134 : decode cX12_grow 134 = .ok (.ifCond .eq 21, 3) := by decide +kernel
theorem dX12_grow_137 : decode cX12_grow 137 = .ok (.aload_n 0, 1) := by decide +kernel
theorem dX12_grow_138 : decode cX12_grow 138 = .ok (.getfield 100, 3) := by decide +kernel
theorem dX12_grow_141 : decode cX12_grow 141 = .ok (.iconst 2, 1) := by decide +kernel
theorem dX12_grow_142 : decode cX12_grow 142 = .ok (.dup2, 1) := by decide +kernel
theorem dX12_grow_143 : decode cX12_grow 143 = .ok (.iaload, 1) := by decide +kernel
theorem dX12_grow_144 : decode cX12_grow 144 = .ok (.aload_n 0, 1) := by decide +kernel
theorem dX12_grow_145 : decode cX12_grow 145 = .ok (.getfield 100, 3) := by decide +kernel
theorem dX12_grow_148 : decode cX12_grow 148 = .ok (.iconst 1, 1) := by decide +kernel
theorem dX12_grow_149 : decode cX12_grow 149 = .ok (.iaload, 1) := by decide +kernel
theorem dX12_grow_150 : decode cX12_grow 150 = .ok (.iadd, 1) := by decide +kernel
theorem dX12_grow_151 : decode cX12_grow 151 = .ok (.iastore, 1) := by decide +kernel
theorem dX12_grow_152 : decode cX12_grow 152 = .ok (.goto 18, 3) := by decide +kernel
theorem dX12_grow_155 : decode cX12_grow 155 = .ok (.aload_n 0, 1) := by decide +kernel
theorem dX12_grow_156 : decode cX12_grow 156 = .ok (.getfield 100, 3) := by decide +kernel
theorem dX12_grow_159 : decode cX12_grow 159 = .ok (.iconst 1, 1) := by decide +kernel
theorem dX12_grow_160 : decode cX12_grow 160 = .ok (.dup2, 1) := by decide +kernel
theorem dX12_grow_161 : decode cX12_grow 161 = .ok (.iaload, 1) := by decide +kernel
theorem dX12_grow_162 : decode cX12_grow 162 = .ok (.aload_n 0, 1) := by decide +kernel
theorem dX12_grow_163 : decode cX12_grow 163 = .ok (.getfield 100, 3) := by decide +kernel
theorem dX12_grow_166 : decode cX12_grow 166 = .ok (.iconst 2, 1) := by decide +kernel
theorem dX12_grow_167 : decode cX12_grow 167 = .ok (.iaload, 1) := by decide +kernel
theorem dX12_grow_168 : decode cX12_grow 168 = .ok (.iadd, 1) := by decide +kernel
theorem dX12_grow_169 : decode cX12_grow 169 = .ok (.iastore, 1) := by decide +kernel
theorem dX12_grow_170 : decode cX12_grow 170 = .ok (.aload_n 0, 1) := by decide +kernel
theorem dX12_grow_171 : decode cX12_grow 171 = .ok (.getfield 100, 3) := by decide +kernel
theorem dX12_grow_174 : decode cX12_grow 174 = .ok (.iconst 0, 1) := by decide +kernel
theorem dX12_grow_175 : decode cX12_grow 175 = .ok (.dup2, 1) := by decide +kernel
theorem dX12_grow_176 : decode cX12_grow 176 = .ok (.iaload, 1) := by decide +kernel
theorem dX12_grow_177 : decode cX12_grow 177 = .ok (.iconst 1, 1) := by decide +kernel
theorem dX12_grow_178 : decode cX12_grow 178 = .ok (.iadd, 1) := by decide +kernel
theorem dX12_grow_179 : decode cX12_grow 179 = .ok (.iastore, 1) := by decide +kernel
theorem dX12_grow_180 : decode cX12_grow 180 = .ok (.aload_n 0, 1) := by decide +kernel
theorem dX12_grow_181 : decode cX12_grow 181 = .ok (.invokevirtual 403, 3) := by decide +kernel
theorem dX12_grow_184 : decode cX12_grow 184 = .ok (.ireturn, 1) := by decide +kernel
theorem dX12_turn_0 : decode cX12_turn 0 = .ok (.aload_n 0, 1) := by decide +kernel
theorem dX12_turn_1 : decode cX12_turn 1 = .ok (.iconst 0, 1) := by decide +kernel
theorem dX12_turn_2 : decode cX12_turn 2 = .ok (.putfield 103, 3) := by decide +kernel
theorem dX12_turn_5 : decode cX12_turn 5 = .ok (.aload_n 0, 1) := by decide +kernel
theorem dX12_turn_6 : decode cX12_turn 6 = .ok (.iload_n 1, 1) := by decide +kernel
theorem dX12_turn_7 : decode cX12_turn 7 = .ok (.invokevirtual 397, 3) := by decide +kernel
theorem dX12_turn_10 : decode cX12_turn 10 = .ok (.ifCond .eq 15, 3) := by decide +kernel
theorem dX12_turn_13 : decode cX12_turn 13 = .ok (.iload_n 2, 1) := by decide +kernel
theorem dX12_turn_14 : decode cX12_turn 14 = .ok (.i2l, 1) := by decide +kernel
theorem dX12_turn_15 : decode cX12_turn 15 = .ok (.lconst 0, 1) := by decide +kernel
theorem dX12_turn_16 : decode cX12_turn 16 = .ok (.ldc2_w 320, 3) := by decide +kernel
theorem dX12_turn_19 : decode cX12_turn 19 = .ok (.invokestatic 141, 3) := by decide +kernel
theorem dX12_turn_22 : decode cX12_turn 22 = .ok (.ifCond .ne 5, 3) := by decide +kernel
theorem dX12_turn_25 : decode cX12_turn 25 = .ok (.iconst (-1), 1) := by decide +kernel
theorem dX12_turn_26 : decode cX12_turn 26 = .ok (.ireturn, 1) := by decide +kernel
theorem dX12_turn_27 : decode cX12_turn 27 = .ok (.aload_n 0, 1) := by decide +kernel
theorem dX12_turn_28 : decode cX12_turn 28 = .ok (.iload_n 1, 1) := by decide +kernel
theorem dX12_turn_29 : decode cX12_turn 29 = .ok (.invokevirtual 380, 3) := by decide +kernel
theorem dX12_turn_32 : decode cX12_turn 32 = .ok (.aload_n 0, 1) := by decide +kernel
theorem dX12_turn_33 : decode cX12_turn 33 = .ok (.iload_n 2, 1) := by decide +kernel
theorem dX12_turn_34 : decode cX12_turn 34 = .ok (.invokevirtual 383, 3) := by decide +kernel
theorem dX12_turn_37 : decode cX12_turn 37 = .ok (.aload_n 0, 1) := by decide +kernel
theorem dX12_turn_38 : decode cX12_turn 38 = .ok (.invokevirtual 403, 3) := by decide +kernel
theorem dX12_turn_41 : decode cX12_turn 41 = .ok (.ireturn, 1) := by decide +kernel
theorem dX12_times_0 : decode cX12_times 0 = .ok (.aload_n 0, 1) := by decide +kernel
theorem dX12_times_1 : decode cX12_times 1 = .ok (.iconst 0, 1) := by decide +kernel
theorem dX12_times_2 : decode cX12_times 2 = .ok (.putfield 103, 3) := by decide +kernel
theorem dX12_times_5 : decode cX12_times 5 = .ok (.aload_n 0, 1) := by decide +kernel
theorem dX12_times_6 : decode cX12_times 6 = .ok (.iload_n 1, 1) := by decide +kernel
theorem dX12_times_7 : decode cX12_times 7 = .ok (.invokevirtual 397, 3) := by decide +kernel
theorem dX12_times_10 : decode cX12_times 10 = .ok (.ifCond .eq 15, 3) := by decide +kernel
theorem dX12_times_13 : decode cX12_times 13 = .ok (.iload_n 2, 1) := by decide +kernel
theorem dX12_times_14 : decode cX12_times 14 = .ok (.i2l, 1) := by decide +kernel
theorem dX12_times_15 : decode cX12_times 15 = .ok (.lconst 1, 1) := by decide +kernel
theorem dX12_times_16 : decode cX12_times 16 = .ok (.ldc2_w 406, 3) := by decide +kernel
theorem dX12_times_19 : decode cX12_times 19 = .ok (.invokestatic 141, 3) := by decide +kernel
theorem dX12_times_22 : decode cX12_times 22 = .ok (.ifCond .ne 5, 3) := by decide +kernel
theorem dX12_times_25 : decode cX12_times 25 = .ok (.iconst (-1), 1) := by decide +kernel
theorem dX12_times_26 : decode cX12_times 26 = .ok (.ireturn, 1) := by decide +kernel
theorem dX12_times_27 : decode cX12_times 27 = .ok (.aload_n 0, 1) := by decide +kernel
theorem dX12_times_28 : decode cX12_times 28 = .ok (.iload_n 1, 1) := by decide +kernel
theorem dX12_times_29 : decode cX12_times 29 = .ok (.invokevirtual 380, 3) := by decide +kernel
theorem dX12_times_32 : decode cX12_times 32 = .ok (.aload_n 0, 1) := by decide +kernel
theorem dX12_times_33 : decode cX12_times 33 = .ok (.iload_n 2, 1) := by decide +kernel
theorem dX12_times_34 : decode cX12_times 34 = .ok (.i2l, 1) := by decide +kernel
theorem dX12_times_35 : decode cX12_times 35 = .ok (.invokevirtual 408, 3) := by decide +kernel
theorem dX12_times_38 : decode cX12_times 38 = .ok (.ifCond .ne 5, 3) := by decide +kernel
theorem dX12_times_41 : decode cX12_times 41 = .ok (.iconst (-1), 1) := by decide +kernel
theorem dX12_times_42 : decode cX12_times 42 = .ok (.ireturn, 1) := by decide +kernel
theorem dX12_times_43 : decode cX12_times 43 = .ok (.aload_n 0, 1) := by decide +kernel
theorem dX12_times_44 : decode cX12_times 44 = .ok (.iload_n 2, 1) := by decide +kernel
theorem dX12_times_45 : decode cX12_times 45 = .ok (.invokevirtual 400, 3) := by decide +kernel
theorem dX12_times_48 : decode cX12_times 48 = .ok (.aload_n 0, 1) := by decide +kernel
theorem dX12_times_49 : decode cX12_times 49 = .ok (.invokevirtual 403, 3) := by decide +kernel
theorem dX12_times_52 : decode cX12_times 52 = .ok (.ireturn, 1) := by decide +kernel
theorem dX12_lessen_0 : decode cX12_lessen 0 = .ok (.aload_n 0, 1) := by decide +kernel
theorem dX12_lessen_1 : decode cX12_lessen 1 = .ok (.iconst 0, 1) := by decide +kernel
theorem dX12_lessen_2 : decode cX12_lessen 2 = .ok (.putfield 103, 3) := by decide +kernel
theorem dX12_lessen_5 : decode cX12_lessen 5 = .ok (.aload_n 0, 1) := by decide +kernel
theorem dX12_lessen_6 : decode cX12_lessen 6 = .ok (.iload_n 1, 1) := by decide +kernel
theorem dX12_lessen_7 : decode cX12_lessen 7 = .ok (.invokevirtual 397, 3) := by decide +kernel
theorem dX12_lessen_10 : decode cX12_lessen 10 = .ok (.ifCond .ne 5, 3) := by decide +kernel
theorem dX12_lessen_13 : decode cX12_lessen 13 = .ok (.iconst (-1), 1) := by decide +kernel
theorem dX12_lessen_14 : decode cX12_lessen 14 = .ok (.ireturn, 1) := by decide +kernel
theorem dX12_lessen_15 : decode cX12_lessen 15 = .ok (.aload_n 0, 1) := by decide +kernel
theorem dX12_lessen_16 : decode cX12_lessen 16 = .ok (.iload_n 1, 1) := by decide +kernel
theorem dX12_lessen_17 : decode cX12_lessen 17 = .ok (.invokevirtual 380, 3) := by decide +kernel
theorem dX12_lessen_20 : decode cX12_lessen 20 = .ok (.lconst 0, 1) := by decide +kernel
theorem dX12_lessen_21 : decode cX12_lessen 21 = .ok (.lstore_n 2, 1) := by decide +kernel
theorem dX12_lessen_22 : decode cX12_lessen 22 = .ok (.iconst 0, 1) := by decide +kernel
theorem dX12_lessen_23 : decode cX12_lessen 23 = .ok (.istore 4, 2) := by decide +kernel
theorem dX12_lessen_25 : decode cX12_lessen 25 = .ok (.iload 4, 2) := by decide +kernel
theorem dX12_lessen_27 : decode cX12_lessen 27 = .ok (.aload_n 0, 1) := by decide +kernel
theorem dX12_lessen_28 : decode cX12_lessen 28 = .ok (.getfield 100, 3) := by decide +kernel
theorem dX12_lessen_31 : decode cX12_lessen 31 = .ok (.iconst 0, 1) := by decide +kernel
theorem dX12_lessen_32 : decode cX12_lessen 32 = .ok (.iaload, 1) := by decide +kernel
theorem dX12_lessen_33 : decode cX12_lessen 33 = .ok (.if_icmp .ge 25, 3) := by decide +kernel
theorem dX12_lessen_36 : decode cX12_lessen 36 = .ok (.lload_n 2, 1) := by decide +kernel
theorem dX12_lessen_37 : decode cX12_lessen 37 = .ok (.aload_n 0, 1) := by decide +kernel
theorem dX12_lessen_38 : decode cX12_lessen 38 = .ok (.getfield 100, 3) := by decide +kernel
theorem dX12_lessen_41 : decode cX12_lessen 41 = .ok (.bipush 84, 2) := by decide +kernel
theorem dX12_lessen_43 : decode cX12_lessen 43 = .ok (.iload 4, 2) := by decide +kernel
theorem dX12_lessen_45 : decode cX12_lessen 45 = .ok (.iadd, 1) := by decide +kernel
theorem dX12_lessen_46 : decode cX12_lessen 46 = .ok (.iaload, 1) := by decide +kernel
theorem dX12_lessen_47 : decode cX12_lessen 47 = .ok (.i2l, 1) := by decide +kernel
theorem dX12_lessen_48 : decode cX12_lessen 48 = .ok (.invokestatic 260, 3) := by decide +kernel
theorem dX12_lessen_51 : decode cX12_lessen 51 = .ok (.lstore_n 2, 1) := by decide +kernel
theorem dX12_lessen_52 : decode cX12_lessen 52 = .ok (.iinc 4 1, 3) := by decide +kernel
theorem dX12_lessen_55 : decode cX12_lessen 55 = .ok (.goto (-30), 3) := by decide +kernel
theorem dX12_lessen_58 : decode cX12_lessen 58 = .ok (.aload_n 0, 1) := by decide +kernel
theorem dX12_lessen_59 : decode cX12_lessen 59 = .ok (.getfield 100, 3) := by decide +kernel
theorem dX12_lessen_62 : decode cX12_lessen 62 = .ok (.iconst 1, 1) := by decide +kernel
theorem dX12_lessen_63 : decode cX12_lessen 63 = .ok (.dup2, 1) := by decide +kernel
theorem dX12_lessen_64 : decode cX12_lessen 64 = .ok (.iaload, 1) := by decide +kernel
theorem dX12_lessen_65 : decode cX12_lessen 65 = .ok (.lload_n 2, 1) := by decide +kernel
theorem dX12_lessen_66 : decode cX12_lessen 66 = .ok (.l2i, 1) := by decide +kernel
theorem dX12_lessen_67 : decode cX12_lessen 67 = .ok (.idiv, 1) := by decide +kernel
theorem dX12_lessen_68 : decode cX12_lessen 68 = .ok (.iastore, 1) := by decide +kernel
theorem dX12_lessen_69 : decode cX12_lessen 69 = .ok (.aload_n 0, 1) := by decide +kernel
theorem dX12_lessen_70 : decode cX12_lessen 70 = .ok (.getfield 100, 3) := by decide +kernel
theorem dX12_lessen_73 : decode cX12_lessen 73 = .ok (.iconst 2, 1) := by decide +kernel
theorem dX12_lessen_74 : decode cX12_lessen 74 = .ok (.dup2, 1) := by decide +kernel
theorem dX12_lessen_75 : decode cX12_lessen 75 = .ok (.iaload, 1) := by decide +kernel
theorem dX12_lessen_76 : decode cX12_lessen 76 = .ok (.lload_n 2, 1) := by decide +kernel
theorem dX12_lessen_77 : decode cX12_lessen 77 = .ok (.l2i, 1) := by decide +kernel
theorem dX12_lessen_78 : decode cX12_lessen 78 = .ok (.idiv, 1) := by decide +kernel
theorem dX12_lessen_79 : decode cX12_lessen 79 = .ok (.iastore, 1) := by decide +kernel
theorem dX12_lessen_80 : decode cX12_lessen 80 = .ok (.iconst 0, 1) := by decide +kernel
theorem dX12_lessen_81 : decode cX12_lessen 81 = .ok (.istore 4, 2) := by decide +kernel
theorem dX12_lessen_83 : decode cX12_lessen 83 = .ok (.iload 4, 2) := by decide +kernel
theorem dX12_lessen_85 : decode cX12_lessen 85 = .ok (.aload_n 0, 1) := by decide +kernel
theorem dX12_lessen_86 : decode cX12_lessen 86 = .ok (.getfield 100, 3) := by decide +kernel
theorem dX12_lessen_89 : decode cX12_lessen 89 = .ok (.iconst 0, 1) := by decide +kernel
theorem dX12_lessen_90 : decode cX12_lessen 90 = .ok (.iaload, 1) := by decide +kernel
theorem dX12_lessen_91 : decode cX12_lessen 91 = .ok (.if_icmp .ge 53, 3) := by decide +kernel
theorem dX12_lessen_94 : decode cX12_lessen 94 = .ok (.aload_n 0, 1) := by decide +kernel
theorem dX12_lessen_95 : decode cX12_lessen 95 = .ok (.getfield 100, 3) := by decide +kernel
theorem dX12_lessen_98 : decode cX12_lessen 98 = .ok (.iconst 4, 1) := by decide +kernel
theorem dX12_lessen_99 : decode cX12_lessen 99 = .ok (.iload 4, 2) := by decide +kernel
theorem dX12_lessen_101 : decode cX12_lessen 101 = .ok (.iadd, 1) := by decide +kernel
theorem dX12_lessen_102 : decode cX12_lessen 102 = .ok (.dup2, 1) := by decide +kernel
theorem dX12_lessen_103 : decode cX12_lessen 103 = .ok (.iaload, 1) := by decide +kernel
theorem dX12_lessen_104 : decode cX12_lessen 104 = .ok (.lload_n 2, 1) := by decide +kernel
theorem dX12_lessen_105 : decode cX12_lessen 105 = .ok (.l2i, 1) := by decide +kernel
theorem dX12_lessen_106 : decode cX12_lessen 106 = .ok (.idiv, 1) := by decide +kernel
theorem dX12_lessen_107 : decode cX12_lessen 107 = .ok (.iastore, 1) := by decide +kernel
theorem dX12_lessen_108 : decode cX12_lessen 108 = .ok (.aload_n 0, 1) := by decide +kernel
theorem dX12_lessen_109 : decode cX12_lessen 109 = .ok (.getfield 100, 3) := by decide +kernel
theorem dX12_lessen_112 : decode cX12_lessen 112 = .ok (.bipush 44, 2) := by decide +kernel
theorem dX12_lessen_114 : decode cX12_lessen 114 = .ok (.iload 4, 2) := by decide +kernel
theorem dX12_lessen_116 : decode cX12_lessen 116 = .ok (.iadd, 1) := by decide +kernel
theorem dX12_lessen_117 : decode cX12_lessen 117 = .ok (.dup2, 1) := by decide +kernel
theorem dX12_lessen_118 : decode cX12_lessen 118 = .ok (.iaload, 1) := by decide +kernel
theorem dX12_lessen_119 : decode cX12_lessen 119 = .ok (.lload_n 2, 1) := by decide +kernel
theorem dX12_lessen_120 : decode cX12_lessen 120 = .ok (.l2i, 1) := by decide +kernel
theorem dX12_lessen_121 : decode cX12_lessen 121 = .ok (.idiv, 1) := by decide +kernel
theorem dX12_lessen_122 : decode cX12_lessen 122 = .ok (.iastore, 1) := by decide +kernel
theorem dX12_lessen_123 : decode cX12_lessen 123 = .ok (.aload_n 0, 1) := by decide +kernel
theorem dX12_lessen_124 : decode cX12_lessen 124 = .ok (.getfield 100, 3) := by decide +kernel
theorem dX12_lessen_127 : decode cX12_lessen 127 = .ok (.bipush 84, 2) := by decide +kernel
theorem dX12_lessen_129 : decode cX12_lessen 129 = .ok (.iload 4, 2) := by decide +kernel
theorem dX12_lessen_131 : decode cX12_lessen 131 = .ok (.iadd, 1) := by decide +kernel
theorem dX12_lessen_132 : decode cX12_lessen 132 = .ok (.dup2, 1) := by decide +kernel
theorem dX12_lessen_133 : decode cX12_lessen 133 = .ok (.iaload, 1) := by decide +kernel
theorem dX12_lessen_134 : decode cX12_lessen 134 = .ok (.lload_n 2, 1) := by decide +kernel
theorem dX12_lessen_135 : decode cX12_lessen 135 = .ok (.l2i, 1) := by decide +kernel
theorem dX12_lessen_136 : decode cX12_lessen 136 = .ok (.idiv, 1) := by decide +kernel
theorem dX12_lessen_137 : decode cX12_lessen 137 = .ok (.iastore, 1) := by decide +kernel
theorem dX12_lessen_138 : decode cX12_lessen 138 = .ok (.iinc 4 1, 3) := by decide +kernel
theorem dX12_lessen_141 : decode cX12_lessen 141 = .ok (.goto (-58), 3) := by decide +kernel
theorem dX12_lessen_144 : decode cX12_lessen 144 = .ok (.aload_n 0, 1) := by decide +kernel
theorem dX12_lessen_145 : decode cX12_lessen 145 = .ok (.invokevirtual 403, 3) := by decide +kernel
theorem dX12_lessen_148 : decode cX12_lessen 148 = .ok (.ireturn, 1) := by decide +kernel
theorem dX12_undo_0 : decode cX12_undo 0 = .ok (.aload_n 0, 1) := by decide +kernel
theorem dX12_undo_1 : decode cX12_undo 1 = .ok (.iconst 0, 1) := by decide +kernel
theorem dX12_undo_2 : decode cX12_undo 2 = .ok (.putfield 103, 3) := by decide +kernel
theorem dX12_undo_5 : decode cX12_undo 5 = .ok (.aload_n 0, 1) := by decide +kernel
theorem dX12_undo_6 : decode cX12_undo 6 = .ok (.getfield 297, 3) := by decide +kernel
theorem dX12_undo_9 : decode cX12_undo 9 = .ok (.ifCond .ne 5, 3) := by decide +kernel
theorem dX12_undo_12 : decode cX12_undo 12 = .ok (.iconst (-1), 1) := by decide +kernel
theorem dX12_undo_13 : decode cX12_undo 13 = .ok (.ireturn, 1) := by decide +kernel
theorem dX12_undo_14 : decode cX12_undo 14 = .ok (.aload_n 0, 1) := by decide +kernel
theorem dX12_undo_15 : decode cX12_undo 15 = .ok (.dup, 1) := by decide +kernel
theorem dX12_undo_16 : decode cX12_undo 16 = .ok (.getfield 297, 3) := by decide +kernel
theorem dX12_undo_19 : decode cX12_undo 19 = .ok (.iconst 1, 1) := by decide +kernel
theorem dX12_undo_20 : decode cX12_undo 20 = .ok (.isub, 1) := by decide +kernel
theorem dX12_undo_21 : decode cX12_undo 21 = .ok (.putfield 297, 3) := by decide +kernel
theorem dX12_undo_24 : decode cX12_undo 24 = .ok (.aload_n 0, 1) := by decide +kernel
theorem dX12_undo_25 : decode cX12_undo 25 = .ok (.dup, 1) := by decide +kernel
theorem dX12_undo_26 : decode cX12_undo 26 = .ok (.getfield 285, 3) := by decide +kernel
theorem dX12_undo_29 : decode cX12_undo 29 = .ok (.iconst 1, 1) := by decide +kernel
theorem dX12_undo_30 : decode cX12_undo 30 = .ok (.isub, 1) := by decide +kernel
theorem dX12_undo_31 : decode cX12_undo 31 = .ok (.putfield 285, 3) := by decide +kernel
theorem dX12_undo_34 : decode cX12_undo 34 = .ok (.aload_n 0, 1) := by decide +kernel
theorem dX12_undo_35 : decode cX12_undo 35 = .ok (.getfield 297, 3) := by decide +kernel
theorem dX12_undo_38 : decode cX12_undo 38 = .ok (.ireturn, 1) := by decide +kernel
theorem dX12_keep_0 : decode cX12_keep 0 = .ok (.aload_n 0, 1) := by decide +kernel
theorem dX12_keep_1 : decode cX12_keep 1 = .ok (.iconst 0, 1) := by decide +kernel
theorem dX12_keep_2 : decode cX12_keep 2 = .ok (.putfield 103, 3) := by decide +kernel
theorem dX12_keep_5 : decode cX12_keep 5 = .ok (.iload_n 1, 1) := by decide +kernel
theorem dX12_keep_6 : decode cX12_keep 6 = .ok (.i2l, 1) := by decide +kernel
theorem dX12_keep_7 : decode cX12_keep 7 = .ok (.lconst 0, 1) := by decide +kernel
theorem dX12_keep_8 : decode cX12_keep 8 = .ok (.lconst 1, 1) := by decide +kernel
theorem dX12_keep_9 : decode cX12_keep 9 = .ok (.invokestatic 141, 3) := by decide +kernel
theorem dX12_keep_12 : decode cX12_keep 12 = .ok (.ifCond .eq 16, 3) := by decide +kernel
theorem dX12_keep_15 : decode cX12_keep 15 = .ok (.iload_n 2, 1) := by decide +kernel
theorem dX12_keep_16 : decode cX12_keep 16 = .ok (.ifCond .eq 14, 3) := by decide +kernel
theorem dX12_keep_19 : decode cX12_keep 19 = .ok (.aload_n 0, 1) := by decide +kernel
theorem dX12_keep_20 : decode cX12_keep 20 = .ok (.getfield 39, 3) := by decide +kernel
theorem dX12_keep_23 : decode cX12_keep 23 = .ok (.iload_n 1, 1) := by decide +kernel
theorem dX12_keep_24 : decode cX12_keep 24 = .ok (.baload, 1) := by decide +kernel
theorem dX12_keep_25 : decode cX12_keep 25 = .ok (.ifCond .ne 5, 3) := by decide +kernel
theorem dX12_keep_28 : decode cX12_keep 28 = .ok (.iconst 0, 1) := by decide +kernel
theorem dX12_keep_29 : decode cX12_keep 29 = .ok (.ireturn, 1) := by decide +kernel
theorem dX12_keep_30 : decode cX12_keep 30 = .ok (.iconst 0, 1) := by decide +kernel
theorem dX12_keep_31 : decode cX12_keep 31 = .ok (.istore_n 3, 1) := by decide +kernel
theorem dX12_keep_32 : decode cX12_keep 32 = .ok (.iload_n 3, 1) := by decide +kernel
theorem dX12_keep_33 : decode cX12_keep 33 = .ok (.sipush 1488, 3) := by decide +kernel
theorem dX12_keep_36 : decode cX12_keep 36 = .ok (.if_icmp .ge 52, 3) := by decide +kernel
theorem dX12_keep_39 : decode cX12_keep 39 = .ok (.iload_n 2, 1) := by decide +kernel
theorem dX12_keep_40 : decode cX12_keep 40 = .ok (.ifCond .eq 24, 3) := by decide +kernel
theorem dX12_keep_43 : decode cX12_keep 43 = .ok (.aload_n 0, 1) := by decide +kernel
theorem dX12_keep_44 : decode cX12_keep 44 = .ok (.getfield 30, 3) := by decide +kernel
theorem dX12_keep_47 : decode cX12_keep 47 = .ok (.iload_n 3, 1) := by decide +kernel
theorem dX12_keep_48 : decode cX12_keep 48 = .ok (.aload_n 0, 1) := by decide +kernel
theorem dX12_keep_49 : decode cX12_keep 49 = .ok (.getfield 33, 3) := by decide +kernel
theorem dX12_keep_52 : decode cX12_keep 52 = .ok (.sipush 1488, 3) := by decide +kernel
theorem dX12_keep_55 : decode cX12_keep 55 = .ok (.iload_n 1, 1) := by decide +kernel
theorem dX12_keep_56 : decode cX12_keep 56 = .ok (.imul, 1) := by decide +kernel
theorem dX12_keep_57 : decode cX12_keep 57 = .ok (.iload_n 3, 1) := by decide +kernel
theorem dX12_keep_58 : decode cX12_keep 58 = .ok (.iadd, 1) := by decide +kernel
theorem dX12_keep_59 : decode cX12_keep 59 = .ok (.iaload, 1) := by decide +kernel
theorem dX12_keep_60 : decode cX12_keep 60 = .ok (.iastore, 1) := by decide +kernel
theorem dX12_keep_61 : decode cX12_keep 61 = .ok (.goto 21, 3) := by decide +kernel
theorem dX12_keep_64 : decode cX12_keep 64 = .ok (.aload_n 0, 1) := by decide +kernel
theorem dX12_keep_65 : decode cX12_keep 65 = .ok (.getfield 33, 3) := by decide +kernel
theorem dX12_keep_68 : decode cX12_keep 68 = .ok (.sipush 1488, 3) := by decide +kernel
theorem dX12_keep_71 : decode cX12_keep 71 = .ok (.iload_n 1, 1) := by decide +kernel
theorem dX12_keep_72 : decode cX12_keep 72 = .ok (.imul, 1) := by decide +kernel
theorem dX12_keep_73 : decode cX12_keep 73 = .ok (.iload_n 3, 1) := by decide +kernel
theorem dX12_keep_74 : decode cX12_keep 74 = .ok (.iadd, 1) := by decide +kernel
theorem dX12_keep_75 : decode cX12_keep 75 = .ok (.aload_n 0, 1) := by decide +kernel
theorem dX12_keep_76 : decode cX12_keep 76 = .ok (.getfield 30, 3) := by decide +kernel
theorem dX12_keep_79 : decode cX12_keep 79 = .ok (.iload_n 3, 1) := by decide +kernel
theorem dX12_keep_80 : decode cX12_keep 80 = .ok (.iaload, 1) := by decide +kernel
theorem dX12_keep_81 : decode cX12_keep 81 = .ok (.iastore, 1) := by decide +kernel
theorem dX12_keep_82 : decode cX12_keep 82 = .ok (.iinc 3 1, 3) := by decide +kernel
theorem dX12_keep_85 : decode cX12_keep 85 = .ok (.goto (-53), 3) := by decide +kernel
theorem dX12_keep_88 : decode cX12_keep 88 = .ok (.iload_n 2, 1) := by decide +kernel
theorem dX12_keep_89 : decode cX12_keep 89 = .ok (.ifCond .eq 21, 3) := by decide +kernel
theorem dX12_keep_92 : decode cX12_keep 92 = .ok (.aload_n 0, 1) := by decide +kernel
theorem dX12_keep_93 : decode cX12_keep 93 = .ok (.aload_n 0, 1) := by decide +kernel
theorem dX12_keep_94 : decode cX12_keep 94 = .ok (.getfield 36, 3) := by decide +kernel
theorem dX12_keep_97 : decode cX12_keep 97 = .ok (.iload_n 1, 1) := by decide +kernel
theorem dX12_keep_98 : decode cX12_keep 98 = .ok (.iaload, 1) := by decide +kernel
theorem dX12_keep_99 : decode cX12_keep 99 = .ok (.putfield 285, 3) := by decide +kernel
theorem dX12_keep_102 : decode cX12_keep 102 = .ok (.aload_n 0, 1) := by decide +kernel
theorem dX12_keep_103 : decode cX12_keep 103 = .ok (.iconst 0, 1) := by decide +kernel
theorem dX12_keep_104 : decode cX12_keep 104 = .ok (.putfield 297, 3) := by decide +kernel
theorem dX12_keep_107 : decode cX12_keep 107 = .ok (.goto 20, 3) := by decide +kernel
theorem dX12_keep_110 : decode cX12_keep 110 = .ok (.aload_n 0, 1) := by decide +kernel
theorem dX12_keep_111 : decode cX12_keep 111 = .ok (.getfield 36, 3) := by decide +kernel
theorem dX12_keep_114 : decode cX12_keep 114 = .ok (.iload_n 1, 1) := by decide +kernel
theorem dX12_keep_115 : decode cX12_keep 115 = .ok (.aload_n 0, 1) := by decide +kernel
theorem dX12_keep_116 : decode cX12_keep 116 = .ok (.getfield 285, 3) := by decide +kernel
theorem dX12_keep_119 : decode cX12_keep 119 = .ok (.iastore, 1) := by decide +kernel
theorem dX12_keep_120 : decode cX12_keep 120 = .ok (.aload_n 0, 1) := by decide +kernel
theorem dX12_keep_121 : decode cX12_keep 121 = .ok (.getfield 39, 3) := by decide +kernel
theorem dX12_keep_124 : decode cX12_keep 124 = .ok (.iload_n 1, 1) := by decide +kernel
theorem dX12_keep_125 : decode cX12_keep 125 = .ok (.iconst 1, 1) := by decide +kernel
theorem dX12_keep_126 : decode cX12_keep 126 = .ok (.bastore, 1) := by decide +kernel
theorem dX12_keep_127 : decode cX12_keep 127 = .ok (.iconst 1, 1) := by decide +kernel
theorem dX12_keep_128 : decode cX12_keep 128 = .ok (.ireturn, 1) := by decide +kernel
theorem dX12_count_0 : decode cX12_count 0 = .ok (.aload_n 0, 1) := by decide +kernel
theorem dX12_count_1 : decode cX12_count 1 = .ok (.iconst 0, 1) := by decide +kernel
theorem dX12_count_2 : decode cX12_count 2 = .ok (.putfield 103, 3) := by decide +kernel
theorem dX12_count_5 : decode cX12_count 5 = .ok (.iconst 0, 1) := by decide +kernel
theorem dX12_count_6 : decode cX12_count 6 = .ok (.istore_n 2, 1) := by decide +kernel
theorem dX12_count_7 : decode cX12_count 7 = .ok (.iload_n 1, 1) := by decide +kernel
theorem dX12_count_8 : decode cX12_count 8 = .ok (.tableswitch 129 0 5 #[40, 45, 72, 114, 119, 124], 40) := by decide +kernel
theorem dX12_count_48 : decode cX12_count 48 = .ok (.aload_n 0, 1) := by decide +kernel
theorem dX12_count_49 : decode cX12_count 49 = .ok (.getfield 285, 3) := by decide +kernel
theorem dX12_count_52 : decode cX12_count 52 = .ok (.ireturn, 1) := by decide +kernel
theorem dX12_count_53 : decode cX12_count 53 = .ok (.iconst 0, 1) := by decide +kernel
theorem dX12_count_54 : decode cX12_count 54 = .ok (.istore_n 3, 1) := by decide +kernel
theorem dX12_count_55 : decode cX12_count 55 = .ok (.iload_n 3, 1) := by decide +kernel
theorem dX12_count_56 : decode cX12_count 56 = .ok (.aload_n 0, 1) := by decide +kernel
theorem dX12_count_57 : decode cX12_count 57 = .ok (.getfield 285, 3) := by decide +kernel
theorem dX12_count_60 : decode cX12_count 60 = .ok (.if_icmp .ge 18, 3) := by decide +kernel
theorem dX12_count_63 : decode cX12_count 63 = .ok (.iload_n 2, 1) := by decide +kernel
theorem dX12_count_64 : decode cX12_count 64 = .ok (.aload_n 0, 1) := by decide +kernel
theorem dX12_count_65 : decode cX12_count 65 = .ok (.iload_n 3, 1) := by decide +kernel
theorem dX12_count_66 : decode cX12_count 66 = .ok (.iconst 3, 1) := by decide +kernel
theorem dX12_count_67 : decode cX12_count 67 = .ok (.invokevirtual 306, 3) := by decide +kernel
theorem dX12_count_70 : decode cX12_count 70 = .ok (.iadd, 1) := by decide +kernel
theorem dX12_count_71 : decode cX12_count 71 = .ok (.istore_n 2, 1) := by decide +kernel
theorem dX12_count_72 : decode cX12_count 72 = .ok (.iinc 3 1, 3) := by decide +kernel
theorem dX12_count_75 : decode cX12_count 75 = .ok (.goto (-20), 3) := by decide +kernel
theorem dX12_count_78 : decode cX12_count 78 = .ok (.iload_n 2, 1) := by decide +kernel
theorem dX12_count_79 : decode cX12_count 79 = .ok (.ireturn, 1) := by decide +kernel
theorem dX12_count_80 : decode cX12_count 80 = .ok (.iconst 0, 1) := by decide +kernel
theorem dX12_count_81 : decode cX12_count 81 = .ok (.istore_n 3, 1) := by decide +kernel
theorem dX12_count_82 : decode cX12_count 82 = .ok (.iload_n 3, 1) := by decide +kernel
theorem dX12_count_83 : decode cX12_count 83 = .ok (.aload_n 0, 1) := by decide +kernel
theorem dX12_count_84 : decode cX12_count 84 = .ok (.getfield 285, 3) := by decide +kernel
theorem dX12_count_87 : decode cX12_count 87 = .ok (.if_icmp .ge 33, 3) := by decide +kernel
theorem dX12_count_90 : decode cX12_count 90 = .ok (.iload_n 2, 1) := by decide +kernel
theorem dX12_count_91 : decode cX12_count 91 = .ok (.aload_n 0, 1) := by decide +kernel
theorem dX12_count_92 : decode cX12_count 92 = .ok (.iload_n 3, 1) := by decide +kernel
theorem dX12_count_93 : decode cX12_count 93 = .ok (.invokevirtual 325, 3) := by decide +kernel
theorem dX12_count_96 : decode cX12_count 96 = .ok (.ifCond .ne 15, 3) := by decide +kernel
theorem dX12_count_99 : decode cX12_count 99 = .ok (.aload_n 0, 1) := by decide +kernel
theorem dX12_count_100 : decode cX12_count 100 = .ok (.iload_n 3, 1) := by decide +kernel
theorem dX12_count_101 : decode cX12_count 101 = .ok (.invokevirtual 328, 3) := by decide +kernel
theorem dX12_count_104 : decode cX12_count 104 = .ok (.ifCond .eq 7, 3) := by decide +kernel
theorem dX12_count_107 : decode cX12_count 107 = .ok (.iconst 1, 1) := by decide +kernel
theorem dX12_count_108 : decode cX12_count 108 = .ok (.goto 4, 3) := by decide +kernel
theorem dX12_count_111 : decode cX12_count 111 = .ok (.iconst 0, 1) := by decide +kernel
theorem dX12_count_112 : decode cX12_count 112 = .ok (.iadd, 1) := by decide +kernel
theorem dX12_count_113 : decode cX12_count 113 = .ok (.istore_n 2, 1) := by decide +kernel
theorem dX12_count_114 : decode cX12_count 114 = .ok (.iinc 3 1, 3) := by decide +kernel
theorem dX12_count_117 : decode cX12_count 117 = .ok (.goto (-35), 3) := by decide +kernel
theorem dX12_count_120 : decode cX12_count 120 = .ok (.iload_n 2, 1) := by decide +kernel
theorem dX12_count_121 : decode cX12_count 121 = .ok (.ireturn, 1) := by decide +kernel
theorem dX12_count_122 : decode cX12_count 122 = .ok (.aload_n 0, 1) := by decide +kernel
theorem dX12_count_123 : decode cX12_count 123 = .ok (.getfield 297, 3) := by decide +kernel
theorem dX12_count_126 : decode cX12_count 126 = .ok (.ireturn, 1) := by decide +kernel
theorem dX12_count_127 : decode cX12_count 127 = .ok (.aload_n 0, 1) := by decide +kernel
theorem dX12_count_128 : decode cX12_count 128 = .ok (.getfield 107, 3) := by decide +kernel
theorem dX12_count_131 : decode cX12_count 131 = .ok (.ireturn, 1) := by decide +kernel
theorem dX12_count_132 : decode cX12_count 132 = .ok (.aload_n 0, 1) := by decide +kernel
theorem dX12_count_133 : decode cX12_count 133 = .ok (.getfield 342, 3) := by decide +kernel
theorem dX12_count_136 : decode cX12_count 136 = .ok (.ireturn, 1) := by decide +kernel
theorem dX12_count_137 : decode cX12_count 137 = .ok (.iconst (-1), 1) := by decide +kernel
theorem dX12_count_138 : decode cX12_count 138 = .ok (.ireturn, 1) := by decide +kernel
theorem dJ9_abs_0f7a4_0 : decode cJ9_abs_0f7a4 0 = .ok (.iload_n 0, 1) := by decide +kernel
theorem dJ9_abs_0f7a4_1 : decode cJ9_abs_0f7a4 1 = .ok (.ifCond .ge 8, 3) := by decide +kernel
theorem dJ9_abs_0f7a4_4 : decode cJ9_abs_0f7a4 4 = .ok (.iload_n 0, 1) := by decide +kernel
theorem dJ9_abs_0f7a4_5 : decode cJ9_abs_0f7a4 5 = .ok (.ineg, 1) := by decide +kernel
theorem dJ9_abs_0f7a4_6 : decode cJ9_abs_0f7a4 6 = .ok (.goto 4, 3) := by decide +kernel
theorem dJ9_abs_0f7a4_9 : decode cJ9_abs_0f7a4 9 = .ok (.iload_n 0, 1) := by decide +kernel
theorem dJ9_abs_0f7a4_10 : decode cJ9_abs_0f7a4 10 = .ok (.ireturn, 1) := by decide +kernel
theorem dJ9_max_7cf53_0 : decode cJ9_max_7cf53 0 = .ok (.iload_n 0, 1) := by decide +kernel
theorem dJ9_max_7cf53_1 : decode cJ9_max_7cf53 1 = .ok (.iload_n 1, 1) := by decide +kernel
theorem dJ9_max_7cf53_2 : decode cJ9_max_7cf53 2 = .ok (.if_icmp .lt 7, 3) := by decide +kernel
theorem dJ9_max_7cf53_5 : decode cJ9_max_7cf53 5 = .ok (.iload_n 0, 1) := by decide +kernel
theorem dJ9_max_7cf53_6 : decode cJ9_max_7cf53 6 = .ok (.goto 4, 3) := by decide +kernel
theorem dJ9_max_7cf53_9 : decode cJ9_max_7cf53 9 = .ok (.iload_n 1, 1) := by decide +kernel
theorem dJ9_max_7cf53_10 : decode cJ9_max_7cf53 10 = .ok (.ireturn, 1) := by decide +kernel
theorem dJ9_min_7cf53_0 : decode cJ9_min_7cf53 0 = .ok (.iload_n 0, 1) := by decide +kernel
theorem dJ9_min_7cf53_1 : decode cJ9_min_7cf53 1 = .ok (.iload_n 1, 1) := by decide +kernel
theorem dJ9_min_7cf53_2 : decode cJ9_min_7cf53 2 = .ok (.if_icmp .gt 7, 3) := by decide +kernel
theorem dJ9_min_7cf53_5 : decode cJ9_min_7cf53 5 = .ok (.iload_n 0, 1) := by decide +kernel
theorem dJ9_min_7cf53_6 : decode cJ9_min_7cf53 6 = .ok (.goto 4, 3) := by decide +kernel
theorem dJ9_min_7cf53_9 : decode cJ9_min_7cf53 9 = .ok (.iload_n 1, 1) := by decide +kernel
theorem dJ9_min_7cf53_10 : decode cJ9_min_7cf53 10 = .ok (.ireturn, 1) := by decide +kernel
theorem dJ0_length_8abf5_0 : decode cJ0_length_8abf5 0 = .ok (.aload_n 0, 1) := by decide +kernel
theorem dJ0_length_8abf5_1 : decode cJ0_length_8abf5 1 = .ok (.getfield 9, 3) := by decide +kernel
theorem dJ0_length_8abf5_4 : decode cJ0_length_8abf5 4 = .ok (.arraylength, 1) := by decide +kernel
theorem dJ0_length_8abf5_5 : decode cJ0_length_8abf5 5 = .ok (.aload_n 0, 1) := by decide +kernel
theorem dJ0_length_8abf5_6 : decode cJ0_length_8abf5 6 = .ok (.invokevirtual 335, 3) := by decide +kernel
theorem dJ0_length_8abf5_9 : decode cJ0_length_8abf5 9 = .ok (.ishr, 1) := by decide +kernel
theorem dJ0_length_8abf5_10 : decode cJ0_length_8abf5 10 = .ok (.ireturn, 1) := by decide +kernel
theorem dJ0_charAt_5068e_0 : decode cJ0_charAt_5068e 0 = .ok (.aload_n 0, 1) := by decide +kernel
theorem dJ0_charAt_5068e_1 : decode cJ0_charAt_5068e 1 = .ok (.invokevirtual 492, 3) := by decide +kernel
theorem dJ0_charAt_5068e_4 : decode cJ0_charAt_5068e 4 = .ok (.ifCond .eq 12, 3) := by decide +kernel
theorem dJ0_charAt_5068e_7 : decode cJ0_charAt_5068e 7 = .ok (.aload_n 0, 1) := by decide +kernel
theorem dJ0_charAt_5068e_8 : decode cJ0_charAt_5068e 8 = .ok (.getfield 9, 3) := by decide +kernel
theorem dJ0_charAt_5068e_11 : decode cJ0_charAt_5068e 11 = .ok (.iload_n 1, 1) := by decide +kernel
theorem dJ0_charAt_5068e_12 : decode cJ0_charAt_5068e 12 = .ok (.invokestatic 495, 3) := by decide +kernel
theorem dJ0_charAt_5068e_15 : decode cJ0_charAt_5068e 15 = .ok (.ireturn, 1) := by decide +kernel
theorem dJ0_charAt_5068e_16 : decode cJ0_charAt_5068e 16 = .ok (.aload_n 0, 1) := by decide +kernel
theorem dJ0_charAt_5068e_17 : decode cJ0_charAt_5068e 17 = .ok (.getfield 9, 3) := by decide +kernel
theorem dJ0_charAt_5068e_20 : decode cJ0_charAt_5068e 20 = .ok (.iload_n 1, 1) := by decide +kernel
theorem dJ0_charAt_5068e_21 : decode cJ0_charAt_5068e 21 = .ok (.invokestatic 498, 3) := by decide +kernel
theorem dJ0_charAt_5068e_24 : decode cJ0_charAt_5068e 24 = .ok (.ireturn, 1) := by decide +kernel
theorem dJ0_coder_7d493_0 : decode cJ0_coder_7d493 0 = .ok (.getstatic 38, 3) := by decide +kernel
theorem dJ0_coder_7d493_3 : decode cJ0_coder_7d493 3 = .ok (.ifCond .eq 10, 3) := by decide +kernel
theorem dJ0_coder_7d493_6 : decode cJ0_coder_7d493 6 = .ok (.aload_n 0, 1) := by decide +kernel
theorem dJ0_coder_7d493_7 : decode cJ0_coder_7d493 7 = .ok (.getfield 15, 3) := by decide +kernel
theorem dJ0_coder_7d493_10 : decode cJ0_coder_7d493 10 = .ok (.goto 4, 3) := by decide +kernel
theorem dJ0_coder_7d493_13 : decode cJ0_coder_7d493 13 = .ok (.iconst 1, 1) := by decide +kernel
theorem dJ0_coder_7d493_14 : decode cJ0_coder_7d493 14 = .ok (.ireturn, 1) := by decide +kernel
theorem dJ0_isLatin1_aae02_0 : decode cJ0_isLatin1_aae02 0 = .ok (.getstatic 38, 3) := by decide +kernel
theorem dJ0_isLatin1_aae02_3 : decode cJ0_isLatin1_aae02 3 = .ok (.ifCond .eq 14, 3) := by decide +kernel
theorem dJ0_isLatin1_aae02_6 : decode cJ0_isLatin1_aae02 6 = .ok (.aload_n 0, 1) := by decide +kernel
theorem dJ0_isLatin1_aae02_7 : decode cJ0_isLatin1_aae02 7 = .ok (.getfield 15, 3) := by decide +kernel
theorem dJ0_isLatin1_aae02_10 : decode cJ0_isLatin1_aae02 10 = .ok (.ifCond .ne 7, 3) := by decide +kernel
theorem dJ0_isLatin1_aae02_13 : decode cJ0_isLatin1_aae02 13 = .ok (.iconst 1, 1) := by decide +kernel
theorem dJ0_isLatin1_aae02_14 : decode cJ0_isLatin1_aae02 14 = .ok (.goto 4, 3) := by decide +kernel
theorem dJ0_isLatin1_aae02_17 : decode cJ0_isLatin1_aae02 17 = .ok (.iconst 0, 1) := by decide +kernel
theorem dJ0_isLatin1_aae02_18 : decode cJ0_isLatin1_aae02 18 = .ok (.ireturn, 1) := by decide +kernel
theorem dJ0_checkIndex_df160_0 : decode cJ0_checkIndex_df160 0 = .ok (.iload_n 0, 1) := by decide +kernel
theorem dJ0_checkIndex_df160_1 : decode cJ0_checkIndex_df160 1 = .ok (.iload_n 1, 1) := by decide +kernel
theorem dJ0_checkIndex_df160_2 : decode cJ0_checkIndex_df160 2 = .ok (.getstatic 1053, 3) := by decide +kernel
theorem dJ0_checkIndex_df160_5 : decode cJ0_checkIndex_df160 5 = .ok (.invokestatic 1059, 3) := by decide +kernel
theorem dJ0_checkIndex_df160_8 : decode cJ0_checkIndex_df160 8 = .ok (.pop, 1) := by decide +kernel
theorem dJ0_checkIndex_df160_9 : decode cJ0_checkIndex_df160 9 = .ok (.return_, 1) := by decide +kernel
theorem dJ1_charAt_3b067_0 : decode cJ1_charAt_3b067 0 = .ok (.iload_n 1, 1) := by decide +kernel
theorem dJ1_charAt_3b067_1 : decode cJ1_charAt_3b067 1 = .ok (.aload_n 0, 1) := by decide +kernel
theorem dJ1_charAt_3b067_2 : decode cJ1_charAt_3b067 2 = .ok (.arraylength, 1) := by decide +kernel
theorem dJ1_charAt_3b067_3 : decode cJ1_charAt_3b067 3 = .ok (.invokestatic 9, 3) := by decide +kernel
theorem dJ1_charAt_3b067_6 : decode cJ1_charAt_3b067 6 = .ok (.aload_n 0, 1) := by decide +kernel
theorem dJ1_charAt_3b067_7 : decode cJ1_charAt_3b067 7 = .ok (.iload_n 1, 1) := by decide +kernel
theorem dJ1_charAt_3b067_8 : decode cJ1_charAt_3b067 8 = .ok (.baload, 1) := by decide +kernel
theorem dJ1_charAt_3b067_9 : decode cJ1_charAt_3b067 9 = .ok (.sipush 255, 3) := by decide +kernel
theorem dJ1_charAt_3b067_12 : decode cJ1_charAt_3b067 12 = .ok (.iand, 1) := by decide +kernel
theorem dJ1_charAt_3b067_13 : decode cJ1_charAt_3b067 13 = .ok (.i2c, 1) := by decide +kernel
theorem dJ1_charAt_3b067_14 : decode cJ1_charAt_3b067 14 = .ok (.ireturn, 1) := by decide +kernel
theorem dJ2_getChar_3b067_0 : decode cJ2_getChar_3b067 0 = .ok (.getstatic 44, 3) := by decide +kernel
theorem dJ2_getChar_3b067_3 : decode cJ2_getChar_3b067 3 = .ok (.ifCond .ne 25, 3) := by decide +kernel
theorem dJ2_getChar_3b067_6 : decode cJ2_getChar_3b067 6 = .ok (.iload_n 1, 1) := by decide +kernel
theorem dJ2_getChar_3b067_7 : decode cJ2_getChar_3b067 7 = .ok (.ifCond .lt 11, 3) := by decide +kernel
theorem dJ2_getChar_3b067_10 : decode cJ2_getChar_3b067 10 = .ok (.iload_n 1, 1) := by decide +kernel
theorem dJ2_getChar_3b067_11 : decode cJ2_getChar_3b067 11 = .ok (.aload_n 0, 1) := by decide +kernel
theorem dJ2_getChar_3b067_12 : decode cJ2_getChar_3b067 12 = .ok (.invokestatic 48, 3) := by decide +kernel
theorem dJ2_getChar_3b067_15 : decode cJ2_getChar_3b067 15 = .ok (.if_icmp .lt 13, 3) := by decide +kernel
theorem dJ2_getChar_3b067_18 : decode cJ2_getChar_3b067 18 = .ok (.new 52, 3) := by decide +kernel
theorem dJ2_getChar_3b067_21 : decode cJ2_getChar_3b067 21 = .ok (.dup, 1) := by decide +kernel
theorem dJ2_getChar_3b067_22 : decode cJ2_getChar_3b067 22 = .ok (.ldc 54, 2) := by decide +kernel
theorem dJ2_getChar_3b067_24 : decode cJ2_getChar_3b067 24 = .ok (.invokespecial 56, 3) := by decide +kernel
theorem dJ2_getChar_3b067_27 : decode cJ2_getChar_3b067 27 = .ok (.athrow, 1) := by decide +kernel
theorem dJ2_getChar_3b067_28 : decode cJ2_getChar_3b067 28 = .ok (.iload_n 1, 1) := by decide +kernel
theorem dJ2_getChar_3b067_29 : decode cJ2_getChar_3b067 29 = .ok (.iconst 1, 1) := by decide +kernel
theorem dJ2_getChar_3b067_30 : decode cJ2_getChar_3b067 30 = .ok (.ishl, 1) := by decide +kernel
theorem dJ2_getChar_3b067_31 : decode cJ2_getChar_3b067 31 = .ok (.istore_n 1, 1) := by decide +kernel
theorem dJ2_getChar_3b067_32 : decode cJ2_getChar_3b067 32 = .ok (.aload_n 0, 1) := by decide +kernel
theorem dJ2_getChar_3b067_33 : decode cJ2_getChar_3b067 33 = .ok (.iload_n 1, 1) := by decide +kernel
theorem dJ2_getChar_3b067_34 : decode cJ2_getChar_3b067 34 = .ok (.iinc 1 1, 3) := by decide +kernel
theorem dJ2_getChar_3b067_37 : decode cJ2_getChar_3b067 37 = .ok (.baload, 1) := by decide +kernel
theorem dJ2_getChar_3b067_38 : decode cJ2_getChar_3b067 38 = .ok (.sipush 255, 3) := by decide +kernel
theorem dJ2_getChar_3b067_41 : decode cJ2_getChar_3b067 41 = .ok (.iand, 1) := by decide +kernel
theorem dJ2_getChar_3b067_42 : decode cJ2_getChar_3b067 42 = .ok (.getstatic 59, 3) := by decide +kernel
theorem dJ2_getChar_3b067_45 : decode cJ2_getChar_3b067 45 = .ok (.ishl, 1) := by decide +kernel
theorem dJ2_getChar_3b067_46 : decode cJ2_getChar_3b067 46 = .ok (.aload_n 0, 1) := by decide +kernel
theorem dJ2_getChar_3b067_47 : decode cJ2_getChar_3b067 47 = .ok (.iload_n 1, 1) := by decide +kernel
theorem dJ2_getChar_3b067_48 : decode cJ2_getChar_3b067 48 = .ok (.baload, 1) := by decide +kernel
theorem dJ2_getChar_3b067_49 : decode cJ2_getChar_3b067 49 = .ok (.sipush 255, 3) := by decide +kernel
theorem dJ2_getChar_3b067_52 : decode cJ2_getChar_3b067 52 = .ok (.iand, 1) := by decide +kernel
theorem dJ2_getChar_3b067_53 : decode cJ2_getChar_3b067 53 = .ok (.getstatic 63, 3) := by decide +kernel
theorem dJ2_getChar_3b067_56 : decode cJ2_getChar_3b067 56 = .ok (.ishl, 1) := by decide +kernel
theorem dJ2_getChar_3b067_57 : decode cJ2_getChar_3b067 57 = .ok (.ior, 1) := by decide +kernel
theorem dJ2_getChar_3b067_58 : decode cJ2_getChar_3b067 58 = .ok (.i2c, 1) := by decide +kernel
theorem dJ2_getChar_3b067_59 : decode cJ2_getChar_3b067 59 = .ok (.ireturn, 1) := by decide +kernel
theorem dJ2_length_9d52b_0 : decode cJ2_length_9d52b 0 = .ok (.aload_n 0, 1) := by decide +kernel
theorem dJ2_length_9d52b_1 : decode cJ2_length_9d52b 1 = .ok (.arraylength, 1) := by decide +kernel
theorem dJ2_length_9d52b_2 : decode cJ2_length_9d52b 2 = .ok (.iconst 1, 1) := by decide +kernel
theorem dJ2_length_9d52b_3 : decode cJ2_length_9d52b 3 = .ok (.ishr, 1) := by decide +kernel
theorem dJ2_length_9d52b_4 : decode cJ2_length_9d52b 4 = .ok (.ireturn, 1) := by decide +kernel
theorem dJ2_charAt_3b067_0 : decode cJ2_charAt_3b067 0 = .ok (.iload_n 1, 1) := by decide +kernel
theorem dJ2_charAt_3b067_1 : decode cJ2_charAt_3b067 1 = .ok (.aload_n 0, 1) := by decide +kernel
theorem dJ2_charAt_3b067_2 : decode cJ2_charAt_3b067 2 = .ok (.invokestatic 67, 3) := by decide +kernel
theorem dJ2_charAt_3b067_5 : decode cJ2_charAt_3b067 5 = .ok (.aload_n 0, 1) := by decide +kernel
theorem dJ2_charAt_3b067_6 : decode cJ2_charAt_3b067 6 = .ok (.iload_n 1, 1) := by decide +kernel
theorem dJ2_charAt_3b067_7 : decode cJ2_charAt_3b067 7 = .ok (.invokestatic 71, 3) := by decide +kernel
theorem dJ2_charAt_3b067_10 : decode cJ2_charAt_3b067 10 = .ok (.ireturn, 1) := by decide +kernel
theorem dJ2_checkIndex_2214a_0 : decode cJ2_checkIndex_2214a 0 = .ok (.iload_n 0, 1) := by decide +kernel
theorem dJ2_checkIndex_2214a_1 : decode cJ2_checkIndex_2214a 1 = .ok (.aload_n 1, 1) := by decide +kernel
theorem dJ2_checkIndex_2214a_2 : decode cJ2_checkIndex_2214a 2 = .ok (.invokestatic 48, 3) := by decide +kernel
theorem dJ2_checkIndex_2214a_5 : decode cJ2_checkIndex_2214a 5 = .ok (.invokestatic 414, 3) := by decide +kernel
theorem dJ2_checkIndex_2214a_8 : decode cJ2_checkIndex_2214a 8 = .ok (.return_, 1) := by decide +kernel
theorem dJ7_fill_d0a16_0 : decode cJ7_fill_d0a16 0 = .ok (.iconst 0, 1) := by decide +kernel
theorem dJ7_fill_d0a16_1 : decode cJ7_fill_d0a16 1 = .ok (.istore_n 3, 1) := by decide +kernel
theorem dJ7_fill_d0a16_2 : decode cJ7_fill_d0a16 2 = .ok (.aload_n 0, 1) := by decide +kernel
theorem dJ7_fill_d0a16_3 : decode cJ7_fill_d0a16 3 = .ok (.arraylength, 1) := by decide +kernel
theorem dJ7_fill_d0a16_4 : decode cJ7_fill_d0a16 4 = .ok (.istore 4, 2) := by decide +kernel
theorem dJ7_fill_d0a16_6 : decode cJ7_fill_d0a16 6 = .ok (.iload_n 3, 1) := by decide +kernel
theorem dJ7_fill_d0a16_7 : decode cJ7_fill_d0a16 7 = .ok (.iload 4, 2) := by decide +kernel
theorem dJ7_fill_d0a16_9 : decode cJ7_fill_d0a16 9 = .ok (.if_icmp .ge 13, 3) := by decide +kernel
theorem dJ7_fill_d0a16_12 : decode cJ7_fill_d0a16 12 = .ok (.aload_n 0, 1) := by decide +kernel
theorem dJ7_fill_d0a16_13 : decode cJ7_fill_d0a16 13 = .ok (.iload_n 3, 1) := by decide +kernel
theorem dJ7_fill_d0a16_14 : decode cJ7_fill_d0a16 14 = .ok (.lload_n 1, 1) := by decide +kernel
theorem dJ7_fill_d0a16_15 : decode cJ7_fill_d0a16 15 = .ok (.lastore, 1) := by decide +kernel
theorem dJ7_fill_d0a16_16 : decode cJ7_fill_d0a16 16 = .ok (.iinc 3 1, 3) := by decide +kernel
theorem dJ7_fill_d0a16_19 : decode cJ7_fill_d0a16 19 = .ok (.goto (-13), 3) := by decide +kernel
theorem dJ7_fill_d0a16_22 : decode cJ7_fill_d0a16 22 = .ok (.return_, 1) := by decide +kernel
theorem dJ3_checkIndex_8e157_0 : decode cJ3_checkIndex_8e157 0 = .ok (.iload_n 0, 1) := by decide +kernel
theorem dJ3_checkIndex_8e157_1 : decode cJ3_checkIndex_8e157 1 = .ok (.ifCond .lt 8, 3) := by decide +kernel
theorem dJ3_checkIndex_8e157_4 : decode cJ3_checkIndex_8e157 4 = .ok (.iload_n 0, 1) := by decide +kernel
theorem dJ3_checkIndex_8e157_5 : decode cJ3_checkIndex_8e157 5 = .ok (.iload_n 1, 1) := by decide +kernel
theorem dJ3_checkIndex_8e157_6 : decode cJ3_checkIndex_8e157 6 = .ok (.if_icmp .lt 10, 3) := by decide +kernel
theorem dJ3_checkIndex_8e157_9 : decode cJ3_checkIndex_8e157 9 = .ok (.aload_n 2, 1) := by decide +kernel
theorem dJ3_checkIndex_8e157_10 : decode cJ3_checkIndex_8e157 10 = .ok (.iload_n 0, 1) := by decide +kernel
theorem dJ3_checkIndex_8e157_11 : decode cJ3_checkIndex_8e157 11 = .ok (.iload_n 1, 1) := by decide +kernel
theorem dJ3_checkIndex_8e157_12 : decode cJ3_checkIndex_8e157 12 = .ok (.invokestatic 95, 3) := by decide +kernel
theorem dJ3_checkIndex_8e157_15 : decode cJ3_checkIndex_8e157 15 = .ok (.athrow, 1) := by decide +kernel
theorem dJ3_checkIndex_8e157_16 : decode cJ3_checkIndex_8e157 16 = .ok (.iload_n 0, 1) := by decide +kernel
theorem dJ3_checkIndex_8e157_17 : decode cJ3_checkIndex_8e157 17 = .ok (.ireturn, 1) := by decide +kernel
theorem dL_square_0 : decode cL_square 0 = .ok (.aload 4, 2) := by decide +kernel
theorem dL_square_2 : decode cL_square 2 = .ok (.iconst 0, 1) := by decide +kernel
theorem dL_square_3 : decode cL_square 3 = .ok (.aload_n 0, 1) := by decide +kernel
theorem dL_square_4 : decode cL_square 4 = .ok (.iload_n 1, 1) := by decide +kernel
theorem dL_square_5 : decode cL_square 5 = .ok (.iload_n 2, 1) := by decide +kernel
theorem dL_square_6 : decode cL_square 6 = .ok (.iload_n 3, 1) := by decide +kernel
theorem dL_square_7 : decode cL_square 7 = .ok (.invokevirtual 7, 3) := by decide +kernel
theorem dL_square_10 : decode cL_square 10 = .ok (.i2l, 1) := by decide +kernel
theorem dL_square_11 : decode cL_square 11 = .ok (.lastore, 1) := by decide +kernel
theorem dL_square_12 : decode cL_square 12 = .ok (.goto 7, 3) := by decide +kernel
theorem dL_square_15 : decode cL_square 15 = .ok (.astore 5, 2) := by decide +kernel
theorem dL_square_17 : decode cL_square 17 = .ok (.iconst 1, 1) := by decide +kernel
theorem dL_square_18 : decode cL_square 18 = .ok (.ireturn, 1) := by decide +kernel
theorem dL_square_19 : decode cL_square 19 = .ok (.iconst 0, 1) := by decide +kernel
theorem dL_square_20 : decode cL_square 20 = .ok (.ireturn, 1) := by decide +kernel
theorem dL_line_0 : decode cL_line 0 = .ok (.aload 4, 2) := by decide +kernel
theorem dL_line_2 : decode cL_line 2 = .ok (.iconst 0, 1) := by decide +kernel
theorem dL_line_3 : decode cL_line 3 = .ok (.aload_n 0, 1) := by decide +kernel
theorem dL_line_4 : decode cL_line 4 = .ok (.iload_n 1, 1) := by decide +kernel
theorem dL_line_5 : decode cL_line 5 = .ok (.iload_n 2, 1) := by decide +kernel
theorem dL_line_6 : decode cL_line 6 = .ok (.iload_n 3, 1) := by decide +kernel
theorem dL_line_7 : decode cL_line 7 = .ok (.invokevirtual 15, 3) := by decide +kernel
theorem dL_line_10 : decode cL_line 10 = .ok (.i2l, 1) := by decide +kernel
theorem dL_line_11 : decode cL_line 11 = .ok (.lastore, 1) := by decide +kernel
theorem dL_line_12 : decode cL_line 12 = .ok (.goto 7, 3) := by decide +kernel
theorem dL_line_15 : decode cL_line 15 = .ok (.astore 5, 2) := by decide +kernel
theorem dL_line_17 : decode cL_line 17 = .ok (.iconst 1, 1) := by decide +kernel
theorem dL_line_18 : decode cL_line 18 = .ok (.ireturn, 1) := by decide +kernel
theorem dL_line_19 : decode cL_line 19 = .ok (.iconst 0, 1) := by decide +kernel
theorem dL_line_20 : decode cL_line 20 = .ok (.ireturn, 1) := by decide +kernel
theorem dL_law_0 : decode cL_law 0 = .ok (.new 8, 3) := by decide +kernel
theorem dL_law_3 : decode cL_law 3 = .ok (.dup, 1) := by decide +kernel
theorem dL_law_4 : decode cL_law 4 = .ok (.invokespecial 18, 3) := by decide +kernel
theorem dL_law_7 : decode cL_law 7 = .ok (.astore_n 1, 1) := by decide +kernel
theorem dL_law_8 : decode cL_law 8 = .ok (.new 19, 3) := by decide +kernel
theorem dL_law_11 : decode cL_law 11 = .ok (.dup, 1) := by decide +kernel
theorem dL_law_12 : decode cL_law 12 = .ok (.invokespecial 21, 3) := by decide +kernel
theorem dL_law_15 : decode cL_law 15 = .ok (.astore_n 2, 1) := by decide +kernel
theorem dL_law_16 : decode cL_law 16 = .ok (.iconst 1, 1) := by decide +kernel
theorem dL_law_17 : decode cL_law 17 = .ok (.newarray .long, 2) := by decide +kernel
theorem dL_law_19 : decode cL_law 19 = .ok (.astore_n 3, 1) := by decide +kernel
theorem dL_law_20 : decode cL_law 20 = .ok (.iconst 0, 1) := by decide +kernel
theorem dL_law_21 : decode cL_law 21 = .ok (.istore 4, 2) := by decide +kernel
theorem dL_law_23 : decode cL_law 23 = .ok (.iload 4, 2) := by decide +kernel
theorem dL_law_25 : decode cL_law 25 = .ok (.aload_n 0, 1) := by decide +kernel
theorem dL_law_26 : decode cL_law 26 = .ok (.arraylength, 1) := by decide +kernel
theorem dL_law_27 : decode cL_law 27 = .ok (.bipush 6, 2) := by decide +kernel
theorem dL_law_29 : decode cL_law 29 = .ok (.isub, 1) := by decide +kernel
theorem dL_law_30 : decode cL_law 30 = .ok (.if_icmp .gt 1142, 3) := by decide +kernel
theorem dL_law_33 : decode cL_law 33 = .ok (.aload_n 0, 1) := by decide +kernel
theorem dL_law_34 : decode cL_law 34 = .ok (.iload 4, 2) := by decide +kernel
theorem dL_law_36 : decode cL_law 36 = .ok (.iaload, 1) := by decide +kernel
theorem dL_law_37 : decode cL_law 37 = .ok (.bipush 31, 2) := by decide +kernel
theorem dL_law_39 : decode cL_law 39 = .ok (.iand, 1) := by decide +kernel
theorem dL_law_40 : decode cL_law 40 = .ok (.tableswitch 1126 0 25 #[120, 193, 218, 255, 335, 360, 386, 411, 436, 461, 486, 512, 549, 586, 611, 636, 716, 781, 818, 883, 936, 973, 1010, 1035, 1048, 1101], 120) := by decide +kernel
theorem dL_law_160 : decode cL_law 160 = .ok (.aload_n 1, 1) := by decide +kernel
theorem dL_law_161 : decode cL_law 161 = .ok (.aload_n 0, 1) := by decide +kernel
theorem dL_law_162 : decode cL_law 162 = .ok (.iload 4, 2) := by decide +kernel
theorem dL_law_164 : decode cL_law 164 = .ok (.iconst 1, 1) := by decide +kernel
theorem dL_law_165 : decode cL_law 165 = .ok (.iadd, 1) := by decide +kernel
theorem dL_law_166 : decode cL_law 166 = .ok (.iaload, 1) := by decide +kernel
theorem dL_law_167 : decode cL_law 167 = .ok (.aload_n 0, 1) := by decide +kernel
theorem dL_law_168 : decode cL_law 168 = .ok (.iload 4, 2) := by decide +kernel
theorem dL_law_170 : decode cL_law 170 = .ok (.iconst 2, 1) := by decide +kernel
theorem dL_law_171 : decode cL_law 171 = .ok (.iadd, 1) := by decide +kernel
theorem dL_law_172 : decode cL_law 172 = .ok (.iaload, 1) := by decide +kernel
theorem dL_law_173 : decode cL_law 173 = .ok (.aload_n 0, 1) := by decide +kernel
theorem dL_law_174 : decode cL_law 174 = .ok (.iload 4, 2) := by decide +kernel
theorem dL_law_176 : decode cL_law 176 = .ok (.iconst 3, 1) := by decide +kernel
theorem dL_law_177 : decode cL_law 177 = .ok (.iadd, 1) := by decide +kernel
theorem dL_law_178 : decode cL_law 178 = .ok (.iaload, 1) := by decide +kernel
theorem dL_law_179 : decode cL_law 179 = .ok (.aload_n 0, 1) := by decide +kernel
theorem dL_law_180 : decode cL_law 180 = .ok (.iload 4, 2) := by decide +kernel
theorem dL_law_182 : decode cL_law 182 = .ok (.iconst 4, 1) := by decide +kernel
theorem dL_law_183 : decode cL_law 183 = .ok (.iadd, 1) := by decide +kernel
theorem dL_law_184 : decode cL_law 184 = .ok (.iaload, 1) := by decide +kernel
theorem dL_law_185 : decode cL_law 185 = .ok (.aload_n 0, 1) := by decide +kernel
theorem dL_law_186 : decode cL_law 186 = .ok (.iload 4, 2) := by decide +kernel
theorem dL_law_188 : decode cL_law 188 = .ok (.iconst 5, 1) := by decide +kernel
theorem dL_law_189 : decode cL_law 189 = .ok (.iadd, 1) := by decide +kernel
theorem dL_law_190 : decode cL_law 190 = .ok (.iaload, 1) := by decide +kernel
theorem dL_law_191 : decode cL_law 191 = .ok (.invokevirtual 22, 3) := by decide +kernel
theorem dL_law_194 : decode cL_law 194 = .ok (.aload_n 2, 1) := by decide +kernel
theorem dL_law_195 : decode cL_law 195 = .ok (.aload_n 0, 1) := by decide +kernel
theorem dL_law_196 : decode cL_law 196 = .ok (.iload 4, 2) := by decide +kernel
theorem dL_law_198 : decode cL_law 198 = .ok (.iconst 1, 1) := by decide +kernel
theorem dL_law_199 : decode cL_law 199 = .ok (.iadd, 1) := by decide +kernel
theorem dL_law_200 : decode cL_law 200 = .ok (.iaload, 1) := by decide +kernel
theorem dL_law_201 : decode cL_law 201 = .ok (.aload_n 0, 1) := by decide +kernel
theorem dL_law_202 : decode cL_law 202 = .ok (.iload 4, 2) := by decide +kernel
theorem dL_law_204 : decode cL_law 204 = .ok (.iconst 2, 1) := by decide +kernel
theorem dL_law_205 : decode cL_law 205 = .ok (.iadd, 1) := by decide +kernel
theorem dL_law_206 : decode cL_law 206 = .ok (.iaload, 1) := by decide +kernel
theorem dL_law_207 : decode cL_law 207 = .ok (.aload_n 0, 1) := by decide +kernel
theorem dL_law_208 : decode cL_law 208 = .ok (.iload 4, 2) := by decide +kernel
theorem dL_law_210 : decode cL_law 210 = .ok (.iconst 3, 1) := by decide +kernel
theorem dL_law_211 : decode cL_law 211 = .ok (.iadd, 1) := by decide +kernel
theorem dL_law_212 : decode cL_law 212 = .ok (.iaload, 1) := by decide +kernel
theorem dL_law_213 : decode cL_law 213 = .ok (.aload_n 0, 1) := by decide +kernel
theorem dL_law_214 : decode cL_law 214 = .ok (.iload 4, 2) := by decide +kernel
theorem dL_law_216 : decode cL_law 216 = .ok (.iconst 4, 1) := by decide +kernel
theorem dL_law_217 : decode cL_law 217 = .ok (.iadd, 1) := by decide +kernel
theorem dL_law_218 : decode cL_law 218 = .ok (.iaload, 1) := by decide +kernel
theorem dL_law_219 : decode cL_law 219 = .ok (.aload_n 0, 1) := by decide +kernel
theorem dL_law_220 : decode cL_law 220 = .ok (.iload 4, 2) := by decide +kernel
theorem dL_law_222 : decode cL_law 222 = .ok (.iconst 5, 1) := by decide +kernel
theorem dL_law_223 : decode cL_law 223 = .ok (.iadd, 1) := by decide +kernel
theorem dL_law_224 : decode cL_law 224 = .ok (.iaload, 1) := by decide +kernel
theorem dL_law_225 : decode cL_law 225 = .ok (.invokevirtual 26, 3) := by decide +kernel
theorem dL_law_228 : decode cL_law 228 = .ok (.if_icmp .eq 938, 3) := by decide +kernel
theorem dL_law_231 : decode cL_law 231 = .ok (.iconst 0, 1) := by decide +kernel
theorem dL_law_232 : decode cL_law 232 = .ok (.ireturn, 1) := by decide +kernel
theorem dL_law_233 : decode cL_law 233 = .ok (.aload_n 1, 1) := by decide +kernel
theorem dL_law_234 : decode cL_law 234 = .ok (.aload_n 0, 1) := by decide +kernel
theorem dL_law_235 : decode cL_law 235 = .ok (.iload 4, 2) := by decide +kernel
theorem dL_law_237 : decode cL_law 237 = .ok (.iconst 1, 1) := by decide +kernel
theorem dL_law_238 : decode cL_law 238 = .ok (.iadd, 1) := by decide +kernel
theorem dL_law_239 : decode cL_law 239 = .ok (.iaload, 1) := by decide +kernel
theorem dL_law_240 : decode cL_law 240 = .ok (.invokevirtual 27, 3) := by decide +kernel
theorem dL_law_243 : decode cL_law 243 = .ok (.aload_n 2, 1) := by decide +kernel
theorem dL_law_244 : decode cL_law 244 = .ok (.aload_n 0, 1) := by decide +kernel
theorem dL_law_245 : decode cL_law 245 = .ok (.iload 4, 2) := by decide +kernel
theorem dL_law_247 : decode cL_law 247 = .ok (.iconst 1, 1) := by decide +kernel
theorem dL_law_248 : decode cL_law 248 = .ok (.iadd, 1) := by decide +kernel
theorem dL_law_249 : decode cL_law 249 = .ok (.iaload, 1) := by decide +kernel
theorem dL_law_250 : decode cL_law 250 = .ok (.invokevirtual 31, 3) := by decide +kernel
theorem dL_law_253 : decode cL_law 253 = .ok (.if_icmp .eq 913, 3) := by decide +kernel
theorem dL_law_256 : decode cL_law 256 = .ok (.iconst 0, 1) := by decide +kernel
theorem dL_law_257 : decode cL_law 257 = .ok (.ireturn, 1) := by decide +kernel
theorem dL_law_258 : decode cL_law 258 = .ok (.aload_n 1, 1) := by decide +kernel
theorem dL_law_259 : decode cL_law 259 = .ok (.aload_n 0, 1) := by decide +kernel
theorem dL_law_260 : decode cL_law 260 = .ok (.iload 4, 2) := by decide +kernel
theorem dL_law_262 : decode cL_law 262 = .ok (.iconst 1, 1) := by decide +kernel
theorem dL_law_263 : decode cL_law 263 = .ok (.iadd, 1) := by decide +kernel
theorem dL_law_264 : decode cL_law 264 = .ok (.iaload, 1) := by decide +kernel
theorem dL_law_265 : decode cL_law 265 = .ok (.aload_n 0, 1) := by decide +kernel
theorem dL_law_266 : decode cL_law 266 = .ok (.iload 4, 2) := by decide +kernel
theorem dL_law_268 : decode cL_law 268 = .ok (.iconst 2, 1) := by decide +kernel
theorem dL_law_269 : decode cL_law 269 = .ok (.iadd, 1) := by decide +kernel
theorem dL_law_270 : decode cL_law 270 = .ok (.iaload, 1) := by decide +kernel
theorem dL_law_271 : decode cL_law 271 = .ok (.invokevirtual 32, 3) := by decide +kernel
theorem dL_law_274 : decode cL_law 274 = .ok (.aload_n 2, 1) := by decide +kernel
theorem dL_law_275 : decode cL_law 275 = .ok (.aload_n 0, 1) := by decide +kernel
theorem dL_law_276 : decode cL_law 276 = .ok (.iload 4, 2) := by decide +kernel
theorem dL_law_278 : decode cL_law 278 = .ok (.iconst 1, 1) := by decide +kernel
theorem dL_law_279 : decode cL_law 279 = .ok (.iadd, 1) := by decide +kernel
theorem dL_law_280 : decode cL_law 280 = .ok (.iaload, 1) := by decide +kernel
theorem dL_law_281 : decode cL_law 281 = .ok (.aload_n 0, 1) := by decide +kernel
theorem dL_law_282 : decode cL_law 282 = .ok (.iload 4, 2) := by decide +kernel
theorem dL_law_284 : decode cL_law 284 = .ok (.iconst 2, 1) := by decide +kernel
theorem dL_law_285 : decode cL_law 285 = .ok (.iadd, 1) := by decide +kernel
theorem dL_law_286 : decode cL_law 286 = .ok (.iaload, 1) := by decide +kernel
theorem dL_law_287 : decode cL_law 287 = .ok (.invokevirtual 36, 3) := by decide +kernel
theorem dL_law_290 : decode cL_law 290 = .ok (.if_icmp .eq 876, 3) := by decide +kernel
theorem dL_law_293 : decode cL_law 293 = .ok (.iconst 0, 1) := by decide +kernel
theorem dL_law_294 : decode cL_law 294 = .ok (.ireturn, 1) := by decide +kernel
theorem dL_law_295 : decode cL_law 295 = .ok (.aload_n 1, 1) := by decide +kernel
theorem dL_law_296 : decode cL_law 296 = .ok (.aload_n 0, 1) := by decide +kernel
theorem dL_law_297 : decode cL_law 297 = .ok (.iload 4, 2) := by decide +kernel
theorem dL_law_299 : decode cL_law 299 = .ok (.iconst 1, 1) := by decide +kernel
theorem dL_law_300 : decode cL_law 300 = .ok (.iadd, 1) := by decide +kernel
theorem dL_law_301 : decode cL_law 301 = .ok (.iaload, 1) := by decide +kernel
theorem dL_law_302 : decode cL_law 302 = .ok (.aload_n 0, 1) := by decide +kernel
theorem dL_law_303 : decode cL_law 303 = .ok (.iload 4, 2) := by decide +kernel
theorem dL_law_305 : decode cL_law 305 = .ok (.iconst 2, 1) := by decide +kernel
theorem dL_law_306 : decode cL_law 306 = .ok (.iadd, 1) := by decide +kernel
theorem dL_law_307 : decode cL_law 307 = .ok (.iaload, 1) := by decide +kernel
theorem dL_law_308 : decode cL_law 308 = .ok (.aload_n 0, 1) := by decide +kernel
theorem dL_law_309 : decode cL_law 309 = .ok (.iload 4, 2) := by decide +kernel
theorem dL_law_311 : decode cL_law 311 = .ok (.iconst 3, 1) := by decide +kernel
theorem dL_law_312 : decode cL_law 312 = .ok (.iadd, 1) := by decide +kernel
theorem dL_law_313 : decode cL_law 313 = .ok (.iaload, 1) := by decide +kernel
theorem dL_law_314 : decode cL_law 314 = .ok (.aload_n 3, 1) := by decide +kernel
theorem dL_law_315 : decode cL_law 315 = .ok (.invokestatic 37, 3) := by decide +kernel
theorem dL_law_318 : decode cL_law 318 = .ok (.istore 5, 2) := by decide +kernel
theorem dL_law_320 : decode cL_law 320 = .ok (.aload_n 2, 1) := by decide +kernel
theorem dL_law_321 : decode cL_law 321 = .ok (.aload_n 0, 1) := by decide +kernel
theorem dL_law_322 : decode cL_law 322 = .ok (.iload 4, 2) := by decide +kernel
theorem dL_law_324 : decode cL_law 324 = .ok (.iconst 1, 1) := by decide +kernel
theorem dL_law_325 : decode cL_law 325 = .ok (.iadd, 1) := by decide +kernel
theorem dL_law_326 : decode cL_law 326 = .ok (.iaload, 1) := by decide +kernel
theorem dL_law_327 : decode cL_law 327 = .ok (.aload_n 0, 1) := by decide +kernel
theorem dL_law_328 : decode cL_law 328 = .ok (.iload 4, 2) := by decide +kernel
theorem dL_law_330 : decode cL_law 330 = .ok (.iconst 2, 1) := by decide +kernel
theorem dL_law_331 : decode cL_law 331 = .ok (.iadd, 1) := by decide +kernel
theorem dL_law_332 : decode cL_law 332 = .ok (.iaload, 1) := by decide +kernel
theorem dL_law_333 : decode cL_law 333 = .ok (.aload_n 0, 1) := by decide +kernel
theorem dL_law_334 : decode cL_law 334 = .ok (.iload 4, 2) := by decide +kernel
theorem dL_law_336 : decode cL_law 336 = .ok (.iconst 3, 1) := by decide +kernel
theorem dL_law_337 : decode cL_law 337 = .ok (.iadd, 1) := by decide +kernel
theorem dL_law_338 : decode cL_law 338 = .ok (.iaload, 1) := by decide +kernel
theorem dL_law_339 : decode cL_law 339 = .ok (.invokevirtual 42, 3) := by decide +kernel
theorem dL_law_342 : decode cL_law 342 = .ok (.istore 6, 2) := by decide +kernel
theorem dL_law_344 : decode cL_law 344 = .ok (.aload_n 2, 1) := by decide +kernel
