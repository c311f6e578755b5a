theorem dX12_arePerfect_46 : decode cX12_arePerfect 46 = .ok (.ireturn, 1) := by decide +kernel
theorem dX12_arePerfect_47 : decode cX12_arePerfect 47 = .ok (.iinc 4 1, 3) := by decide +kernel
theorem dX12_arePerfect_50 : decode cX12_arePerfect 50 = .ok (.goto (-33), 3) := by decide +kernel
theorem dX12_arePerfect_53 : decode cX12_arePerfect 53 = .ok (.iinc 3 1, 3) := by decide +kernel
theorem dX12_arePerfect_56 : decode cX12_arePerfect 56 = .ok (.goto (-47), 3) := by decide +kernel
theorem dX12_arePerfect_59 : decode cX12_arePerfect 59 = .ok (.iload_n 2, 1) := by decide +kernel
theorem dX12_arePerfect_60 : decode cX12_arePerfect 60 = .ok (.iconst 1, 1) := by decide +kernel
theorem dX12_arePerfect_61 : decode cX12_arePerfect 61 = .ok (.if_icmp .le 7, 3) := by decide +kernel
theorem dX12_arePerfect_64 : decode cX12_arePerfect 64 = .ok (.iconst 1, 1) := by decide +kernel
theorem dX12_arePerfect_65 : decode cX12_arePerfect 65 = .ok (.goto 4, 3) := by decide +kernel
theorem dX12_arePerfect_68 : decode cX12_arePerfect 68 = .ok (.iconst 0, 1) := by decide +kernel
theorem dX12_arePerfect_69 : decode cX12_arePerfect 69 = .ok (.ireturn, 1) := by decide +kernel
theorem dX12_isPart_0 : decode cX12_isPart 0 = .ok (.iconst 0, 1) := by decide +kernel
theorem dX12_isPart_1 : decode cX12_isPart 1 = .ok (.istore 6, 2) := by decide +kernel
theorem dX12_isPart_3 : decode cX12_isPart 3 = .ok (.lconst 0, 1) := by decide +kernel
theorem dX12_isPart_4 : decode cX12_isPart 4 = .ok (.lstore 7, 2) := by decide +kernel
theorem dX12_isPart_6 : decode cX12_isPart 6 = .ok (.iconst 0, 1) := by decide +kernel
theorem dX12_isPart_7 : decode cX12_isPart 7 = .ok (.istore 9, 2) := by decide +kernel
theorem dX12_isPart_9 : decode cX12_isPart 9 = .ok (.iload 9, 2) := by decide +kernel
theorem dX12_isPart_11 : decode cX12_isPart 11 = .ok (.aload_n 0, 1) := by decide +kernel
theorem dX12_isPart_12 : decode cX12_isPart 12 = .ok (.iload_n 1, 1) := by decide +kernel
theorem dX12_isPart_13 : decode cX12_isPart 13 = .ok (.iconst 0, 1) := by decide +kernel
theorem dX12_isPart_14 : decode cX12_isPart 14 = .ok (.invokevirtual 306, 3) := by decide +kernel
theorem dX12_isPart_17 : decode cX12_isPart 17 = .ok (.if_icmp .ge 106, 3) := by decide +kernel
theorem dX12_isPart_20 : decode cX12_isPart 20 = .ok (.aload_n 0, 1) := by decide +kernel
theorem dX12_isPart_21 : decode cX12_isPart 21 = .ok (.iload_n 1, 1) := by decide +kernel
theorem dX12_isPart_22 : decode cX12_isPart 22 = .ok (.bipush 84, 2) := by decide +kernel
theorem dX12_isPart_24 : decode cX12_isPart 24 = .ok (.iload 9, 2) := by decide +kernel
theorem dX12_isPart_26 : decode cX12_isPart 26 = .ok (.iadd, 1) := by decide +kernel
theorem dX12_isPart_27 : decode cX12_isPart 27 = .ok (.invokevirtual 306, 3) := by decide +kernel
theorem dX12_isPart_30 : decode cX12_isPart 30 = .ok (.i2l, 1) := by decide +kernel
theorem dX12_isPart_31 : decode cX12_isPart 31 = .ok (.lstore 10, 2) := by decide +kernel
theorem dX12_isPart_33 : decode cX12_isPart 33 = .ok (.aload_n 0, 1) := by decide +kernel
theorem dX12_isPart_34 : decode cX12_isPart 34 = .ok (.iload_n 1, 1) := by decide +kernel
theorem dX12_isPart_35 : decode cX12_isPart 35 = .ok (.iconst 4, 1) := by decide +kernel
theorem dX12_isPart_36 : decode cX12_isPart 36 = .ok (.iload 9, 2) := by decide +kernel
theorem dX12_isPart_38 : decode cX12_isPart 38 = .ok (.iadd, 1) := by decide +kernel
theorem dX12_isPart_39 : decode cX12_isPart 39 = .ok (.invokevirtual 306, 3) := by decide +kernel
theorem dX12_isPart_42 : decode cX12_isPart 42 = .ok (.iload_n 2, 1) := by decide +kernel
theorem dX12_isPart_43 : decode cX12_isPart 43 = .ok (.if_icmp .lt 74, 3) := by decide +kernel
theorem dX12_isPart_46 : decode cX12_isPart 46 = .ok (.aload_n 0, 1) := by decide +kernel
theorem dX12_isPart_47 : decode cX12_isPart 47 = .ok (.iload_n 1, 1) := by decide +kernel
theorem dX12_isPart_48 : decode cX12_isPart 48 = .ok (.bipush 44, 2) := by decide +kernel
theorem dX12_isPart_50 : decode cX12_isPart 50 = .ok (.iload 9, 2) := by decide +kernel
theorem dX12_isPart_52 : decode cX12_isPart 52 = .ok (.iadd, 1) := by decide +kernel
theorem dX12_isPart_53 : decode cX12_isPart 53 = .ok (.invokevirtual 306, 3) := by decide +kernel
theorem dX12_isPart_56 : decode cX12_isPart 56 = .ok (.iload_n 3, 1) := by decide +kernel
theorem dX12_isPart_57 : decode cX12_isPart 57 = .ok (.if_icmp .lt 60, 3) := by decide +kernel
theorem dX12_isPart_60 : decode cX12_isPart 60 = .ok (.aload_n 0, 1) := by decide +kernel
theorem dX12_isPart_61 : decode cX12_isPart 61 = .ok (.iload_n 1, 1) := by decide +kernel
theorem dX12_isPart_62 : decode cX12_isPart 62 = .ok (.iconst 4, 1) := by decide +kernel
theorem dX12_isPart_63 : decode cX12_isPart 63 = .ok (.iload 9, 2) := by decide +kernel
theorem dX12_isPart_65 : decode cX12_isPart 65 = .ok (.iadd, 1) := by decide +kernel
theorem dX12_isPart_66 : decode cX12_isPart 66 = .ok (.invokevirtual 306, 3) := by decide +kernel
theorem dX12_isPart_69 : decode cX12_isPart 69 = .ok (.i2l, 1) := by decide +kernel
theorem dX12_isPart_70 : decode cX12_isPart 70 = .ok (.lload 10, 2) := by decide +kernel
theorem dX12_isPart_72 : decode cX12_isPart 72 = .ok (.ladd, 1) := by decide +kernel
theorem dX12_isPart_73 : decode cX12_isPart 73 = .ok (.iload 4, 2) := by decide +kernel
theorem dX12_isPart_75 : decode cX12_isPart 75 = .ok (.i2l, 1) := by decide +kernel
theorem dX12_isPart_76 : decode cX12_isPart 76 = .ok (.lcmp, 1) := by decide +kernel
theorem dX12_isPart_77 : decode cX12_isPart 77 = .ok (.ifCond .gt 40, 3) := by decide +kernel
theorem dX12_isPart_80 : decode cX12_isPart 80 = .ok (.aload_n 0, 1) := by decide +kernel
theorem dX12_isPart_81 : decode cX12_isPart 81 = .ok (.iload_n 1, 1) := by decide +kernel
theorem dX12_isPart_82 : decode cX12_isPart 82 = .ok (.bipush 44, 2) := by decide +kernel
theorem dX12_isPart_84 : decode cX12_isPart 84 = .ok (.iload 9, 2) := by decide +kernel
theorem dX12_isPart_86 : decode cX12_isPart 86 = .ok (.iadd, 1) := by decide +kernel
theorem dX12_isPart_87 : decode cX12_isPart 87 = .ok (.invokevirtual 306, 3) := by decide +kernel
theorem dX12_isPart_90 : decode cX12_isPart 90 = .ok (.i2l, 1) := by decide +kernel
theorem dX12_isPart_91 : decode cX12_isPart 91 = .ok (.lload 10, 2) := by decide +kernel
theorem dX12_isPart_93 : decode cX12_isPart 93 = .ok (.ladd, 1) := by decide +kernel
theorem dX12_isPart_94 : decode cX12_isPart 94 = .ok (.iload 5, 2) := by decide +kernel
theorem dX12_isPart_96 : decode cX12_isPart 96 = .ok (.i2l, 1) := by decide +kernel
theorem dX12_isPart_97 : decode cX12_isPart 97 = .ok (.lcmp, 1) := by decide +kernel
theorem dX12_isPart_98 : decode cX12_isPart 98 = .ok (.ifCond .le 6, 3) := by decide +kernel
theorem dX12_isPart_101 : decode cX12_isPart 101 = .ok (.goto 16, 3) := by decide +kernel
theorem dX12_isPart_104 : decode cX12_isPart 104 = .ok (.iinc 6 1, 3) := by decide +kernel
theorem dX12_isPart_107 : decode cX12_isPart 107 = .ok (.lload 7, 2) := by decide +kernel
theorem dX12_isPart_109 : decode cX12_isPart 109 = .ok (.lload 10, 2) := by decide +kernel
theorem dX12_isPart_111 : decode cX12_isPart 111 = .ok (.lload 10, 2) := by decide +kernel
theorem dX12_isPart_113 : decode cX12_isPart 113 = .ok (.lmul, 1) := by decide +kernel
theorem dX12_isPart_114 : decode cX12_isPart 114 = .ok (.ladd, 1) := by decide +kernel
theorem dX12_isPart_115 : decode cX12_isPart 115 = .ok (.lstore 7, 2) := by decide +kernel
theorem dX12_isPart_117 : decode cX12_isPart 117 = .ok (.iinc 9 1, 3) := by decide +kernel
theorem dX12_isPart_120 : decode cX12_isPart 120 = .ok (.goto (-111), 3) := by decide +kernel
theorem dX12_isPart_123 : decode cX12_isPart 123 = .ok (.iload 6, 2) := by decide +kernel
theorem dX12_isPart_125 : decode cX12_isPart 125 = .ok (.iconst 1, 1) := by decide +kernel
theorem dX12_isPart_126 : decode cX12_isPart 126 = .ok (.if_icmp .le 35, 3) := by decide +kernel
theorem dX12_isPart_129 : decode cX12_isPart 129 = .ok (.iload 6, 2) := by decide +kernel
theorem dX12_isPart_131 : decode cX12_isPart 131 = .ok (.aload_n 0, 1) := by decide +kernel
theorem dX12_isPart_132 : decode cX12_isPart 132 = .ok (.iload_n 1, 1) := by decide +kernel
theorem dX12_isPart_133 : decode cX12_isPart 133 = .ok (.iconst 0, 1) := by decide +kernel
theorem dX12_isPart_134 : decode cX12_isPart 134 = .ok (.invokevirtual 306, 3) := by decide +kernel
theorem dX12_isPart_137 : decode cX12_isPart 137 = .ok (.if_icmp .ge 24, 3) := by decide +kernel
theorem dX12_isPart_140 : decode cX12_isPart 140 = .ok (.lload 7, 2) := by decide +kernel
theorem dX12_isPart_142 : decode cX12_isPart 142 = .ok (.iload 4, 2) := by decide +kernel
theorem dX12_isPart_144 : decode cX12_isPart 144 = .ok (.iload_n 2, 1) := by decide +kernel
theorem dX12_isPart_145 : decode cX12_isPart 145 = .ok (.isub, 1) := by decide +kernel
theorem dX12_isPart_146 : decode cX12_isPart 146 = .ok (.i2l, 1) := by decide +kernel
theorem dX12_isPart_147 : decode cX12_isPart 147 = .ok (.iload 5, 2) := by decide +kernel
theorem dX12_isPart_149 : decode cX12_isPart 149 = .ok (.iload_n 3, 1) := by decide +kernel
theorem dX12_isPart_150 : decode cX12_isPart 150 = .ok (.isub, 1) := by decide +kernel
theorem dX12_isPart_151 : decode cX12_isPart 151 = .ok (.i2l, 1) := by decide +kernel
theorem dX12_isPart_152 : decode cX12_isPart 152 = .ok (.lmul, 1) := by decide +kernel
theorem dX12_isPart_153 : decode cX12_isPart 153 = .ok (.lcmp, 1) := by decide +kernel
theorem dX12_isPart_154 : decode cX12_isPart 154 = .ok (.ifCond .ne 7, 3) := by decide +kernel
theorem dX12_isPart_157 : decode cX12_isPart 157 = .ok (.iconst 1, 1) := by decide +kernel
theorem dX12_isPart_158 : decode cX12_isPart 158 = .ok (.goto 4, 3) := by decide +kernel
theorem dX12_isPart_161 : decode cX12_isPart 161 = .ok (.iconst 0, 1) := by decide +kernel
theorem dX12_isPart_162 : decode cX12_isPart 162 = .ok (.ireturn, 1) := by decide +kernel
theorem dX12_partsOf_0 : decode cX12_partsOf 0 = .ok (.iconst 0, 1) := by decide +kernel
theorem dX12_partsOf_1 : decode cX12_partsOf 1 = .ok (.istore_n 2, 1) := by decide +kernel
theorem dX12_partsOf_2 : decode cX12_partsOf 2 = .ok (.iconst 0, 1) := by decide +kernel
theorem dX12_partsOf_3 : decode cX12_partsOf 3 = .ok (.istore_n 3, 1) := by decide +kernel
theorem dX12_partsOf_4 : decode cX12_partsOf 4 = .ok (.iload_n 3, 1) := by decide +kernel
theorem dX12_partsOf_5 : decode cX12_partsOf 5 = .ok (.aload_n 0, 1) := by decide +kernel
theorem dX12_partsOf_6 : decode cX12_partsOf 6 = .ok (.iload_n 1, 1) := by decide +kernel
theorem dX12_partsOf_7 : decode cX12_partsOf 7 = .ok (.iconst 0, 1) := by decide +kernel
theorem dX12_partsOf_8 : decode cX12_partsOf 8 = .ok (.invokevirtual 306, 3) := by decide +kernel
theorem dX12_partsOf_11 : decode cX12_partsOf 11 = .ok (.if_icmp .ge 147, 3) := by decide +kernel
theorem dX12_partsOf_14 : decode cX12_partsOf 14 = .ok (.iconst 0, 1) := by decide +kernel
theorem dX12_partsOf_15 : decode cX12_partsOf 15 = .ok (.istore 4, 2) := by decide +kernel
theorem dX12_partsOf_17 : decode cX12_partsOf 17 = .ok (.iload 4, 2) := by decide +kernel
theorem dX12_partsOf_19 : decode cX12_partsOf 19 = .ok (.aload_n 0, 1) := by decide +kernel
theorem dX12_partsOf_20 : decode cX12_partsOf 20 = .ok (.iload_n 1, 1) := by decide +kernel
theorem dX12_partsOf_21 : decode cX12_partsOf 21 = .ok (.iconst 0, 1) := by decide +kernel
theorem dX12_partsOf_22 : decode cX12_partsOf 22 = .ok (.invokevirtual 306, 3) := by decide +kernel
theorem dX12_partsOf_25 : decode cX12_partsOf 25 = .ok (.if_icmp .ge 127, 3) := by decide +kernel
theorem dX12_partsOf_28 : decode cX12_partsOf 28 = .ok (.aload_n 0, 1) := by decide +kernel
theorem dX12_partsOf_29 : decode cX12_partsOf 29 = .ok (.iload_n 1, 1) := by decide +kernel
theorem dX12_partsOf_30 : decode cX12_partsOf 30 = .ok (.iconst 4, 1) := by decide +kernel
theorem dX12_partsOf_31 : decode cX12_partsOf 31 = .ok (.iload 4, 2) := by decide +kernel
theorem dX12_partsOf_33 : decode cX12_partsOf 33 = .ok (.iadd, 1) := by decide +kernel
theorem dX12_partsOf_34 : decode cX12_partsOf 34 = .ok (.invokevirtual 306, 3) := by decide +kernel
theorem dX12_partsOf_37 : decode cX12_partsOf 37 = .ok (.aload_n 0, 1) := by decide +kernel
theorem dX12_partsOf_38 : decode cX12_partsOf 38 = .ok (.iload_n 1, 1) := by decide +kernel
theorem dX12_partsOf_39 : decode cX12_partsOf 39 = .ok (.bipush 84, 2) := by decide +kernel
theorem dX12_partsOf_41 : decode cX12_partsOf 41 = .ok (.iload 4, 2) := by decide +kernel
theorem dX12_partsOf_43 : decode cX12_partsOf 43 = .ok (.iadd, 1) := by decide +kernel
theorem dX12_partsOf_44 : decode cX12_partsOf 44 = .ok (.invokevirtual 306, 3) := by decide +kernel
theorem dX12_partsOf_47 : decode cX12_partsOf 47 = .ok (.iadd, 1) := by decide +kernel
theorem dX12_partsOf_48 : decode cX12_partsOf 48 = .ok (.istore 5, 2) := by decide +kernel
theorem dX12_partsOf_50 : decode cX12_partsOf 50 = .ok (.aload_n 0, 1) := by decide +kernel
theorem dX12_partsOf_51 : decode cX12_partsOf 51 = .ok (.iload_n 1, 1) := by decide +kernel
theorem dX12_partsOf_52 : decode cX12_partsOf 52 = .ok (.bipush 44, 2) := by decide +kernel
theorem dX12_partsOf_54 : decode cX12_partsOf 54 = .ok (.iload 4, 2) := by decide +kernel
theorem dX12_partsOf_56 : decode cX12_partsOf 56 = .ok (.iadd, 1) := by decide +kernel
theorem dX12_partsOf_57 : decode cX12_partsOf 57 = .ok (.invokevirtual 306, 3) := by decide +kernel
theorem dX12_partsOf_60 : decode cX12_partsOf 60 = .ok (.aload_n 0, 1) := by decide +kernel
theorem dX12_partsOf_61 : decode cX12_partsOf 61 = .ok (.iload_n 1, 1) := by decide +kernel
theorem dX12_partsOf_62 : decode cX12_partsOf 62 = .ok (.bipush 84, 2) := by decide +kernel
theorem dX12_partsOf_64 : decode cX12_partsOf 64 = .ok (.iload 4, 2) := by decide +kernel
theorem dX12_partsOf_66 : decode cX12_partsOf 66 = .ok (.iadd, 1) := by decide +kernel
theorem dX12_partsOf_67 : decode cX12_partsOf 67 = .ok (.invokevirtual 306, 3) := by decide +kernel
theorem dX12_partsOf_70 : decode cX12_partsOf 70 = .ok (.iadd, 1) := by decide +kernel
theorem dX12_partsOf_71 : decode cX12_partsOf 71 = .ok (.istore 6, 2) := by decide +kernel
theorem dX12_partsOf_73 : decode cX12_partsOf 73 = .ok (.iload_n 3, 1) := by decide +kernel
theorem dX12_partsOf_74 : decode cX12_partsOf 74 = .ok (.iload 4, 2) := by decide +kernel
theorem dX12_partsOf_76 : decode cX12_partsOf 76 = .ok (.if_icmp .eq 70, 3) := by decide +kernel
theorem dX12_partsOf_79 : decode cX12_partsOf 79 = .ok (.iload 5, 2) := by decide +kernel
theorem dX12_partsOf_81 : decode cX12_partsOf 81 = .ok (.aload_n 0, 1) := by decide +kernel
theorem dX12_partsOf_82 : decode cX12_partsOf 82 = .ok (.iload_n 1, 1) := by decide +kernel
theorem dX12_partsOf_83 : decode cX12_partsOf 83 = .ok (.iconst 4, 1) := by decide +kernel
theorem dX12_partsOf_84 : decode cX12_partsOf 84 = .ok (.iload_n 3, 1) := by decide +kernel
theorem dX12_partsOf_85 : decode cX12_partsOf 85 = .ok (.iadd, 1) := by decide +kernel
theorem dX12_partsOf_86 : decode cX12_partsOf 86 = .ok (.invokevirtual 306, 3) := by decide +kernel
theorem dX12_partsOf_89 : decode cX12_partsOf 89 = .ok (.if_icmp .le 57, 3) := by decide +kernel
theorem dX12_partsOf_92 : decode cX12_partsOf 92 = .ok (.iload 6, 2) := by decide +kernel
theorem dX12_partsOf_94 : decode cX12_partsOf 94 = .ok (.aload_n 0, 1) := by decide +kernel
theorem dX12_partsOf_95 : decode cX12_partsOf 95 = .ok (.iload_n 1, 1) := by decide +kernel
theorem dX12_partsOf_96 : decode cX12_partsOf 96 = .ok (.bipush 44, 2) := by decide +kernel
theorem dX12_partsOf_98 : decode cX12_partsOf 98 = .ok (.iload_n 3, 1) := by decide +kernel
theorem dX12_partsOf_99 : decode cX12_partsOf 99 = .ok (.iadd, 1) := by decide +kernel
theorem dX12_partsOf_100 : decode cX12_partsOf 100 = .ok (.invokevirtual 306, 3) := by decide +kernel
theorem dX12_partsOf_103 : decode cX12_partsOf 103 = .ok (.if_icmp .gt 6, 3) := by decide +kernel
theorem dX12_partsOf_106 : decode cX12_partsOf 106 = .ok (.goto 40, 3) := by decide +kernel
theorem dX12_partsOf_109 : decode cX12_partsOf 109 = .ok (.iload_n 2, 1) := by decide +kernel
theorem dX12_partsOf_110 : decode cX12_partsOf 110 = .ok (.aload_n 0, 1) := by decide +kernel
theorem dX12_partsOf_111 : decode cX12_partsOf 111 = .ok (.iload_n 1, 1) := by decide +kernel
theorem dX12_partsOf_112 : decode cX12_partsOf 112 = .ok (.aload_n 0, 1) := by decide +kernel
theorem dX12_partsOf_113 : decode cX12_partsOf 113 = .ok (.iload_n 1, 1) := by decide +kernel
theorem dX12_partsOf_114 : decode cX12_partsOf 114 = .ok (.iconst 4, 1) := by decide +kernel
theorem dX12_partsOf_115 : decode cX12_partsOf 115 = .ok (.iload_n 3, 1) := by decide +kernel
theorem dX12_partsOf_116 : decode cX12_partsOf 116 = .ok (.iadd, 1) := by decide +kernel
theorem dX12_partsOf_117 : decode cX12_partsOf 117 = .ok (.invokevirtual 306, 3) := by decide +kernel
theorem dX12_partsOf_120 : decode cX12_partsOf 120 = .ok (.aload_n 0, 1) := by decide +kernel
theorem dX12_partsOf_121 : decode cX12_partsOf 121 = .ok (.iload_n 1, 1) := by decide +kernel
theorem dX12_partsOf_122 : decode cX12_partsOf 122 = .ok (.bipush 44, 2) := by decide +kernel
theorem dX12_partsOf_124 : decode cX12_partsOf 124 = .ok (.iload_n 3, 1) := by decide +kernel
theorem dX12_partsOf_125 : decode cX12_partsOf 125 = .ok (.iadd, 1) := by decide +kernel
theorem dX12_partsOf_126 : decode cX12_partsOf 126 = .ok (.invokevirtual 306, 3) := by decide +kernel
theorem dX12_partsOf_129 : decode cX12_partsOf 129 = .ok (.iload 5, 2) := by decide +kernel
theorem dX12_partsOf_131 : decode cX12_partsOf 131 = .ok (.iload 6, 2) := by decide +kernel
theorem dX12_partsOf_133 : decode cX12_partsOf 133 = .ok (.invokevirtual 309, 3) := by decide +kernel
theorem dX12_partsOf_136 : decode cX12_partsOf 136 = .ok (.ifCond .eq 7, 3) := by decide +kernel
theorem dX12_partsOf_139 : decode cX12_partsOf 139 = .ok (.iconst 1, 1) := by decide +kernel
theorem dX12_partsOf_140 : decode cX12_partsOf 140 = .ok (.goto 4, 3) := by decide +kernel
theorem dX12_partsOf_143 : decode cX12_partsOf 143 = .ok (.iconst 0, 1) := by decide +kernel
theorem dX12_partsOf_144 : decode cX12_partsOf 144 = .ok (.iadd, 1) := by decide +kernel
theorem dX12_partsOf_145 : decode cX12_partsOf 145 = .ok (.istore_n 2, 1) := by decide +kernel
theorem dX12_partsOf_146 : decode cX12_partsOf 146 = .ok (.iinc 4 1, 3) := by decide +kernel
theorem dX12_partsOf_149 : decode cX12_partsOf 149 = .ok (.goto (-132), 3) := by decide +kernel
theorem dX12_partsOf_152 : decode cX12_partsOf 152 = .ok (.iinc 3 1, 3) := by decide +kernel
theorem dX12_partsOf_155 : decode cX12_partsOf 155 = .ok (.goto (-151), 3) := by decide +kernel
theorem dX12_partsOf_158 : decode cX12_partsOf 158 = .ok (.iload_n 2, 1) := by decide +kernel
theorem dX12_partsOf_159 : decode cX12_partsOf 159 = .ok (.ireturn, 1) := by decide +kernel
theorem dX12_corners_0 : decode cX12_corners 0 = .ok (.iconst 0, 1) := by decide +kernel
theorem dX12_corners_1 : decode cX12_corners 1 = .ok (.istore 4, 2) := by decide +kernel
theorem dX12_corners_3 : decode cX12_corners 3 = .ok (.iconst 0, 1) := by decide +kernel
theorem dX12_corners_4 : decode cX12_corners 4 = .ok (.istore 5, 2) := by decide +kernel
theorem dX12_corners_6 : decode cX12_corners 6 = .ok (.iload 5, 2) := by decide +kernel
theorem dX12_corners_8 : decode cX12_corners 8 = .ok (.aload_n 0, 1) := by decide +kernel
theorem dX12_corners_9 : decode cX12_corners 9 = .ok (.iload_n 1, 1) := by decide +kernel
theorem dX12_corners_10 : decode cX12_corners 10 = .ok (.iconst 0, 1) := by decide +kernel
theorem dX12_corners_11 : decode cX12_corners 11 = .ok (.invokevirtual 306, 3) := by decide +kernel
theorem dX12_corners_14 : decode cX12_corners 14 = .ok (.if_icmp .ge 107, 3) := by decide +kernel
theorem dX12_corners_17 : decode cX12_corners 17 = .ok (.iload_n 2, 1) := by decide +kernel
theorem dX12_corners_18 : decode cX12_corners 18 = .ok (.aload_n 0, 1) := by decide +kernel
theorem dX12_corners_19 : decode cX12_corners 19 = .ok (.iload_n 1, 1) := by decide +kernel
theorem dX12_corners_20 : decode cX12_corners 20 = .ok (.iconst 4, 1) := by decide +kernel
theorem dX12_corners_21 : decode cX12_corners 21 = .ok (.iload 5, 2) := by decide +kernel
theorem dX12_corners_23 : decode cX12_corners 23 = .ok (.iadd, 1) := by decide +kernel
theorem dX12_corners_24 : decode cX12_corners 24 = .ok (.invokevirtual 306, 3) := by decide +kernel
theorem dX12_corners_27 : decode cX12_corners 27 = .ok (.if_icmp .eq 27, 3) := by decide +kernel
theorem dX12_corners_30 : decode cX12_corners 30 = .ok (.iload_n 2, 1) := by decide +kernel
theorem dX12_corners_31 : decode cX12_corners 31 = .ok (.aload_n 0, 1) := by decide +kernel
theorem dX12_corners_32 : decode cX12_corners 32 = .ok (.iload_n 1, 1) := by decide +kernel
theorem dX12_corners_33 : decode cX12_corners 33 = .ok (.iconst 4, 1) := by decide +kernel
theorem dX12_corners_34 : decode cX12_corners 34 = .ok (.iload 5, 2) := by decide +kernel
theorem dX12_corners_36 : decode cX12_corners 36 = .ok (.iadd, 1) := by decide +kernel
theorem dX12_corners_37 : decode cX12_corners 37 = .ok (.invokevirtual 306, 3) := by decide +kernel
theorem dX12_corners_40 : decode cX12_corners 40 = .ok (.aload_n 0, 1) := by decide +kernel
theorem dX12_corners_41 : decode cX12_corners 41 = .ok (.iload_n 1, 1) := by decide +kernel
theorem dX12_corners_42 : decode cX12_corners 42 = .ok (.bipush 84, 2) := by decide +kernel
theorem dX12_corners_44 : decode cX12_corners 44 = .ok (.iload 5, 2) := by decide +kernel
theorem dX12_corners_46 : decode cX12_corners 46 = .ok (.iadd, 1) := by decide +kernel
theorem dX12_corners_47 : decode cX12_corners 47 = .ok (.invokevirtual 306, 3) := by decide +kernel
theorem dX12_corners_50 : decode cX12_corners 50 = .ok (.iadd, 1) := by decide +kernel
theorem dX12_corners_51 : decode cX12_corners 51 = .ok (.if_icmp .ne 7, 3) := by decide +kernel
theorem dX12_corners_54 : decode cX12_corners 54 = .ok (.iconst 1, 1) := by decide +kernel
theorem dX12_corners_55 : decode cX12_corners 55 = .ok (.goto 4, 3) := by decide +kernel
theorem dX12_corners_58 : decode cX12_corners 58 = .ok (.iconst 0, 1) := by decide +kernel
theorem dX12_corners_59 : decode cX12_corners 59 = .ok (.istore 6, 2) := by decide +kernel
theorem dX12_corners_61 : decode cX12_corners 61 = .ok (.iload 4, 2) := by decide +kernel
theorem dX12_corners_63 : decode cX12_corners 63 = .ok (.iload 6, 2) := by decide +kernel
theorem dX12_corners_65 : decode cX12_corners 65 = .ok (.ifCond .eq 46, 3) := by decide +kernel
theorem dX12_corners_68 : decode cX12_corners 68 = .ok (.iload_n 3, 1) := by decide +kernel
theorem dX12_corners_69 : decode cX12_corners 69 = .ok (.aload_n 0, 1) := by decide +kernel
theorem dX12_corners_70 : decode cX12_corners 70 = .ok (.iload_n 1, 1) := by decide +kernel
theorem dX12_corners_71 : decode cX12_corners 71 = .ok (.bipush 44, 2) := by decide +kernel
theorem dX12_corners_73 : decode cX12_corners 73 = .ok (.iload 5, 2) := by decide +kernel
theorem dX12_corners_75 : decode cX12_corners 75 = .ok (.iadd, 1) := by decide +kernel
theorem dX12_corners_76 : decode cX12_corners 76 = .ok (.invokevirtual 306, 3) := by decide +kernel
theorem dX12_corners_79 : decode cX12_corners 79 = .ok (.if_icmp .eq 28, 3) := by decide +kernel
theorem dX12_corners_82 : decode cX12_corners 82 = .ok (.iload_n 3, 1) := by decide +kernel
theorem dX12_corners_83 : decode cX12_corners 83 = .ok (.aload_n 0, 1) := by decide +kernel
theorem dX12_corners_84 : decode cX12_corners 84 = .ok (.iload_n 1, 1) := by decide +kernel
theorem dX12_corners_85 : decode cX12_corners 85 = .ok (.bipush 44, 2) := by decide +kernel
theorem dX12_corners_87 : decode cX12_corners 87 = .ok (.iload 5, 2) := by decide +kernel
theorem dX12_corners_89 : decode cX12_corners 89 = .ok (.iadd, 1) := by decide +kernel
theorem dX12_corners_90 : decode cX12_corners 90 = .ok (.invokevirtual 306, 3) := by decide +kernel
theorem dX12_corners_93 : decode cX12_corners 93 = .ok (.aload_n 0, 1) := by decide +kernel
theorem dX12_corners_94 : decode cX12_corners 94 = .ok (.iload_n 1, 1) := by decide +kernel
theorem dX12_corners_95 : decode cX12_corners 95 = .ok (.bipush 84, 2) := by decide +kernel
theorem dX12_corners_97 : decode cX12_corners 97 = .ok (.iload 5, 2) := by decide +kernel
theorem dX12_corners_99 : decode cX12_corners 99 = .ok (.iadd, 1) := by decide +kernel
theorem dX12_corners_100 : decode cX12_corners 100 = .ok (.invokevirtual 306, 3) := by decide +kernel
theorem dX12_corners_103 : decode cX12_corners 103 = .ok (.iadd, 1) := by decide +kernel
theorem dX12_corners_104 : decode cX12_corners 104 = .ok (.if_icmp .ne 7, 3) := by decide +kernel
theorem dX12_corners_107 : decode cX12_corners 107 = .ok (.iconst 1, 1) := by decide +kernel
theorem dX12_corners_108 : decode cX12_corners 108 = .ok (.goto 4, 3) := by decide +kernel
theorem dX12_corners_111 : decode cX12_corners 111 = .ok (.iconst 0, 1) := by decide +kernel
theorem dX12_corners_112 : decode cX12_corners 112 = .ok (.iadd, 1) := by decide +kernel
theorem dX12_corners_113 : decode cX12_corners 113 = .ok (.istore 4, 2) := by decide +kernel
theorem dX12_corners_115 : decode cX12_corners 115 = .ok (.iinc 5 1, 3) := by decide +kernel
theorem dX12_corners_118 : decode cX12_corners 118 = .ok (.goto (-112), 3) := by decide +kernel
theorem dX12_corners_121 : decode cX12_corners 121 = .ok (.iload 4, 2) := by decide +kernel
theorem dX12_corners_123 : decode cX12_corners 123 = .ok (.ireturn, 1) := by decide +kernel
theorem dX12_crossesOf_0 : decode cX12_crossesOf 0 = .ok (.iconst 0, 1) := by decide +kernel
theorem dX12_crossesOf_1 : decode cX12_crossesOf 1 = .ok (.istore_n 2, 1) := by decide +kernel
theorem dX12_crossesOf_2 : decode cX12_crossesOf 2 = .ok (.iconst 0, 1) := by decide +kernel
theorem dX12_crossesOf_3 : decode cX12_crossesOf 3 = .ok (.istore_n 3, 1) := by decide +kernel
theorem dX12_crossesOf_4 : decode cX12_crossesOf 4 = .ok (.iload_n 3, 1) := by decide +kernel
theorem dX12_crossesOf_5 : decode cX12_crossesOf 5 = .ok (.aload_n 0, 1) := by decide +kernel
theorem dX12_crossesOf_6 : decode cX12_crossesOf 6 = .ok (.iload_n 1, 1) := by decide +kernel
theorem dX12_crossesOf_7 : decode cX12_crossesOf 7 = .ok (.iconst 0, 1) := by decide +kernel
theorem dX12_crossesOf_8 : decode cX12_crossesOf 8 = .ok (.invokevirtual 306, 3) := by decide +kernel
theorem dX12_crossesOf_11 : decode cX12_crossesOf 11 = .ok (.if_icmp .ge 43, 3) := by decide +kernel
theorem dX12_crossesOf_14 : decode cX12_crossesOf 14 = .ok (.iload_n 2, 1) := by decide +kernel
theorem dX12_crossesOf_15 : decode cX12_crossesOf 15 = .ok (.aload_n 0, 1) := by decide +kernel
theorem dX12_crossesOf_16 : decode cX12_crossesOf 16 = .ok (.iload_n 1, 1) := by decide +kernel
theorem dX12_crossesOf_17 : decode cX12_crossesOf 17 = .ok (.aload_n 0, 1) := by decide +kernel
theorem dX12_crossesOf_18 : decode cX12_crossesOf 18 = .ok (.iload_n 1, 1) := by decide +kernel
theorem dX12_crossesOf_19 : decode cX12_crossesOf 19 = .ok (.iconst 4, 1) := by decide +kernel
theorem dX12_crossesOf_20 : decode cX12_crossesOf 20 = .ok (.iload_n 3, 1) := by decide +kernel
theorem dX12_crossesOf_21 : decode cX12_crossesOf 21 = .ok (.iadd, 1) := by decide +kernel
theorem dX12_crossesOf_22 : decode cX12_crossesOf 22 = .ok (.invokevirtual 306, 3) := by decide +kernel
theorem dX12_crossesOf_25 : decode cX12_crossesOf 25 = .ok (.aload_n 0, 1) := by decide +kernel
theorem dX12_crossesOf_26 : decode cX12_crossesOf 26 = .ok (.iload_n 1, 1) := by decide +kernel
theorem dX12_crossesOf_27 : decode cX12_crossesOf 27 = .ok (.bipush 44, 2) := by decide +kernel
theorem dX12_crossesOf_29 : decode cX12_crossesOf 29 = .ok (.iload_n 3, 1) := by decide +kernel
theorem dX12_crossesOf_30 : decode cX12_crossesOf 30 = .ok (.iadd, 1) := by decide +kernel
theorem dX12_crossesOf_31 : decode cX12_crossesOf 31 = .ok (.invokevirtual 306, 3) := by decide +kernel
theorem dX12_crossesOf_34 : decode cX12_crossesOf 34 = .ok (.invokevirtual 313, 3) := by decide +kernel
theorem dX12_crossesOf_37 : decode cX12_crossesOf 37 = .ok (.iconst 4, 1) := by decide +kernel
theorem dX12_crossesOf_38 : decode cX12_crossesOf 38 = .ok (.if_icmp .ne 7, 3) := by decide +kernel
theorem dX12_crossesOf_41 : decode cX12_crossesOf 41 = .ok (.iconst 1, 1) := by decide +kernel
theorem dX12_crossesOf_42 : decode cX12_crossesOf 42 = .ok (.goto 4, 3) := by decide +kernel
theorem dX12_crossesOf_45 : decode cX12_crossesOf 45 = .ok (.iconst 0, 1) := by decide +kernel
theorem dX12_crossesOf_46 : decode cX12_crossesOf 46 = .ok (.iadd, 1) := by decide +kernel
theorem dX12_crossesOf_47 : decode cX12_crossesOf 47 = .ok (.istore_n 2, 1) := by decide +kernel
theorem dX12_crossesOf_48 : decode cX12_crossesOf 48 = .ok (.iinc 3 1, 3) := by decide +kernel
theorem dX12_crossesOf_51 : decode cX12_crossesOf 51 = .ok (.goto (-47), 3) := by decide +kernel
theorem dX12_crossesOf_54 : decode cX12_crossesOf 54 = .ok (.iload_n 2, 1) := by decide +kernel
theorem dX12_crossesOf_55 : decode cX12_crossesOf 55 = .ok (.ireturn, 1) := by decide +kernel
theorem dX12_rect_0 : decode cX12_rect 0 = .ok (.aload_n 0, 1) := by decide +kernel
theorem dX12_rect_1 : decode cX12_rect 1 = .ok (.iconst 0, 1) := by decide +kernel
theorem dX12_rect_2 : decode cX12_rect 2 = .ok (.putfield 103, 3) := by decide +kernel
theorem dX12_rect_5 : decode cX12_rect 5 = .ok (.aload_n 0, 1) := by decide +kernel
theorem dX12_rect_6 : decode cX12_rect 6 = .ok (.iload_n 1, 1) := by decide +kernel
theorem dX12_rect_7 : decode cX12_rect 7 = .ok (.invokevirtual 316, 3) := by decide +kernel
theorem dX12_rect_10 : decode cX12_rect 10 = .ok (.ifCond .eq 15, 3) := by decide +kernel
theorem dX12_rect_13 : decode cX12_rect 13 = .ok (.iload_n 2, 1) := by decide +kernel
theorem dX12_rect_14 : decode cX12_rect 14 = .ok (.i2l, 1) := by decide +kernel
theorem dX12_rect_15 : decode cX12_rect 15 = .ok (.lconst 0, 1) := by decide +kernel
theorem dX12_rect_16 : decode cX12_rect 16 = .ok (.ldc2_w 320, 3) := by decide +kernel
theorem dX12_rect_19 : decode cX12_rect 19 = .ok (.invokestatic 141, 3) := by decide +kernel
theorem dX12_rect_22 : decode cX12_rect 22 = .ok (.ifCond .ne 5, 3) := by decide +kernel
theorem dX12_rect_25 : decode cX12_rect 25 = .ok (.iconst (-1), 1) := by decide +kernel
theorem dX12_rect_26 : decode cX12_rect 26 = .ok (.ireturn, 1) := by decide +kernel
theorem dX12_rect_27 : decode cX12_rect 27 = .ok (.iload_n 2, 1) := by decide +kernel
theorem dX12_rect_28 : decode cX12_rect 28 = .ok (.bipush 7, 2) := by decide +kernel
theorem dX12_rect_30 : decode cX12_rect 30 = .ok (.if_icmp .ne 9, 3) := by decide +kernel
theorem dX12_rect_33 : decode cX12_rect 33 = .ok (.aload_n 0, 1) := by decide +kernel
theorem dX12_rect_34 : decode cX12_rect 34 = .ok (.iload_n 1, 1) := by decide +kernel
theorem dX12_rect_35 : decode cX12_rect 35 = .ok (.invokevirtual 322, 3) := by decide +kernel
theorem dX12_rect_38 : decode cX12_rect 38 = .ok (.ireturn, 1) := by decide +kernel
theorem dX12_rect_39 : decode cX12_rect 39 = .ok (.aload_n 0, 1) := by decide +kernel
theorem dX12_rect_40 : decode cX12_rect 40 = .ok (.iload_n 1, 1) := by decide +kernel
theorem dX12_rect_41 : decode cX12_rect 41 = .ok (.invokevirtual 325, 3) := by decide +kernel
theorem dX12_rect_44 : decode cX12_rect 44 = .ok (.ifCond .eq 6, 3) := by decide +kernel
theorem dX12_rect_47 : decode cX12_rect 47 = .ok (.bipush (-2), 2) := by decide +kernel
theorem dX12_rect_49 : decode cX12_rect 49 = .ok (.ireturn, 1) := by decide +kernel
theorem dX12_rect_50 : decode cX12_rect 50 = .ok (.iload_n 2, 1) := by decide +kernel
theorem dX12_rect_51 : decode cX12_rect 51 = .ok (.tableswitch 92 0 5 #[37, 44, 51, 58, 72, 86], 37) := by decide +kernel
theorem dX12_rect_88 : decode cX12_rect 88 = .ok (.aload_n 0, 1) := by decide +kernel
theorem dX12_rect_89 : decode cX12_rect 89 = .ok (.iload_n 1, 1) := by decide +kernel
theorem dX12_rect_90 : decode cX12_rect 90 = .ok (.iconst 0, 1) := by decide +kernel
theorem dX12_rect_91 : decode cX12_rect 91 = .ok (.invokevirtual 306, 3) := by decide +kernel
theorem dX12_rect_94 : decode cX12_rect 94 = .ok (.ireturn, 1) := by decide +kernel
theorem dX12_rect_95 : decode cX12_rect 95 = .ok (.aload_n 0, 1) := by decide +kernel
theorem dX12_rect_96 : decode cX12_rect 96 = .ok (.iload_n 1, 1) := by decide +kernel
theorem dX12_rect_97 : decode cX12_rect 97 = .ok (.iconst 1, 1) := by decide +kernel
theorem dX12_rect_98 : decode cX12_rect 98 = .ok (.invokevirtual 306, 3) := by decide +kernel
theorem dX12_rect_101 : decode cX12_rect 101 = .ok (.ireturn, 1) := by decide +kernel
theorem dX12_rect_102 : decode cX12_rect 102 = .ok (.aload_n 0, 1) := by decide +kernel
theorem dX12_rect_103 : decode cX12_rect 103 = .ok (.iload_n 1, 1) := by decide +kernel
theorem dX12_rect_104 : decode cX12_rect 104 = .ok (.iconst 2, 1) := by decide +kernel
theorem dX12_rect_105 : decode cX12_rect 105 = .ok (.invokevirtual 306, 3) := by decide +kernel
theorem dX12_rect_108 : decode cX12_rect 108 = .ok (.ireturn, 1) := by decide +kernel
theorem dX12_rect_109 : decode cX12_rect 109 = .ok (.aload_n 0, 1) := by decide +kernel
theorem dX12_rect_110 : decode cX12_rect 110 = .ok (.iload_n 1, 1) := by decide +kernel
theorem dX12_rect_111 : decode cX12_rect 111 = .ok (.invokevirtual 328, 3) := by decide +kernel
theorem dX12_rect_114 : decode cX12_rect 114 = .ok (.ifCond .eq 7, 3) := by decide +kernel
theorem dX12_rect_117 : decode cX12_rect 117 = .ok (.iconst 1, 1) := by decide +kernel
theorem dX12_rect_118 : decode cX12_rect 118 = .ok (.goto 4, 3) := by decide +kernel
theorem dX12_rect_121 : decode cX12_rect 121 = .ok (.iconst 0, 1) := by decide +kernel
theorem dX12_rect_122 : decode cX12_rect 122 = .ok (.ireturn, 1) := by decide +kernel
theorem dX12_rect_123 : decode cX12_rect 123 = .ok (.aload_n 0, 1) := by decide +kernel
theorem dX12_rect_124 : decode cX12_rect 124 = .ok (.iload_n 1, 1) := by decide +kernel
theorem dX12_rect_125 : decode cX12_rect 125 = .ok (.invokevirtual 331, 3) := by decide +kernel
theorem dX12_rect_128 : decode cX12_rect 128 = .ok (.ifCond .ne 7, 3) := by decide +kernel
theorem dX12_rect_131 : decode cX12_rect 131 = .ok (.iconst 1, 1) := by decide +kernel
theorem dX12_rect_132 : decode cX12_rect 132 = .ok (.goto 4, 3) := by decide +kernel
theorem dX12_rect_135 : decode cX12_rect 135 = .ok (.iconst 0, 1) := by decide +kernel
theorem dX12_rect_136 : decode cX12_rect 136 = .ok (.ireturn, 1) := by decide +kernel
theorem dX12_rect_137 : decode cX12_rect 137 = .ok (.aload_n 0, 1) := by decide +kernel
theorem dX12_rect_138 : decode cX12_rect 138 = .ok (.iload_n 1, 1) := by decide +kernel
theorem dX12_rect_139 : decode cX12_rect 139 = .ok (.invokevirtual 331, 3) := by decide +kernel
theorem dX12_rect_142 : decode cX12_rect 142 = .ok (.ireturn, 1) := by decide +kernel
theorem dX12_rect_143 : decode cX12_rect 143 = .ok (.aload_n 0, 1) := by decide +kernel
theorem dX12_rect_144 : decode cX12_rect 144 = .ok (.iload_n 1, 1) := by decide +kernel
theorem dX12_rect_145 : decode cX12_rect 145 = .ok (.invokevirtual 334, 3) := by decide +kernel
theorem dX12_rect_148 : decode cX12_rect 148 = .ok (.ireturn, 1) := by decide +kernel
theorem dX12_isSquare_0 : decode cX12_isSquare 0 = .ok (.aload_n 0, 1) := by decide +kernel
theorem dX12_isSquare_1 : decode cX12_isSquare 1 = .ok (.iload_n 1, 1) := by decide +kernel
theorem dX12_isSquare_2 : decode cX12_isSquare 2 = .ok (.invokevirtual 316, 3) := by decide +kernel
theorem dX12_isSquare_5 : decode cX12_isSquare 5 = .ok (.ifCond .eq 25, 3) := by decide +kernel
theorem dX12_isSquare_8 : decode cX12_isSquare 8 = .ok (.iload_n 2, 1) := by decide +kernel
theorem dX12_isSquare_9 : decode cX12_isSquare 9 = .ok (.i2l, 1) := by decide +kernel
theorem dX12_isSquare_10 : decode cX12_isSquare 10 = .ok (.lconst 0, 1) := by decide +kernel
theorem dX12_isSquare_11 : decode cX12_isSquare 11 = .ok (.aload_n 0, 1) := by decide +kernel
theorem dX12_isSquare_12 : decode cX12_isSquare 12 = .ok (.iload_n 1, 1) := by decide +kernel
theorem dX12_isSquare_13 : decode cX12_isSquare 13 = .ok (.iconst 0, 1) := by decide +kernel
theorem dX12_isSquare_14 : decode cX12_isSquare 14 = .ok (.invokevirtual 306, 3) := by decide +kernel
theorem dX12_isSquare_17 : decode cX12_isSquare 17 = .ok (.iconst 1, 1) := by decide +kernel
theorem dX12_isSquare_18 : decode cX12_isSquare 18 = .ok (.isub, 1) := by decide +kernel
theorem dX12_isSquare_19 : decode cX12_isSquare 19 = .ok (.i2l, 1) := by decide +kernel
theorem dX12_isSquare_20 : decode cX12_isSquare 20 = .ok (.invokestatic 141, 3) := by decide +kernel
theorem dX12_isSquare_23 : decode cX12_isSquare 23 = .ok (.ifCond .eq 7, 3) := by decide +kernel
theorem dX12_isSquare_26 : decode cX12_isSquare 26 = .ok (.iconst 1, 1) := by decide +kernel
theorem dX12_isSquare_27 : decode cX12_isSquare 27 = .ok (.goto 4, 3) := by decide +kernel
theorem dX12_isSquare_30 : decode cX12_isSquare 30 = .ok (.iconst 0, 1) := by decide +kernel
theorem dX12_isSquare_31 : decode cX12_isSquare 31 = .ok (.ireturn, 1) := by decide +kernel
theorem dX12_square_0 : decode cX12_square 0 = .ok (.aload_n 0, 1) := by decide +kernel
theorem dX12_square_1 : decode cX12_square 1 = .ok (.aload_n 0, 1) := by decide +kernel
theorem dX12_square_2 : decode cX12_square 2 = .ok (.iload_n 1, 1) := by decide +kernel
theorem dX12_square_3 : decode cX12_square 3 = .ok (.iload_n 2, 1) := by decide +kernel
theorem dX12_square_4 : decode cX12_square 4 = .ok (.invokevirtual 337, 3) := by decide +kernel
theorem dX12_square_7 : decode cX12_square 7 = .ok (.ifCond .eq 19, 3) := by decide +kernel
theorem dX12_square_10 : decode cX12_square 10 = .ok (.iload_n 3, 1) := by decide +kernel
theorem dX12_square_11 : decode cX12_square 11 = .ok (.i2l, 1) := by decide +kernel
theorem dX12_square_12 : decode cX12_square 12 = .ok (.lconst 0, 1) := by decide +kernel
theorem dX12_square_13 : decode cX12_square 13 = .ok (.ldc2_w 199, 3) := by decide +kernel
theorem dX12_square_16 : decode cX12_square 16 = .ok (.invokestatic 141, 3) := by decide +kernel
theorem dX12_square_19 : decode cX12_square 19 = .ok (.ifCond .eq 7, 3) := by decide +kernel
theorem dX12_square_22 : decode cX12_square 22 = .ok (.iconst 0, 1) := by decide +kernel
theorem dX12_square_23 : decode cX12_square 23 = .ok (.goto 4, 3) := by decide +kernel
theorem dX12_square_26 : decode cX12_square 26 = .ok (.iconst 1, 1) := by decide +kernel
theorem dX12_square_27 : decode cX12_square 27 = .ok (.putfield 103, 3) := by decide +kernel
theorem dX12_square_30 : decode cX12_square 30 = .ok (.aload_n 0, 1) := by decide +kernel
theorem dX12_square_31 : decode cX12_square 31 = .ok (.getfield 103, 3) := by decide +kernel
theorem dX12_square_34 : decode cX12_square 34 = .ok (.iconst 1, 1) := by decide +kernel
theorem dX12_square_35 : decode cX12_square 35 = .ok (.if_icmp .ne 7, 3) := by decide +kernel
theorem dX12_square_38 : decode cX12_square 38 = .ok (.iconst 0, 1) := by decide +kernel
theorem dX12_square_39 : decode cX12_square 39 = .ok (.goto 34, 3) := by decide +kernel
theorem dX12_square_42 : decode cX12_square 42 = .ok (.aload_n 0, 1) := by decide +kernel
theorem dX12_square_43 : decode cX12_square 43 = .ok (.iload_n 1, 1) := by decide +kernel
theorem dX12_square_44 : decode cX12_square 44 = .ok (.iload_n 3, 1) := by decide +kernel
theorem dX12_square_45 : decode cX12_square 45 = .ok (.ifCond .ne 9, 3) := by decide +kernel
theorem dX12_square_48 : decode cX12_square 48 = .ok (.iconst 4, 1) := by decide +kernel
theorem dX12_square_49 : decode cX12_square 49 = .ok (.iload_n 2, 1) := by decide +kernel
theorem dX12_square_50 : decode cX12_square 50 = .ok (.iadd, 1) := by decide +kernel
theorem dX12_square_51 : decode cX12_square 51 = .ok (.goto 19, 3) := by decide +kernel
theorem dX12_square_54 : decode cX12_square 54 = .ok (.iload_n 3, 1) := by decide +kernel
theorem dX12_square_55 : decode cX12_square 55 = .ok (.iconst 1, 1) := by decide +kernel
theorem dX12_square_56 : decode cX12_square 56 = .ok (.if_icmp .ne 10, 3) := by decide +kernel
theorem dX12_square_59 : decode cX12_square 59 = .ok (.bipush 44, 2) := by decide +kernel
theorem dX12_square_61 : decode cX12_square 61 = .ok (.iload_n 2, 1) := by decide +kernel
theorem dX12_square_62 : decode cX12_square 62 = .ok (.iadd, 1) := by decide +kernel
theorem dX12_square_63 : decode cX12_square 63 = .ok (.goto 7, 3) := by decide +kernel
theorem dX12_square_66 : decode cX12_square 66 = .ok (.bipush 84, 2) := by decide +kernel
theorem dX12_square_68 : decode cX12_square 68 = .ok (.iload_n 2, 1) := by decide +kernel
theorem dX12_square_69 : decode cX12_square 69 = .ok (.iadd, 1) := by decide +kernel
theorem dX12_square_70 : decode cX12_square 70 = .ok (.invokevirtual 306, 3) := by decide +kernel
theorem dX12_square_73 : decode cX12_square 73 = .ok (.ireturn, 1) := by decide +kernel
theorem dX12_laid_0 : decode cX12_laid 0 = .ok (.aload_n 0, 1) := by decide +kernel
theorem dX12_laid_1 : decode cX12_laid 1 = .ok (.iconst 0, 1) := by decide +kernel
theorem dX12_laid_2 : decode cX12_laid 2 = .ok (.putfield 103, 3) := by decide +kernel
theorem dX12_laid_5 : decode cX12_laid 5 = .ok (.aload_n 0, 1) := by decide +kernel
theorem dX12_laid_6 : decode cX12_laid 6 = .ok (.iload_n 1, 1) := by decide +kernel
theorem dX12_laid_7 : decode cX12_laid 7 = .ok (.invokevirtual 316, 3) := by decide +kernel
theorem dX12_laid_10 : decode cX12_laid 10 = .ok (.ifCond .ne 7, 3) := by decide +kernel
theorem dX12_laid_13 : decode cX12_laid 13 = .ok (.iconst (-1), 1) := by decide +kernel
theorem dX12_laid_14 : decode cX12_laid 14 = .ok (.goto 22, 3) := by decide +kernel
theorem dX12_laid_17 : decode cX12_laid 17 = .ok (.aload_n 0, 1) := by decide +kernel
theorem dX12_laid_18 : decode cX12_laid 18 = .ok (.iload_n 1, 1) := by decide +kernel
theorem dX12_laid_19 : decode cX12_laid 19 = .ok (.invokevirtual 322, 3) := by decide +kernel
theorem dX12_laid_22 : decode cX12_laid 22 = .ok (.ifCond .eq 8, 3) := by decide +kernel
theorem dX12_laid_25 : decode cX12_laid 25 = .ok (.bipush (-2), 2) := by decide +kernel
theorem dX12_laid_27 : decode cX12_laid 27 = .ok (.goto 9, 3) := by decide +kernel
theorem dX12_laid_30 : decode cX12_laid 30 = .ok (.aload_n 0, 1) := by decide +kernel
theorem dX12_laid_31 : decode cX12_laid 31 = .ok (.getfield 55, 3) := by decide +kernel
theorem dX12_laid_34 : decode cX12_laid 34 = .ok (.iload_n 1, 1) := by decide +kernel
theorem dX12_laid_35 : decode cX12_laid 35 = .ok (.iaload, 1) := by decide +kernel
theorem dX12_laid_36 : decode cX12_laid 36 = .ok (.ireturn, 1) := by decide +kernel
theorem dX12_area_0 : decode cX12_area 0 = .ok (.aload_n 0, 1) := by decide +kernel
theorem dX12_area_1 : decode cX12_area 1 = .ok (.iconst 0, 1) := by decide +kernel
theorem dX12_area_2 : decode cX12_area 2 = .ok (.putfield 103, 3) := by decide +kernel
theorem dX12_area_5 : decode cX12_area 5 = .ok (.aload_n 0, 1) := by decide +kernel
theorem dX12_area_6 : decode cX12_area 6 = .ok (.iload_n 1, 1) := by decide +kernel
theorem dX12_area_7 : decode cX12_area 7 = .ok (.invokevirtual 316, 3) := by decide +kernel
theorem dX12_area_10 : decode cX12_area 10 = .ok (.ifCond .ne 9, 3) := by decide +kernel
theorem dX12_area_13 : decode cX12_area 13 = .ok (.ldc2_w 250, 3) := by decide +kernel
theorem dX12_area_16 : decode cX12_area 16 = .ok (.goto 32, 3) := by decide +kernel
theorem dX12_area_19 : decode cX12_area 19 = .ok (.aload_n 0, 1) := by decide +kernel
theorem dX12_area_20 : decode cX12_area 20 = .ok (.iload_n 1, 1) := by decide +kernel
theorem dX12_area_21 : decode cX12_area 21 = .ok (.invokevirtual 325, 3) := by decide +kernel
theorem dX12_area_24 : decode cX12_area 24 = .ok (.ifCond .eq 9, 3) := by decide +kernel
theorem dX12_area_27 : decode cX12_area 27 = .ok (.ldc2_w 340, 3) := by decide +kernel
theorem dX12_area_30 : decode cX12_area 30 = .ok (.goto 18, 3) := by decide +kernel
theorem dX12_area_33 : decode cX12_area 33 = .ok (.aload_n 0, 1) := by decide +kernel
theorem dX12_area_34 : decode cX12_area 34 = .ok (.iload_n 1, 1) := by decide +kernel
theorem dX12_area_35 : decode cX12_area 35 = .ok (.iconst 1, 1) := by decide +kernel
theorem dX12_area_36 : decode cX12_area 36 = .ok (.invokevirtual 306, 3) := by decide +kernel
theorem dX12_area_39 : decode cX12_area 39 = .ok (.i2l, 1) := by decide +kernel
theorem dX12_area_40 : decode cX12_area 40 = .ok (.aload_n 0, 1) := by decide +kernel
theorem dX12_area_41 : decode cX12_area 41 = .ok (.iload_n 1, 1) := by decide +kernel
theorem dX12_area_42 : decode cX12_area 42 = .ok (.iconst 2, 1) := by decide +kernel
theorem dX12_area_43 : decode cX12_area 43 = .ok (.invokevirtual 306, 3) := by decide +kernel
theorem dX12_area_46 : decode cX12_area 46 = .ok (.i2l, 1) := by decide +kernel
theorem dX12_area_47 : decode cX12_area 47 = .ok (.lmul, 1) := by decide +kernel
theorem dX12_area_48 : decode cX12_area 48 = .ok (.lreturn, 1) := by decide +kernel
theorem dX12_least_0 : decode cX12_least 0 = .ok (.aload_n 0, 1) := by decide +kernel
theorem dX12_least_1 : decode cX12_least 1 = .ok (.iconst 0, 1) := by decide +kernel
theorem dX12_least_2 : decode cX12_least 2 = .ok (.putfield 103, 3) := by decide +kernel
theorem dX12_least_5 : decode cX12_least 5 = .ok (.aload_n 0, 1) := by decide +kernel
theorem dX12_least_6 : decode cX12_least 6 = .ok (.iload_n 1, 1) := by decide +kernel
theorem dX12_least_7 : decode cX12_least 7 = .ok (.invokevirtual 316, 3) := by decide +kernel
theorem dX12_least_10 : decode cX12_least 10 = .ok (.ifCond .ne 5, 3) := by decide +kernel
theorem dX12_least_13 : decode cX12_least 13 = .ok (.iconst (-1), 1) := by decide +kernel
theorem dX12_least_14 : decode cX12_least 14 = .ok (.ireturn, 1) := by decide +kernel
theorem dX12_least_15 : decode cX12_least 15 = .ok (.aload_n 0, 1) := by decide +kernel
theorem dX12_least_16 : decode cX12_least 16 = .ok (.iload_n 1, 1) := by decide +kernel
theorem dX12_least_17 : decode cX12_least 17 = .ok (.invokevirtual 325, 3) := by decide +kernel
theorem dX12_least_20 : decode cX12_least 20 = .ok (.ifCond .eq 6, 3) := by decide +kernel
theorem dX12_least_23 : decode cX12_least 23 = .ok (.bipush (-2), 2) := by decide +kernel
theorem dX12_least_25 : decode cX12_least 25 = .ok (.ireturn, 1) := by decide +kernel
theorem dX12_least_26 : decode cX12_least 26 = .ok (.iconst 0, 1) := by decide +kernel
theorem dX12_least_27 : decode cX12_least 27 = .ok (.istore_n 2, 1) := by decide +kernel
theorem dX12_least_28 : decode cX12_least 28 = .ok (.iconst 1, 1) := by decide +kernel
theorem dX12_least_29 : decode cX12_least 29 = .ok (.istore_n 3, 1) := by decide +kernel
theorem dX12_least_30 : decode cX12_least 30 = .ok (.iload_n 3, 1) := by decide +kernel
theorem dX12_least_31 : decode cX12_least 31 = .ok (.aload_n 0, 1) := by decide +kernel
theorem dX12_least_32 : decode cX12_least 32 = .ok (.iload_n 1, 1) := by decide +kernel
theorem dX12_least_33 : decode cX12_least 33 = .ok (.iconst 0, 1) := by decide +kernel
theorem dX12_least_34 : decode cX12_least 34 = .ok (.invokevirtual 306, 3) := by decide +kernel
theorem dX12_least_37 : decode cX12_least 37 = .ok (.if_icmp .ge 32, 3) := by decide +kernel
theorem dX12_least_40 : decode cX12_least 40 = .ok (.aload_n 0, 1) := by decide +kernel
theorem dX12_least_41 : decode cX12_least 41 = .ok (.iload_n 1, 1) := by decide +kernel
theorem dX12_least_42 : decode cX12_least 42 = .ok (.bipush 84, 2) := by decide +kernel
theorem dX12_least_44 : decode cX12_least 44 = .ok (.iload_n 3, 1) := by decide +kernel
theorem dX12_least_45 : decode cX12_least 45 = .ok (.iadd, 1) := by decide +kernel
theorem dX12_least_46 : decode cX12_least 46 = .ok (.invokevirtual 306, 3) := by decide +kernel
theorem dX12_least_49 : decode cX12_least 49 = .ok (.aload_n 0, 1) := by decide +kernel
theorem dX12_least_50 : decode cX12_least 50 = .ok (.iload_n 1, 1) := by decide +kernel
theorem dX12_least_51 : decode cX12_least 51 = .ok (.bipush 84, 2) := by decide +kernel
theorem dX12_least_53 : decode cX12_least 53 = .ok (.iload_n 2, 1) := by decide +kernel
theorem dX12_least_54 : decode cX12_least 54 = .ok (.iadd, 1) := by decide +kernel
theorem dX12_least_55 : decode cX12_least 55 = .ok (.invokevirtual 306, 3) := by decide +kernel
theorem dX12_least_58 : decode cX12_least 58 = .ok (.if_icmp .ge 5, 3) := by decide +kernel
theorem dX12_least_61 : decode cX12_least 61 = .ok (.iload_n 3, 1) := by decide +kernel
theorem dX12_least_62 : decode cX12_least 62 = .ok (.istore_n 2, 1) := by decide +kernel
theorem dX12_least_63 : decode cX12_least 63 = .ok (.iinc 3 1, 3) := by decide +kernel
theorem dX12_least_66 : decode cX12_least 66 = .ok (.goto (-36), 3) := by decide +kernel
theorem dX12_least_69 : decode cX12_least 69 = .ok (.iload_n 2, 1) := by decide +kernel
theorem dX12_least_70 : decode cX12_least 70 = .ok (.ireturn, 1) := by decide +kernel
theorem dX12_isBeside_0 : decode cX12_isBeside 0 = .ok (.iload_n 2, 1) := by decide +kernel
theorem dX12_isBeside_1 : decode cX12_isBeside 1 = .ok (.ifCond .le 63, 3) := by decide +kernel
theorem dX12_isBeside_4 : decode cX12_isBeside 4 = .ok (.aload_n 0, 1) := by decide +kernel
theorem dX12_isBeside_5 : decode cX12_isBeside 5 = .ok (.iload_n 1, 1) := by decide +kernel
theorem dX12_isBeside_6 : decode cX12_isBeside 6 = .ok (.bipush 44, 2) := by decide +kernel
theorem dX12_isBeside_8 : decode cX12_isBeside 8 = .ok (.iload_n 2, 1) := by decide +kernel
theorem dX12_isBeside_9 : decode cX12_isBeside 9 = .ok (.iadd, 1) := by decide +kernel
theorem dX12_isBeside_10 : decode cX12_isBeside 10 = .ok (.invokevirtual 306, 3) := by decide +kernel
theorem dX12_isBeside_13 : decode cX12_isBeside 13 = .ok (.aload_n 0, 1) := by decide +kernel
theorem dX12_isBeside_14 : decode cX12_isBeside 14 = .ok (.iload_n 1, 1) := by decide +kernel
theorem dX12_isBeside_15 : decode cX12_isBeside 15 = .ok (.bipush 44, 2) := by decide +kernel
theorem dX12_isBeside_17 : decode cX12_isBeside 17 = .ok (.iload_n 2, 1) := by decide +kernel
theorem dX12_isBeside_18 : decode cX12_isBeside 18 = .ok (.iadd, 1) := by decide +kernel
theorem dX12_isBeside_19 : decode cX12_isBeside 19 = .ok (.iconst 1, 1) := by decide +kernel
theorem dX12_isBeside_20 : decode cX12_isBeside 20 = .ok (.isub, 1) := by decide +kernel
theorem dX12_isBeside_21 : decode cX12_isBeside 21 = .ok (.invokevirtual 306, 3) := by decide +kernel
theorem dX12_isBeside_24 : decode cX12_isBeside 24 = .ok (.if_icmp .ne 40, 3) := by decide +kernel
theorem dX12_isBeside_27 : decode cX12_isBeside 27 = .ok (.aload_n 0, 1) := by decide +kernel
theorem dX12_isBeside_28 : decode cX12_isBeside 28 = .ok (.iload_n 1, 1) := by decide +kernel
theorem dX12_isBeside_29 : decode cX12_isBeside 29 = .ok (.iconst 4, 1) := by decide +kernel
theorem dX12_isBeside_30 : decode cX12_isBeside 30 = .ok (.iload_n 2, 1) := by decide +kernel
theorem dX12_isBeside_31 : decode cX12_isBeside 31 = .ok (.iadd, 1) := by decide +kernel
theorem dX12_isBeside_32 : decode cX12_isBeside 32 = .ok (.invokevirtual 306, 3) := by decide +kernel
theorem dX12_isBeside_35 : decode cX12_isBeside 35 = .ok (.aload_n 0, 1) := by decide +kernel
theorem dX12_isBeside_36 : decode cX12_isBeside 36 = .ok (.iload_n 1, 1) := by decide +kernel
theorem dX12_isBeside_37 : decode cX12_isBeside 37 = .ok (.iconst 4, 1) := by decide +kernel
theorem dX12_isBeside_38 : decode cX12_isBeside 38 = .ok (.iload_n 2, 1) := by decide +kernel
theorem dX12_isBeside_39 : decode cX12_isBeside 39 = .ok (.iadd, 1) := by decide +kernel
theorem dX12_isBeside_40 : decode cX12_isBeside 40 = .ok (.iconst 1, 1) := by decide +kernel
theorem dX12_isBeside_41 : decode cX12_isBeside 41 = .ok (.isub, 1) := by decide +kernel
theorem dX12_isBeside_42 : decode cX12_isBeside 42 = .ok (.invokevirtual 306, 3) := by decide +kernel
theorem dX12_isBeside_45 : decode cX12_isBeside 45 = .ok (.aload_n 0, 1) := by decide +kernel
theorem dX12_isBeside_46 : decode cX12_isBeside 46 = .ok (.iload_n 1, 1) := by decide +kernel
theorem dX12_isBeside_47 : decode cX12_isBeside 47 = .ok (.bipush 84, 2) := by decide +kernel
theorem dX12_isBeside_49 : decode cX12_isBeside 49 = .ok (.iload_n 2, 1) := by decide +kernel
theorem dX12_isBeside_50 : decode cX12_isBeside 50 = .ok (.iadd, 1) := by decide +kernel
theorem dX12_isBeside_51 : decode cX12_isBeside 51 = .ok (.iconst 1, 1) := by decide +kernel
theorem dX12_isBeside_52 : decode cX12_isBeside 52 = .ok (.isub, 1) := by decide +kernel
theorem dX12_isBeside_53 : decode cX12_isBeside 53 = .ok (.invokevirtual 306, 3) := by decide +kernel
theorem dX12_isBeside_56 : decode cX12_isBeside 56 = .ok (.iadd, 1) := by decide +kernel
theorem dX12_isBeside_57 : decode cX12_isBeside 57 = .ok (.if_icmp .ne 7, 3) := by decide +kernel
theorem dX12_isBeside_60 : decode cX12_isBeside 60 = .ok (.iconst 1, 1) := by decide +kernel
theorem dX12_isBeside_61 : decode cX12_isBeside 61 = .ok (.goto 4, 3) := by decide +kernel
theorem dX12_isBeside_64 : decode cX12_isBeside 64 = .ok (.iconst 0, 1) := by decide +kernel
theorem dX12_isBeside_65 : decode cX12_isBeside 65 = .ok (.ireturn, 1) := by decide +kernel
theorem dX12_prints_0 : decode cX12_prints 0 = .ok (.aload_n 0, 1) := by decide +kernel
theorem dX12_prints_1 : decode cX12_prints 1 = .ok (.getfield 85, 3) := by decide +kernel
theorem dX12_prints_4 : decode cX12_prints 4 = .ok (.aload_n 0, 1) := by decide +kernel
theorem dX12_prints_5 : decode cX12_prints 5 = .ok (.getfield 342, 3) := by decide +kernel
theorem dX12_prints_8 : decode cX12_prints 8 = .ok (.iload_n 1, 1) := by decide +kernel
theorem dX12_prints_9 : decode cX12_prints 9 = .ok (.i2b, 1) := by decide +kernel
theorem dX12_prints_10 : decode cX12_prints 10 = .ok (.bastore, 1) := by decide +kernel
theorem dX12_prints_11 : decode cX12_prints 11 = .ok (.aload_n 0, 1) := by decide +kernel
theorem dX12_prints_12 : decode cX12_prints 12 = .ok (.dup, 1) := by decide +kernel
theorem dX12_prints_13 : decode cX12_prints 13 = .ok (.getfield 342, 3) := by decide +kernel
theorem dX12_prints_16 : decode cX12_prints 16 = .ok (.iconst 1, 1) := by decide +kernel
theorem dX12_prints_17 : decode cX12_prints 17 = .ok (.iadd, 1) := by decide +kernel
theorem dX12_prints_18 : decode cX12_prints 18 = .ok (.putfield 342, 3) := by decide +kernel
theorem dX12_prints_21 : decode cX12_prints 21 = .ok (.return_, 1) := by decide +kernel
theorem dX12_printsNumber_0 : decode cX12_printsNumber 0 = .ok (.iconst 1, 1) := by decide +kernel
theorem dX12_printsNumber_1 : decode cX12_printsNumber 1 = .ok (.istore_n 2, 1) := by decide +kernel
theorem dX12_printsNumber_2 : decode cX12_printsNumber 2 = .ok (.iload_n 1, 1) := by decide +kernel
theorem dX12_printsNumber_3 : decode cX12_printsNumber 3 = .ok (.iload_n 2, 1) := by decide +kernel
theorem dX12_printsNumber_4 : decode cX12_printsNumber 4 = .ok (.idiv, 1) := by decide +kernel
theorem dX12_printsNumber_5 : decode cX12_printsNumber 5 = .ok (.bipush 10, 2) := by decide +kernel
theorem dX12_printsNumber_7 : decode cX12_printsNumber 7 = .ok (.if_icmp .lt 11, 3) := by decide +kernel
theorem dX12_printsNumber_10 : decode cX12_printsNumber 10 = .ok (.iload_n 2, 1) := by decide +kernel
theorem dX12_printsNumber_11 : decode cX12_printsNumber 11 = .ok (.bipush 10, 2) := by decide +kernel
theorem dX12_printsNumber_13 : decode cX12_printsNumber 13 = .ok (.imul, 1) := by decide +kernel
theorem dX12_printsNumber_14 : decode cX12_printsNumber 14 = .ok (.istore_n 2, 1) := by decide +kernel
theorem dX12_printsNumber_15 : decode cX12_printsNumber 15 = .ok (.goto (-13), 3) := by decide +kernel
theorem dX12_printsNumber_18 : decode cX12_printsNumber 18 = .ok (.iload_n 2, 1) := by decide +kernel
theorem dX12_printsNumber_19 : decode cX12_printsNumber 19 = .ok (.ifCond .le 24, 3) := by decide +kernel
theorem dX12_printsNumber_22 : decode cX12_printsNumber 22 = .ok (.aload_n 0, 1) := by decide +kernel
theorem dX12_printsNumber_23 : decode cX12_printsNumber 23 = .ok (.bipush 48, 2) := by decide +kernel
theorem dX12_printsNumber_25 : decode cX12_printsNumber 25 = .ok (.iload_n 1, 1) := by decide +kernel
theorem dX12_printsNumber_26 : decode cX12_printsNumber 26 = .ok (.iload_n 2, 1) := by decide +kernel
theorem dX12_printsNumber_27 : decode cX12_printsNumber 27 = .ok (.idiv, 1) := by decide +kernel
theorem dX12_printsNumber_28 : decode cX12_printsNumber 28 = .ok (.bipush 10, 2) := by decide +kernel
theorem dX12_printsNumber_30 : decode cX12_printsNumber 30 = .ok (.irem, 1) := by decide +kernel
theorem dX12_printsNumber_31 : decode cX12_printsNumber 31 = .ok (.iadd, 1) := by decide +kernel
theorem dX12_printsNumber_32 : decode cX12_printsNumber 32 = .ok (.invokevirtual 345, 3) := by decide +kernel
theorem dX12_printsNumber_35 : decode cX12_printsNumber 35 = .ok (.iload_n 2, 1) := by decide +kernel
theorem dX12_printsNumber_36 : decode cX12_printsNumber 36 = .ok (.bipush 10, 2) := by decide +kernel
theorem dX12_printsNumber_38 : decode cX12_printsNumber 38 = .ok (.idiv, 1) := by decide +kernel
theorem dX12_printsNumber_39 : decode cX12_printsNumber 39 = .ok (.istore_n 2, 1) := by decide +kernel
theorem dX12_printsNumber_40 : decode cX12_printsNumber 40 = .ok (.goto (-22), 3) := by decide +kernel
theorem dX12_printsNumber_43 : decode cX12_printsNumber 43 = .ok (.return_, 1) := by decide +kernel
theorem dX12_print_0 : decode cX12_print 0 = .ok (.aload_n 0, 1) := by decide +kernel
theorem dX12_print_1 : decode cX12_print 1 = .ok (.iconst 0, 1) := by decide +kernel
theorem dX12_print_2 : decode cX12_print 2 = .ok (.putfield 103, 3) := by decide +kernel
theorem dX12_print_5 : decode cX12_print 5 = .ok (.aload_n 0, 1) := by decide +kernel
theorem dX12_print_6 : decode cX12_print 6 = .ok (.iload_n 1, 1) := by decide +kernel
theorem dX12_print_7 : decode cX12_print 7 = .ok (.invokevirtual 316, 3) := by decide +kernel
theorem dX12_print_10 : decode cX12_print 10 = .ok (.ifCond .ne 5, 3) := by decide +kernel
theorem dX12_print_13 : decode cX12_print 13 = .ok (.iconst (-1), 1) := by decide +kernel
theorem dX12_print_14 : decode cX12_print 14 = .ok (.ireturn, 1) := by decide +kernel
theorem dX12_print_15 : decode cX12_print 15 = .ok (.aload_n 0, 1) := by decide +kernel
theorem dX12_print_16 : decode cX12_print 16 = .ok (.iload_n 1, 1) := by decide +kernel
theorem dX12_print_17 : decode cX12_print 17 = .ok (.invokevirtual 325, 3) := by decide +kernel
theorem dX12_print_20 : decode cX12_print 20 = .ok (.ifCond .eq 6, 3) := by decide +kernel
theorem dX12_print_23 : decode cX12_print 23 = .ok (.bipush (-2), 2) := by decide +kernel
theorem dX12_print_25 : decode cX12_print 25 = .ok (.ireturn, 1) := by decide +kernel
theorem dX12_print_26 : decode cX12_print 26 = .ok (.aload_n 0, 1) := by decide +kernel
theorem dX12_print_27 : decode cX12_print 27 = .ok (.iconst 0, 1) := by decide +kernel
theorem dX12_print_28 : decode cX12_print 28 = .ok (.putfield 342, 3) := by decide +kernel
theorem dX12_print_31 : decode cX12_print 31 = .ok (.iconst 0, 1) := by decide +kernel
theorem dX12_print_32 : decode cX12_print 32 = .ok (.istore_n 2, 1) := by decide +kernel
theorem dX12_print_33 : decode cX12_print 33 = .ok (.iload_n 2, 1) := by decide +kernel
theorem dX12_print_34 : decode cX12_print 34 = .ok (.aload_n 0, 1) := by decide +kernel
theorem dX12_print_35 : decode cX12_print 35 = .ok (.iload_n 1, 1) := by decide +kernel
theorem dX12_print_36 : decode cX12_print 36 = .ok (.iconst 0, 1) := by decide +kernel
theorem dX12_print_37 : decode cX12_print 37 = .ok (.invokevirtual 306, 3) := by decide +kernel
theorem dX12_print_40 : decode cX12_print 40 = .ok (.if_icmp .ge 61, 3) := by decide +kernel
theorem dX12_print_43 : decode cX12_print 43 = .ok (.iload_n 2, 1) := by decide +kernel
theorem dX12_print_44 : decode cX12_print 44 = .ok (.ifCond .le 18, 3) := by decide +kernel
theorem dX12_print_47 : decode cX12_print 47 = .ok (.aload_n 0, 1) := by decide +kernel
theorem dX12_print_48 : decode cX12_print 48 = .ok (.iload_n 1, 1) := by decide +kernel
theorem dX12_print_49 : decode cX12_print 49 = .ok (.iload_n 2, 1) := by decide +kernel
theorem dX12_print_50 : decode cX12_print 50 = .ok (.invokevirtual 348, 3) := by decide +kernel
theorem dX12_print_53 : decode cX12_print 53 = .ok (.ifCond .ne 9, 3) := by decide +kernel
theorem dX12_print_56 : decode cX12_print 56 = .ok (.aload_n 0, 1) := by decide +kernel
theorem dX12_print_57 : decode cX12_print 57 = .ok (.bipush 41, 2) := by decide +kernel
theorem dX12_print_59 : decode cX12_print 59 = .ok (.invokevirtual 345, 3) := by decide +kernel
theorem dX12_print_62 : decode cX12_print 62 = .ok (.aload_n 0, 1) := by decide +kernel
theorem dX12_print_63 : decode cX12_print 63 = .ok (.aload_n 0, 1) := by decide +kernel
theorem dX12_print_64 : decode cX12_print 64 = .ok (.iload_n 1, 1) := by decide +kernel
theorem dX12_print_65 : decode cX12_print 65 = .ok (.iload_n 2, 1) := by decide +kernel
theorem dX12_print_66 : decode cX12_print 66 = .ok (.invokevirtual 348, 3) := by decide +kernel
theorem dX12_print_69 : decode cX12_print 69 = .ok (.ifCond .eq 8, 3) := by decide +kernel
theorem dX12_print_72 : decode cX12_print 72 = .ok (.bipush 32, 2) := by decide +kernel
theorem dX12_print_74 : decode cX12_print 74 = .ok (.goto 5, 3) := by decide +kernel
theorem dX12_print_77 : decode cX12_print 77 = .ok (.bipush 40, 2) := by decide +kernel
theorem dX12_print_79 : decode cX12_print 79 = .ok (.invokevirtual 345, 3) := by decide +kernel
theorem dX12_print_82 : decode cX12_print 82 = .ok (.aload_n 0, 1) := by decide +kernel
theorem dX12_print_83 : decode cX12_print 83 = .ok (.aload_n 0, 1) := by decide +kernel
theorem dX12_print_84 : decode cX12_print 84 = .ok (.iload_n 1, 1) := by decide +kernel
theorem dX12_print_85 : decode cX12_print 85 = .ok (.bipush 84, 2) := by decide +kernel
theorem dX12_print_87 : decode cX12_print 87 = .ok (.iload_n 2, 1) := by decide +kernel
theorem dX12_print_88 : decode cX12_print 88 = .ok (.iadd, 1) := by decide +kernel
theorem dX12_print_89 : decode cX12_print 89 = .ok (.invokevirtual 306, 3) := by decide +kernel
theorem dX12_print_92 : decode cX12_print 92 = .ok (.invokevirtual 351, 3) := by decide +kernel
theorem dX12_print_95 : decode cX12_print 95 = .ok (.iinc 2 1, 3) := by decide +kernel
theorem dX12_print_98 : decode cX12_print 98 = .ok (.goto (-65), 3) := by decide +kernel
theorem dX12_print_101 : decode cX12_print 101 = .ok (.aload_n 0, 1) := by decide +kernel
theorem dX12_print_102 : decode cX12_print 102 = .ok (.bipush 41, 2) := by decide +kernel
theorem dX12_print_104 : decode cX12_print 104 = .ok (.invokevirtual 345, 3) := by decide +kernel
theorem dX12_print_107 : decode cX12_print 107 = .ok (.aload_n 0, 1) := by decide +kernel
theorem dX12_print_108 : decode cX12_print 108 = .ok (.getfield 342, 3) := by decide +kernel
theorem dX12_print_111 : decode cX12_print 111 = .ok (.ireturn, 1) := by decide +kernel
theorem dX12_at_0 : decode cX12_at 0 = .ok (.aload_n 0, 1) := by decide +kernel
theorem dX12_at_1 : decode cX12_at 1 = .ok (.iconst 0, 1) := by decide +kernel
theorem dX12_at_2 : decode cX12_at 2 = .ok (.putfield 103, 3) := by decide +kernel
theorem dX12_at_5 : decode cX12_at 5 = .ok (.iload_n 1, 1) := by decide +kernel
theorem dX12_at_6 : decode cX12_at 6 = .ok (.i2l, 1) := by decide +kernel
theorem dX12_at_7 : decode cX12_at 7 = .ok (.lconst 0, 1) := by decide +kernel
theorem dX12_at_8 : decode cX12_at 8 = .ok (.aload_n 0, 1) := by decide +kernel
theorem dX12_at_9 : decode cX12_at 9 = .ok (.getfield 342, 3) := by decide +kernel
theorem dX12_at_12 : decode cX12_at 12 = .ok (.iconst 1, 1) := by decide +kernel
theorem dX12_at_13 : decode cX12_at 13 = .ok (.isub, 1) := by decide +kernel
theorem dX12_at_14 : decode cX12_at 14 = .ok (.i2l, 1) := by decide +kernel
theorem dX12_at_15 : decode cX12_at 15 = .ok (.invokestatic 141, 3) := by decide +kernel
theorem dX12_at_18 : decode cX12_at 18 = .ok (.ifCond .eq 12, 3) := by decide +kernel
theorem dX12_at_21 : decode cX12_at 21 = .ok (.aload_n 0, 1) := by decide +kernel
theorem dX12_at_22 : decode cX12_at 22 = .ok (.getfield 85, 3) := by decide +kernel
theorem dX12_at_25 : decode cX12_at 25 = .ok (.iload_n 1, 1) := by decide +kernel
theorem dX12_at_26 : decode cX12_at 26 = .ok (.baload, 1) := by decide +kernel
theorem dX12_at_27 : decode cX12_at 27 = .ok (.goto 4, 3) := by decide +kernel
theorem dX12_at_30 : decode cX12_at 30 = .ok (.iconst (-1), 1) := by decide +kernel
theorem dX12_at_31 : decode cX12_at 31 = .ok (.ireturn, 1) := by decide +kernel
theorem dX12_groups_0 : decode cX12_groups 0 = .ok (.aload_n 0, 1) := by decide +kernel
theorem dX12_groups_1 : decode cX12_groups 1 = .ok (.iconst 0, 1) := by decide +kernel
theorem dX12_groups_2 : decode cX12_groups 2 = .ok (.putfield 103, 3) := by decide +kernel
theorem dX12_groups_5 : decode cX12_groups 5 = .ok (.aload_n 0, 1) := by decide +kernel
theorem dX12_groups_6 : decode cX12_groups 6 = .ok (.iload_n 1, 1) := by decide +kernel
theorem dX12_groups_7 : decode cX12_groups 7 = .ok (.invokevirtual 316, 3) := by decide +kernel
theorem dX12_groups_10 : decode cX12_groups 10 = .ok (.ifCond .ne 5, 3) := by decide +kernel
theorem dX12_groups_13 : decode cX12_groups 13 = .ok (.iconst (-1), 1) := by decide +kernel
theorem dX12_groups_14 : decode cX12_groups 14 = .ok (.ireturn, 1) := by decide +kernel
theorem dX12_groups_15 : decode cX12_groups 15 = .ok (.aload_n 0, 1) := by decide +kernel
theorem dX12_groups_16 : decode cX12_groups 16 = .ok (.iload_n 1, 1) := by decide +kernel
theorem dX12_groups_17 : decode cX12_groups 17 = .ok (.invokevirtual 325, 3) := by decide +kernel
theorem dX12_groups_20 : decode cX12_groups 20 = .ok (.ifCond .eq 6, 3) := by decide +kernel
theorem dX12_groups_23 : decode cX12_groups 23 = .ok (.bipush (-2), 2) := by decide +kernel
theorem dX12_groups_25 : decode cX12_groups 25 = .ok (.ireturn, 1) := by decide +kernel
theorem dX12_groups_26 : decode cX12_groups 26 = .ok (.iconst 0, 1) := by decide +kernel
theorem dX12_groups_27 : decode cX12_groups 27 = .ok (.istore_n 2, 1) := by decide +kernel
theorem dX12_groups_28 : decode cX12_groups 28 = .ok (.iconst 0, 1) := by decide +kernel
theorem dX12_groups_29 : decode cX12_groups 29 = .ok (.istore_n 3, 1) := by decide +kernel
theorem dX12_groups_30 : decode cX12_groups 30 = .ok (.iload_n 3, 1) := by decide +kernel
theorem dX12_groups_31 : decode cX12_groups 31 = .ok (.aload_n 0, 1) := by decide +kernel
theorem dX12_groups_32 : decode cX12_groups 32 = .ok (.iload_n 1, 1) := by decide +kernel
theorem dX12_groups_33 : decode cX12_groups 33 = .ok (.iconst 0, 1) := by decide +kernel
theorem dX12_groups_34 : decode cX12_groups 34 = .ok (.invokevirtual 306, 3) := by decide +kernel
theorem dX12_groups_37 : decode cX12_groups 37 = .ok (.if_icmp .ge 26, 3) := by decide +kernel
theorem dX12_groups_40 : decode cX12_groups 40 = .ok (.iload_n 2, 1) := by decide +kernel
theorem dX12_groups_41 : decode cX12_groups 41 = .ok (.aload_n 0, 1) := by decide +kernel
theorem dX12_groups_42 : decode cX12_groups 42 = .ok (.iload_n 1, 1) := by decide +kernel
theorem dX12_groups_43 : decode cX12_groups 43 = .ok (.iload_n 3, 1) := by decide +kernel
theorem dX12_groups_44 : decode cX12_groups 44 = .ok (.invokevirtual 348, 3) := by decide +kernel
theorem dX12_groups_47 : decode cX12_groups 47 = .ok (.ifCond .eq 7, 3) := by decide +kernel
theorem dX12_groups_50 : decode cX12_groups 50 = .ok (.iconst 0, 1) := by decide +kernel
theorem dX12_groups_51 : decode cX12_groups 51 = .ok (.goto 4, 3) := by decide +kernel
theorem dX12_groups_54 : decode cX12_groups 54 = .ok (.iconst 1, 1) := by decide +kernel
theorem dX12_groups_55 : decode cX12_groups 55 = .ok (.iadd, 1) := by decide +kernel
theorem dX12_groups_56 : decode cX12_groups 56 = .ok (.istore_n 2, 1) := by decide +kernel
theorem dX12_groups_57 : decode cX12_groups 57 = .ok (.iinc 3 1, 3) := by decide +kernel
theorem dX12_groups_60 : decode cX12_groups 60 = .ok (.goto (-30), 3) := by decide +kernel
theorem dX12_groups_63 : decode cX12_groups 63 = .ok (.iload_n 2, 1) := by decide +kernel
theorem dX12_groups_64 : decode cX12_groups 64 = .ok (.ireturn, 1) := by decide +kernel
theorem dX12_isNet_0 : decode cX12_isNet 0 = .ok (.aload_n 0, 1) := by decide +kernel
theorem dX12_isNet_1 : decode cX12_isNet 1 = .ok (.iload_n 1, 1) := by decide +kernel
theorem dX12_isNet_2 : decode cX12_isNet 2 = .ok (.invokevirtual 316, 3) := by decide +kernel
theorem dX12_isNet_5 : decode cX12_isNet 5 = .ok (.ifCond .eq 16, 3) := by decide +kernel
theorem dX12_isNet_8 : decode cX12_isNet 8 = .ok (.aload_n 0, 1) := by decide +kernel
theorem dX12_isNet_9 : decode cX12_isNet 9 = .ok (.iload_n 1, 1) := by decide +kernel
theorem dX12_isNet_10 : decode cX12_isNet 10 = .ok (.invokevirtual 322, 3) := by decide +kernel
theorem dX12_isNet_13 : decode cX12_isNet 13 = .ok (.iconst 1, 1) := by decide +kernel
theorem dX12_isNet_14 : decode cX12_isNet 14 = .ok (.if_icmp .ne 7, 3) := by decide +kernel
theorem dX12_isNet_17 : decode cX12_isNet 17 = .ok (.iconst 1, 1) := by decide +kernel
theorem dX12_isNet_18 : decode cX12_isNet 18 = .ok (.goto 4, 3) := by decide +kernel
theorem dX12_isNet_21 : decode cX12_isNet 21 = .ok (.iconst 0, 1) := by decide +kernel
theorem dX12_isNet_22 : decode cX12_isNet 22 = .ok (.ireturn, 1) := by decide +kernel
theorem dX12_trees_0 : decode cX12_trees 0 = .ok (.aload_n 0, 1) := by decide +kernel
theorem dX12_trees_1 : decode cX12_trees 1 = .ok (.iconst 0, 1) := by decide +kernel
theorem dX12_trees_2 : decode cX12_trees 2 = .ok (.putfield 103, 3) := by decide +kernel
theorem dX12_trees_5 : decode cX12_trees 5 = .ok (.aload_n 0, 1) := by decide +kernel
theorem dX12_trees_6 : decode cX12_trees 6 = .ok (.iload_n 1, 1) := by decide +kernel
theorem dX12_trees_7 : decode cX12_trees 7 = .ok (.invokevirtual 316, 3) := by decide +kernel
theorem dX12_trees_10 : decode cX12_trees 10 = .ok (.ifCond .ne 9, 3) := by decide +kernel
theorem dX12_trees_13 : decode cX12_trees 13 = .ok (.ldc2_w 250, 3) := by decide +kernel
theorem dX12_trees_16 : decode cX12_trees 16 = .ok (.goto 23, 3) := by decide +kernel
theorem dX12_trees_19 : decode cX12_trees 19 = .ok (.aload_n 0, 1) := by decide +kernel
theorem dX12_trees_20 : decode cX12_trees 20 = .ok (.iload_n 1, 1) := by decide +kernel
theorem dX12_trees_21 : decode cX12_trees 21 = .ok (.invokevirtual 354, 3) := by decide +kernel
theorem dX12_trees_24 : decode cX12_trees 24 = .ok (.ifCond .eq 12, 3) := by decide +kernel
theorem dX12_trees_27 : decode cX12_trees 27 = .ok (.aload_n 0, 1) := by decide +kernel
theorem dX12_trees_28 : decode cX12_trees 28 = .ok (.getfield 61, 3) := by decide +kernel
theorem dX12_trees_31 : decode cX12_trees 31 = .ok (.iload_n 1, 1) := by decide +kernel
theorem dX12_trees_32 : decode cX12_trees 32 = .ok (.laload, 1) := by decide +kernel
theorem dX12_trees_33 : decode cX12_trees 33 = .ok (.goto 6, 3) := by decide +kernel
theorem dX12_trees_36 : decode cX12_trees 36 = .ok (.ldc2_w 340, 3) := by decide +kernel
theorem dX12_trees_39 : decode cX12_trees 39 = .ok (.lreturn, 1) := by decide +kernel
theorem dX12_current_0 : decode cX12_current 0 = .ok (.aload_n 0, 1) := by decide +kernel
theorem dX12_current_1 : decode cX12_current 1 = .ok (.iconst 0, 1) := by decide +kernel
theorem dX12_current_2 : decode cX12_current 2 = .ok (.putfield 103, 3) := by decide +kernel
theorem dX12_current_5 : decode cX12_current 5 = .ok (.aload_n 0, 1) := by decide +kernel
theorem dX12_current_6 : decode cX12_current 6 = .ok (.iload_n 1, 1) := by decide +kernel
theorem dX12_current_7 : decode cX12_current 7 = .ok (.invokevirtual 354, 3) := by decide +kernel
theorem dX12_current_10 : decode cX12_current 10 = .ok (.ifCond .eq 47, 3) := by decide +kernel
theorem dX12_current_13 : decode cX12_current 13 = .ok (.aload_n 0, 1) := by decide +kernel
theorem dX12_current_14 : decode cX12_current 14 = .ok (.getfield 61, 3) := by decide +kernel
theorem dX12_current_17 : decode cX12_current 17 = .ok (.iload_n 1, 1) := by decide +kernel
theorem dX12_current_18 : decode cX12_current 18 = .ok (.laload, 1) := by decide +kernel
theorem dX12_current_19 : decode cX12_current 19 = .ok (.lconst 0, 1) := by decide +kernel
theorem dX12_current_20 : decode cX12_current 20 = .ok (.lcmp, 1) := by decide +kernel
theorem dX12_current_21 : decode cX12_current 21 = .ok (.ifCond .le 36, 3) := by decide +kernel
theorem dX12_current_24 : decode cX12_current 24 = .ok (.iload_n 2, 1) := by decide +kernel
theorem dX12_current_25 : decode cX12_current 25 = .ok (.i2l, 1) := by decide +kernel
theorem dX12_current_26 : decode cX12_current 26 = .ok (.lconst 0, 1) := by decide +kernel
theorem dX12_current_27 : decode cX12_current 27 = .ok (.aload_n 0, 1) := by decide +kernel
theorem dX12_current_28 : decode cX12_current 28 = .ok (.getfield 49, 3) := by decide +kernel
theorem dX12_current_31 : decode cX12_current 31 = .ok (.iload_n 1, 1) := by decide +kernel
theorem dX12_current_32 : decode cX12_current 32 = .ok (.iaload, 1) := by decide +kernel
theorem dX12_current_33 : decode cX12_current 33 = .ok (.iconst 1, 1) := by decide +kernel
theorem dX12_current_34 : decode cX12_current 34 = .ok (.isub, 1) := by decide +kernel
theorem dX12_current_35 : decode cX12_current 35 = .ok (.i2l, 1) := by decide +kernel
theorem dX12_current_36 : decode cX12_current 36 = .ok (.invokestatic 141, 3) := by decide +kernel
theorem dX12_current_39 : decode cX12_current 39 = .ok (.ifCond .eq 18, 3) := by decide +kernel
theorem dX12_current_42 : decode cX12_current 42 = .ok (.aload_n 0, 1) := by decide +kernel
theorem dX12_current_43 : decode cX12_current 43 = .ok (.getfield 67, 3) := by decide +kernel
theorem dX12_current_46 : decode cX12_current 46 = .ok (.bipush 14, 2) := by decide +kernel
theorem dX12_current_48 : decode cX12_current 48 = .ok (.iload_n 1, 1) := by decide +kernel
theorem dX12_current_49 : decode cX12_current 49 = .ok (.imul, 1) := by decide +kernel
theorem dX12_current_50 : decode cX12_current 50 = .ok (.iload_n 2, 1) := by decide +kernel
theorem dX12_current_51 : decode cX12_current 51 = .ok (.iadd, 1) := by decide +kernel
theorem dX12_current_52 : decode cX12_current 52 = .ok (.laload, 1) := by decide +kernel
theorem dX12_current_53 : decode cX12_current 53 = .ok (.l2i, 1) := by decide +kernel
theorem dX12_current_54 : decode cX12_current 54 = .ok (.goto 6, 3) := by decide +kernel
theorem dX12_current_57 : decode cX12_current 57 = .ok (.ldc_w 359, 3) := by decide +kernel
theorem dX12_current_60 : decode cX12_current 60 = .ok (.ireturn, 1) := by decide +kernel
theorem dX12_level_0 : decode cX12_level 0 = .ok (.aload_n 0, 1) := by decide +kernel
theorem dX12_level_1 : decode cX12_level 1 = .ok (.iconst 0, 1) := by decide +kernel
theorem dX12_level_2 : decode cX12_level 2 = .ok (.putfield 103, 3) := by decide +kernel
theorem dX12_level_5 : decode cX12_level 5 = .ok (.aload_n 0, 1) := by decide +kernel
theorem dX12_level_6 : decode cX12_level 6 = .ok (.iload_n 1, 1) := by decide +kernel
theorem dX12_level_7 : decode cX12_level 7 = .ok (.invokevirtual 354, 3) := by decide +kernel
theorem dX12_level_10 : decode cX12_level 10 = .ok (.ifCond .eq 47, 3) := by decide +kernel
theorem dX12_level_13 : decode cX12_level 13 = .ok (.aload_n 0, 1) := by decide +kernel
theorem dX12_level_14 : decode cX12_level 14 = .ok (.getfield 61, 3) := by decide +kernel
theorem dX12_level_17 : decode cX12_level 17 = .ok (.iload_n 1, 1) := by decide +kernel
theorem dX12_level_18 : decode cX12_level 18 = .ok (.laload, 1) := by decide +kernel
theorem dX12_level_19 : decode cX12_level 19 = .ok (.lconst 0, 1) := by decide +kernel
theorem dX12_level_20 : decode cX12_level 20 = .ok (.lcmp, 1) := by decide +kernel
theorem dX12_level_21 : decode cX12_level 21 = .ok (.ifCond .le 36, 3) := by decide +kernel
theorem dX12_level_24 : decode cX12_level 24 = .ok (.iload_n 2, 1) := by decide +kernel
theorem dX12_level_25 : decode cX12_level 25 = .ok (.i2l, 1) := by decide +kernel
theorem dX12_level_26 : decode cX12_level 26 = .ok (.lconst 0, 1) := by decide +kernel
theorem dX12_level_27 : decode cX12_level 27 = .ok (.aload_n 0, 1) := by decide +kernel
theorem dX12_level_28 : decode cX12_level 28 = .ok (.getfield 46, 3) := by decide +kernel
theorem dX12_level_31 : decode cX12_level 31 = .ok (.iload_n 1, 1) := by decide +kernel
theorem dX12_level_32 : decode cX12_level 32 = .ok (.iaload, 1) := by decide +kernel
theorem dX12_level_33 : decode cX12_level 33 = .ok (.iconst 1, 1) := by decide +kernel
theorem dX12_level_34 : decode cX12_level 34 = .ok (.isub, 1) := by decide +kernel
theorem dX12_level_35 : decode cX12_level 35 = .ok (.i2l, 1) := by decide +kernel
theorem dX12_level_36 : decode cX12_level 36 = .ok (.invokestatic 141, 3) := by decide +kernel
theorem dX12_level_39 : decode cX12_level 39 = .ok (.ifCond .eq 18, 3) := by decide +kernel
theorem dX12_level_42 : decode cX12_level 42 = .ok (.aload_n 0, 1) := by decide +kernel
theorem dX12_level_43 : decode cX12_level 43 = .ok (.getfield 64, 3) := by decide +kernel
theorem dX12_level_46 : decode cX12_level 46 = .ok (.bipush 9, 2) := by decide +kernel
theorem dX12_level_48 : decode cX12_level 48 = .ok (.iload_n 1, 1) := by decide +kernel
theorem dX12_level_49 : decode cX12_level 49 = .ok (.imul, 1) := by decide +kernel
theorem dX12_level_50 : decode cX12_level 50 = .ok (.iload_n 2, 1) := by decide +kernel
theorem dX12_level_51 : decode cX12_level 51 = .ok (.iadd, 1) := by decide +kernel
theorem dX12_level_52 : decode cX12_level 52 = .ok (.laload, 1) := by decide +kernel
theorem dX12_level_53 : decode cX12_level 53 = .ok (.l2i, 1) := by decide +kernel
theorem dX12_level_54 : decode cX12_level 54 = .ok (.goto 6, 3) := by decide +kernel
theorem dX12_level_57 : decode cX12_level 57 = .ok (.ldc_w 359, 3) := by decide +kernel
theorem dX12_level_60 : decode cX12_level 60 = .ok (.ireturn, 1) := by decide +kernel
theorem dX12_layings_0 : decode cX12_layings 0 = .ok (.aload_n 0, 1) := by decide +kernel
theorem dX12_layings_1 : decode cX12_layings 1 = .ok (.iconst 0, 1) := by decide +kernel
theorem dX12_layings_2 : decode cX12_layings 2 = .ok (.putfield 103, 3) := by decide +kernel
theorem dX12_layings_5 : decode cX12_layings 5 = .ok (.aload_n 0, 1) := by decide +kernel
theorem dX12_layings_6 : decode cX12_layings 6 = .ok (.iload_n 1, 1) := by decide +kernel
theorem dX12_layings_7 : decode cX12_layings 7 = .ok (.invokevirtual 316, 3) := by decide +kernel
theorem dX12_layings_10 : decode cX12_layings 10 = .ok (.ifCond .ne 7, 3) := by decide +kernel
theorem dX12_layings_13 : decode cX12_layings 13 = .ok (.iconst (-1), 1) := by decide +kernel
theorem dX12_layings_14 : decode cX12_layings 14 = .ok (.goto 22, 3) := by decide +kernel
theorem dX12_layings_17 : decode cX12_layings 17 = .ok (.aload_n 0, 1) := by decide +kernel
theorem dX12_layings_18 : decode cX12_layings 18 = .ok (.iload_n 1, 1) := by decide +kernel
theorem dX12_layings_19 : decode cX12_layings 19 = .ok (.invokevirtual 354, 3) := by decide +kernel
theorem dX12_layings_22 : decode cX12_layings 22 = .ok (.ifCond .eq 12, 3) := by decide +kernel
theorem dX12_layings_25 : decode cX12_layings 25 = .ok (.aload_n 0, 1) := by decide +kernel
theorem dX12_layings_26 : decode cX12_layings 26 = .ok (.getfield 58, 3) := by decide +kernel
theorem dX12_layings_29 : decode cX12_layings 29 = .ok (.iload_n 1, 1) := by decide +kernel
theorem dX12_layings_30 : decode cX12_layings 30 = .ok (.iaload, 1) := by decide +kernel
theorem dX12_layings_31 : decode cX12_layings 31 = .ok (.goto 5, 3) := by decide +kernel
theorem dX12_layings_34 : decode cX12_layings 34 = .ok (.bipush (-2), 2) := by decide +kernel
theorem dX12_layings_36 : decode cX12_layings 36 = .ok (.ireturn, 1) := by decide +kernel
theorem dX12_drops_0 : decode cX12_drops 0 = .ok (.iload_n 1, 1) := by decide +kernel
theorem dX12_drops_1 : decode cX12_drops 1 = .ok (.istore_n 2, 1) := by decide +kernel
theorem dX12_drops_2 : decode cX12_drops 2 = .ok (.iload_n 2, 1) := by decide +kernel
theorem dX12_drops_3 : decode cX12_drops 3 = .ok (.iconst 1, 1) := by decide +kernel
theorem dX12_drops_4 : decode cX12_drops 4 = .ok (.iadd, 1) := by decide +kernel
theorem dX12_drops_5 : decode cX12_drops 5 = .ok (.aload_n 0, 1) := by decide +kernel
theorem dX12_drops_6 : decode cX12_drops 6 = .ok (.getfield 360, 3) := by decide +kernel
theorem dX12_drops_9 : decode cX12_drops 9 = .ok (.if_icmp .ge 65, 3) := by decide +kernel
theorem dX12_drops_12 : decode cX12_drops 12 = .ok (.aload_n 0, 1) := by decide +kernel
theorem dX12_drops_13 : decode cX12_drops 13 = .ok (.getfield 88, 3) := by decide +kernel
theorem dX12_drops_16 : decode cX12_drops 16 = .ok (.iload_n 2, 1) := by decide +kernel
theorem dX12_drops_17 : decode cX12_drops 17 = .ok (.aload_n 0, 1) := by decide +kernel
theorem dX12_drops_18 : decode cX12_drops 18 = .ok (.getfield 88, 3) := by decide +kernel
theorem dX12_drops_21 : decode cX12_drops 21 = .ok (.iload_n 2, 1) := by decide +kernel
theorem dX12_drops_22 : decode cX12_drops 22 = .ok (.iconst 1, 1) := by decide +kernel
theorem dX12_drops_23 : decode cX12_drops 23 = .ok (.iadd, 1) := by decide +kernel
theorem dX12_drops_24 : decode cX12_drops 24 = .ok (.iaload, 1) := by decide +kernel
theorem dX12_drops_25 : decode cX12_drops 25 = .ok (.iastore, 1) := by decide +kernel
theorem dX12_drops_26 : decode cX12_drops 26 = .ok (.aload_n 0, 1) := by decide +kernel
theorem dX12_drops_27 : decode cX12_drops 27 = .ok (.getfield 91, 3) := by decide +kernel
theorem dX12_drops_30 : decode cX12_drops 30 = .ok (.iload_n 2, 1) := by decide +kernel
theorem dX12_drops_31 : decode cX12_drops 31 = .ok (.aload_n 0, 1) := by decide +kernel
theorem dX12_drops_32 : decode cX12_drops 32 = .ok (.getfield 91, 3) := by decide +kernel
theorem dX12_drops_35 : decode cX12_drops 35 = .ok (.iload_n 2, 1) := by decide +kernel
theorem dX12_drops_36 : decode cX12_drops 36 = .ok (.iconst 1, 1) := by decide +kernel
theorem dX12_drops_37 : decode cX12_drops 37 = .ok (.iadd, 1) := by decide +kernel
theorem dX12_drops_38 : decode cX12_drops 38 = .ok (.iaload, 1) := by decide +kernel
theorem dX12_drops_39 : decode cX12_drops 39 = .ok (.iastore, 1) := by decide +kernel
theorem dX12_drops_40 : decode cX12_drops 40 = .ok (.aload_n 0, 1) := by decide +kernel
theorem dX12_drops_41 : decode cX12_drops 41 = .ok (.getfield 94, 3) := by decide +kernel
theorem dX12_drops_44 : decode cX12_drops 44 = .ok (.iload_n 2, 1) := by decide +kernel
theorem dX12_drops_45 : decode cX12_drops 45 = .ok (.aload_n 0, 1) := by decide +kernel
theorem dX12_drops_46 : decode cX12_drops 46 = .ok (.getfield 94, 3) := by decide +kernel
theorem dX12_drops_49 : decode cX12_drops 49 = .ok (.iload_n 2, 1) := by decide +kernel
theorem dX12_drops_50 : decode cX12_drops 50 = .ok (.iconst 1, 1) := by decide +kernel
theorem dX12_drops_51 : decode cX12_drops 51 = .ok (.iadd, 1) := by decide +kernel
theorem dX12_drops_52 : decode cX12_drops 52 = .ok (.iaload, 1) := by decide +kernel
theorem dX12_drops_53 : decode cX12_drops 53 = .ok (.iastore, 1) := by decide +kernel
theorem dX12_drops_54 : decode cX12_drops 54 = .ok (.aload_n 0, 1) := by decide +kernel
theorem dX12_drops_55 : decode cX12_drops 55 = .ok (.getfield 97, 3) := by decide +kernel
theorem dX12_drops_58 : decode cX12_drops 58 = .ok (.iload_n 2, 1) := by decide +kernel
theorem dX12_drops_59 : decode cX12_drops 59 = .ok (.aload_n 0, 1) := by decide +kernel
theorem dX12_drops_60 : decode cX12_drops 60 = .ok (.getfield 97, 3) := by decide +kernel
theorem dX12_drops_63 : decode cX12_drops 63 = .ok (.iload_n 2, 1) := by decide +kernel
theorem dX12_drops_64 : decode cX12_drops 64 = .ok (.iconst 1, 1) := by decide +kernel
theorem dX12_drops_65 : decode cX12_drops 65 = .ok (.iadd, 1) := by decide +kernel
theorem dX12_drops_66 : decode cX12_drops 66 = .ok (.iaload, 1) := by decide +kernel
theorem dX12_drops_67 : decode cX12_drops 67 = .ok (.iastore, 1) := by decide +kernel
theorem dX12_drops_68 : decode cX12_drops 68 = .ok (.iinc 2 1, 3) := by decide +kernel
theorem dX12_drops_71 : decode cX12_drops 71 = .ok (.goto (-69), 3) := by decide +kernel
theorem dX12_drops_74 : decode cX12_drops 74 = .ok (.aload_n 0, 1) := by decide +kernel
theorem dX12_drops_75 : decode cX12_drops 75 = .ok (.dup, 1) := by decide +kernel
theorem dX12_drops_76 : decode cX12_drops 76 = .ok (.getfield 360, 3) := by decide +kernel
theorem dX12_drops_79 : decode cX12_drops 79 = .ok (.iconst 1, 1) := by decide +kernel
theorem dX12_drops_80 : decode cX12_drops 80 = .ok (.isub, 1) := by decide +kernel
theorem dX12_drops_81 : decode cX12_drops 81 = .ok (.putfield 360, 3) := by decide +kernel
theorem dX12_drops_84 : decode cX12_drops 84 = .ok (.return_, 1) := by decide +kernel
theorem dX12_comes_0 : decode cX12_comes 0 = .ok (.iload_n 2, 1) := by decide +kernel
theorem dX12_comes_1 : decode cX12_comes 1 = .ok (.istore 5, 2) := by decide +kernel
theorem dX12_comes_3 : decode cX12_comes 3 = .ok (.iload_n 3, 1) := by decide +kernel
theorem dX12_comes_4 : decode cX12_comes 4 = .ok (.istore 6, 2) := by decide +kernel
theorem dX12_comes_6 : decode cX12_comes 6 = .ok (.iload 4, 2) := by decide +kernel
theorem dX12_comes_8 : decode cX12_comes 8 = .ok (.istore 7, 2) := by decide +kernel
theorem dX12_comes_10 : decode cX12_comes 10 = .ok (.iconst 0, 1) := by decide +kernel
theorem dX12_comes_11 : decode cX12_comes 11 = .ok (.istore 8, 2) := by decide +kernel
theorem dX12_comes_13 : decode cX12_comes 13 = .ok (.iload 8, 2) := by decide +kernel
theorem dX12_comes_15 : decode cX12_comes 15 = .ok (.aload_n 0, 1) := by decide +kernel
theorem dX12_comes_16 : decode cX12_comes 16 = .ok (.getfield 360, 3) := by decide +kernel
theorem dX12_comes_19 : decode cX12_comes 19 = .ok (.if_icmp .ge 120, 3) := by decide +kernel
theorem dX12_comes_22 : decode cX12_comes 22 = .ok (.aload_n 0, 1) := by decide +kernel
theorem dX12_comes_23 : decode cX12_comes 23 = .ok (.getfield 88, 3) := by decide +kernel
theorem dX12_comes_26 : decode cX12_comes 26 = .ok (.iload 8, 2) := by decide +kernel
theorem dX12_comes_28 : decode cX12_comes 28 = .ok (.iaload, 1) := by decide +kernel
theorem dX12_comes_29 : decode cX12_comes 29 = .ok (.iload_n 1, 1) := by decide +kernel
theorem dX12_comes_30 : decode cX12_comes 30 = .ok (.if_icmp .ne 27, 3) := by decide +kernel
theorem dX12_comes_33 : decode cX12_comes 33 = .ok (.aload_n 0, 1) := by decide +kernel
theorem dX12_comes_34 : decode cX12_comes 34 = .ok (.getfield 94, 3) := by decide +kernel
theorem dX12_comes_37 : decode cX12_comes 37 = .ok (.iload 8, 2) := by decide +kernel
theorem dX12_comes_39 : decode cX12_comes 39 = .ok (.iaload, 1) := by decide +kernel
theorem dX12_comes_40 : decode cX12_comes 40 = .ok (.iload 5, 2) := by decide +kernel
theorem dX12_comes_42 : decode cX12_comes 42 = .ok (.if_icmp .lt 15, 3) := by decide +kernel
theorem dX12_comes_45 : decode cX12_comes 45 = .ok (.aload_n 0, 1) := by decide +kernel
theorem dX12_comes_46 : decode cX12_comes 46 = .ok (.getfield 91, 3) := by decide +kernel
theorem dX12_comes_49 : decode cX12_comes 49 = .ok (.iload 8, 2) := by decide +kernel
theorem dX12_comes_51 : decode cX12_comes 51 = .ok (.iaload, 1) := by decide +kernel
theorem dX12_comes_52 : decode cX12_comes 52 = .ok (.iload 6, 2) := by decide +kernel
theorem dX12_comes_54 : decode cX12_comes 54 = .ok (.if_icmp .le 9, 3) := by decide +kernel
theorem dX12_comes_57 : decode cX12_comes 57 = .ok (.iinc 8 1, 3) := by decide +kernel
theorem dX12_comes_60 : decode cX12_comes 60 = .ok (.goto (-47), 3) := by decide +kernel
theorem dX12_comes_63 : decode cX12_comes 63 = .ok (.aload_n 0, 1) := by decide +kernel
theorem dX12_comes_64 : decode cX12_comes 64 = .ok (.getfield 91, 3) := by decide +kernel
theorem dX12_comes_67 : decode cX12_comes 67 = .ok (.iload 8, 2) := by decide +kernel
theorem dX12_comes_69 : decode cX12_comes 69 = .ok (.iaload, 1) := by decide +kernel
theorem dX12_comes_70 : decode cX12_comes 70 = .ok (.iload 5, 2) := by decide +kernel
theorem dX12_comes_72 : decode cX12_comes 72 = .ok (.if_icmp .ge 13, 3) := by decide +kernel
theorem dX12_comes_75 : decode cX12_comes 75 = .ok (.aload_n 0, 1) := by decide +kernel
theorem dX12_comes_76 : decode cX12_comes 76 = .ok (.getfield 91, 3) := by decide +kernel
theorem dX12_comes_79 : decode cX12_comes 79 = .ok (.iload 8, 2) := by decide +kernel
theorem dX12_comes_81 : decode cX12_comes 81 = .ok (.iaload, 1) := by decide +kernel
theorem dX12_comes_82 : decode cX12_comes 82 = .ok (.goto 5, 3) := by decide +kernel
theorem dX12_comes_85 : decode cX12_comes 85 = .ok (.iload 5, 2) := by decide +kernel
theorem dX12_comes_87 : decode cX12_comes 87 = .ok (.istore 5, 2) := by decide +kernel
theorem dX12_comes_89 : decode cX12_comes 89 = .ok (.aload_n 0, 1) := by decide +kernel
theorem dX12_comes_90 : decode cX12_comes 90 = .ok (.getfield 94, 3) := by decide +kernel
theorem dX12_comes_93 : decode cX12_comes 93 = .ok (.iload 8, 2) := by decide +kernel
theorem dX12_comes_95 : decode cX12_comes 95 = .ok (.iaload, 1) := by decide +kernel
theorem dX12_comes_96 : decode cX12_comes 96 = .ok (.iload 6, 2) := by decide +kernel
theorem dX12_comes_98 : decode cX12_comes 98 = .ok (.if_icmp .le 13, 3) := by decide +kernel
theorem dX12_comes_101 : decode cX12_comes 101 = .ok (.aload_n 0, 1) := by decide +kernel
theorem dX12_comes_102 : decode cX12_comes 102 = .ok (.getfield 94, 3) := by decide +kernel
theorem dX12_comes_105 : decode cX12_comes 105 = .ok (.iload 8, 2) := by decide +kernel
theorem dX12_comes_107 : decode cX12_comes 107 = .ok (.iaload, 1) := by decide +kernel
theorem dX12_comes_108 : decode cX12_comes 108 = .ok (.goto 5, 3) := by decide +kernel
theorem dX12_comes_111 : decode cX12_comes 111 = .ok (.iload 6, 2) := by decide +kernel
theorem dX12_comes_113 : decode cX12_comes 113 = .ok (.istore 6, 2) := by decide +kernel
theorem dX12_comes_115 : decode cX12_comes 115 = .ok (.iload 7, 2) := by decide +kernel
theorem dX12_comes_117 : decode cX12_comes 117 = .ok (.aload_n 0, 1) := by decide +kernel
theorem dX12_comes_118 : decode cX12_comes 118 = .ok (.getfield 97, 3) := by decide +kernel
theorem dX12_comes_121 : decode cX12_comes 121 = .ok (.iload 8, 2) := by decide +kernel
theorem dX12_comes_123 : decode cX12_comes 123 = .ok (.iaload, 1) := by decide +kernel
theorem dX12_comes_124 : decode cX12_comes 124 = .ok (.iadd, 1) := by decide +kernel
theorem dX12_comes_125 : decode cX12_comes 125 = .ok (.istore 7, 2) := by decide +kernel
theorem dX12_comes_127 : decode cX12_comes 127 = .ok (.aload_n 0, 1) := by decide +kernel
theorem dX12_comes_128 : decode cX12_comes 128 = .ok (.iload 8, 2) := by decide +kernel
theorem dX12_comes_130 : decode cX12_comes 130 = .ok (.invokevirtual 363, 3) := by decide +kernel
theorem dX12_comes_133 : decode cX12_comes 133 = .ok (.iconst 0, 1) := by decide +kernel
theorem dX12_comes_134 : decode cX12_comes 134 = .ok (.istore 8, 2) := by decide +kernel
theorem dX12_comes_136 : decode cX12_comes 136 = .ok (.goto (-123), 3) := by decide +kernel
theorem dX12_comes_139 : decode cX12_comes 139 = .ok (.aload_n 0, 1) := by decide +kernel
theorem dX12_comes_140 : decode cX12_comes 140 = .ok (.getfield 360, 3) := by decide +kernel
theorem dX12_comes_143 : decode cX12_comes 143 = .ok (.istore 9, 2) := by decide +kernel
theorem dX12_comes_145 : decode cX12_comes 145 = .ok (.iload 9, 2) := by decide +kernel
theorem dX12_comes_147 : decode cX12_comes 147 = .ok (.ifCond .le 113, 3) := by decide +kernel
theorem dX12_comes_150 : decode cX12_comes 150 = .ok (.aload_n 0, 1) := by decide +kernel
theorem dX12_comes_151 : decode cX12_comes 151 = .ok (.getfield 88, 3) := by decide +kernel
theorem dX12_comes_154 : decode cX12_comes 154 = .ok (.iload 9, 2) := by decide +kernel
theorem dX12_comes_156 : decode cX12_comes 156 = .ok (.iconst 1, 1) := by decide +kernel
theorem dX12_comes_157 : decode cX12_comes 157 = .ok (.isub, 1) := by decide +kernel
theorem dX12_comes_158 : decode cX12_comes 158 = .ok (.iaload, 1) := by decide +kernel
theorem dX12_comes_159 : decode cX12_comes 159 = .ok (.iload_n 1, 1) := by decide +kernel
theorem dX12_comes_160 : decode cX12_comes 160 = .ok (.if_icmp .gt 30, 3) := by decide +kernel
theorem dX12_comes_163 : decode cX12_comes 163 = .ok (.aload_n 0, 1) := by decide +kernel
theorem dX12_comes_164 : decode cX12_comes 164 = .ok (.getfield 88, 3) := by decide +kernel
theorem dX12_comes_167 : decode cX12_comes 167 = .ok (.iload 9, 2) := by decide +kernel
theorem dX12_comes_169 : decode cX12_comes 169 = .ok (.iconst 1, 1) := by decide +kernel
theorem dX12_comes_170 : decode cX12_comes 170 = .ok (.isub, 1) := by decide +kernel
theorem dX12_comes_171 : decode cX12_comes 171 = .ok (.iaload, 1) := by decide +kernel
theorem dX12_comes_172 : decode cX12_comes 172 = .ok (.iload_n 1, 1) := by decide +kernel
theorem dX12_comes_173 : decode cX12_comes 173 = .ok (.if_icmp .ne 87, 3) := by decide +kernel
theorem dX12_comes_176 : decode cX12_comes 176 = .ok (.aload_n 0, 1) := by decide +kernel
theorem dX12_comes_177 : decode cX12_comes 177 = .ok (.getfield 91, 3) := by decide +kernel
theorem dX12_comes_180 : decode cX12_comes 180 = .ok (.iload 9, 2) := by decide +kernel
theorem dX12_comes_182 : decode cX12_comes 182 = .ok (.iconst 1, 1) := by decide +kernel
theorem dX12_comes_183 : decode cX12_comes 183 = .ok (.isub, 1) := by decide +kernel
theorem dX12_comes_184 : decode cX12_comes 184 = .ok (.iaload, 1) := by decide +kernel
theorem dX12_comes_185 : decode cX12_comes 185 = .ok (.iload 5, 2) := by decide +kernel
theorem dX12_comes_187 : decode cX12_comes 187 = .ok (.if_icmp .le 73, 3) := by decide +kernel
theorem dX12_comes_190 : decode cX12_comes 190 = .ok (.aload_n 0, 1) := by decide +kernel
theorem dX12_comes_191 : decode cX12_comes 191 = .ok (.getfield 88, 3) := by decide +kernel
theorem dX12_comes_194 : decode cX12_comes 194 = .ok (.iload 9, 2) := by decide +kernel
theorem dX12_comes_196 : decode cX12_comes 196 = .ok (.aload_n 0, 1) := by decide +kernel
theorem dX12_comes_197 : decode cX12_comes 197 = .ok (.getfield 88, 3) := by decide +kernel
theorem dX12_comes_200 : decode cX12_comes 200 = .ok (.iload 9, 2) := by decide +kernel
theorem dX12_comes_202 : decode cX12_comes 202 = .ok (.iconst 1, 1) := by decide +kernel
theorem dX12_comes_203 : decode cX12_comes 203 = .ok (.isub, 1) := by decide +kernel
theorem dX12_comes_204 : decode cX12_comes 204 = .ok (.iaload, 1) := by decide +kernel
theorem dX12_comes_205 : decode cX12_comes 205 = .ok (.iastore, 1) := by decide +kernel
theorem dX12_comes_206 : decode cX12_comes 206 = .ok (.aload_n 0, 1) := by decide +kernel
theorem dX12_comes_207 : decode cX12_comes 207 = .ok (.getfield 91, 3) := by decide +kernel
theorem dX12_comes_210 : decode cX12_comes 210 = .ok (.iload 9, 2) := by decide +kernel
theorem dX12_comes_212 : decode cX12_comes 212 = .ok (.aload_n 0, 1) := by decide +kernel
theorem dX12_comes_213 : decode cX12_comes 213 = .ok (.getfield 91, 3) := by decide +kernel
theorem dX12_comes_216 : decode cX12_comes 216 = .ok (.iload 9, 2) := by decide +kernel
theorem dX12_comes_218 : decode cX12_comes 218 = .ok (.iconst 1, 1) := by decide +kernel
theorem dX12_comes_219 : decode cX12_comes 219 = .ok (.isub, 1) := by decide +kernel
theorem dX12_comes_220 : decode cX12_comes 220 = .ok (.iaload, 1) := by decide +kernel
theorem dX12_comes_221 : decode cX12_comes 221 = .ok (.iastore, 1) := by decide +kernel
theorem dX12_comes_222 : decode cX12_comes 222 = .ok (.aload_n 0, 1) := by decide +kernel
theorem dX12_comes_223 : decode cX12_comes 223 = .ok (.getfield 94, 3) := by decide +kernel
theorem dX12_comes_226 : decode cX12_comes 226 = .ok (.iload 9, 2) := by decide +kernel
theorem dX12_comes_228 : decode cX12_comes 228 = .ok (.aload_n 0, 1) := by decide +kernel
theorem dX12_comes_229 : decode cX12_comes 229 = .ok (.getfield 94, 3) := by decide +kernel
theorem dX12_comes_232 : decode cX12_comes 232 = .ok (.iload 9, 2) := by decide +kernel
theorem dX12_comes_234 : decode cX12_comes 234 = .ok (.iconst 1, 1) := by decide +kernel
theorem dX12_comes_235 : decode cX12_comes 235 = .ok (.isub, 1) := by decide +kernel
theorem dX12_comes_236 : decode cX12_comes 236 = .ok (.iaload, 1) := by decide +kernel
theorem dX12_comes_237 : decode cX12_comes 237 = .ok (.iastore, 1) := by decide +kernel
theorem dX12_comes_238 : decode cX12_comes 238 = .ok (.aload_n 0, 1) := by decide +kernel
theorem dX12_comes_239 : decode cX12_comes 239 = .ok (.getfield 97, 3) := by decide +kernel
theorem dX12_comes_242 : decode cX12_comes 242 = .ok (.iload 9, 2) := by decide +kernel
theorem dX12_comes_244 : decode cX12_comes 244 = .ok (.aload_n 0, 1) := by decide +kernel
theorem dX12_comes_245 : decode cX12_comes 245 = .ok (.getfield 97, 3) := by decide +kernel
theorem dX12_comes_248 : decode cX12_comes 248 = .ok (.iload 9, 2) := by decide +kernel
theorem dX12_comes_250 : decode cX12_comes 250 = .ok (.iconst 1, 1) := by decide +kernel
theorem dX12_comes_251 : decode cX12_comes 251 = .ok (.isub, 1) := by decide +kernel
theorem dX12_comes_252 : decode cX12_comes 252 = .ok (.iaload, 1) := by decide +kernel
theorem dX12_comes_253 : decode cX12_comes 253 = .ok (.iastore, 1) := by decide +kernel
theorem dX12_comes_254 : decode cX12_comes 254 = .ok (.iinc 9 (-1), 3) := by decide +kernel
theorem dX12_comes_257 : decode cX12_comes 257 = .ok (.goto (-112), 3) := by decide +kernel
theorem dX12_comes_260 : decode cX12_comes 260 = .ok (.aload_n 0, 1) := by decide +kernel
theorem dX12_comes_261 : decode cX12_comes 261 = .ok (.getfield 88, 3) := by decide +kernel
theorem dX12_comes_264 : decode cX12_comes 264 = .ok (.iload 9, 2) := by decide +kernel
theorem dX12_comes_266 : decode cX12_comes 266 = .ok (.iload_n 1, 1) := by decide +kernel
theorem dX12_comes_267 : decode cX12_comes 267 = .ok (.iastore, 1) := by decide +kernel
theorem dX12_comes_268 : decode cX12_comes 268 = .ok (.aload_n 0, 1) := by decide +kernel
theorem dX12_comes_269 : decode cX12_comes 269 = .ok (.getfield 91, 3) := by decide +kernel
theorem dX12_comes_272 : decode cX12_comes 272 = .ok (.iload 9, 2) := by decide +kernel
theorem dX12_comes_274 : decode cX12_comes 274 = .ok (.iload 5, 2) := by decide +kernel
theorem dX12_comes_276 : decode cX12_comes 276 = .ok (.iastore, 1) := by decide +kernel
theorem dX12_comes_277 : decode cX12_comes 277 = .ok (.aload_n 0, 1) := by decide +kernel
theorem dX12_comes_278 : decode cX12_comes 278 = .ok (.getfield 94, 3) := by decide +kernel
theorem dX12_comes_281 : decode cX12_comes 281 = .ok (.iload 9, 2) := by decide +kernel
theorem dX12_comes_283 : decode cX12_comes 283 = .ok (.iload 6, 2) := by decide +kernel
theorem dX12_comes_285 : decode cX12_comes 285 = .ok (.iastore, 1) := by decide +kernel
theorem dX12_comes_286 : decode cX12_comes 286 = .ok (.aload_n 0, 1) := by decide +kernel
theorem dX12_comes_287 : decode cX12_comes 287 = .ok (.getfield 97, 3) := by decide +kernel
theorem dX12_comes_290 : decode cX12_comes 290 = .ok (.iload 9, 2) := by decide +kernel
theorem dX12_comes_292 : decode cX12_comes 292 = .ok (.iload 7, 2) := by decide +kernel
theorem dX12_comes_294 : decode cX12_comes 294 = .ok (.iastore, 1) := by decide +kernel
theorem dX12_comes_295 : decode cX12_comes 295 = .ok (.aload_n 0, 1) := by decide +kernel
theorem dX12_comes_296 : decode cX12_comes 296 = .ok (.dup, 1) := by decide +kernel
theorem dX12_comes_297 : decode cX12_comes 297 = .ok (.getfield 360, 3) := by decide +kernel
theorem dX12_comes_300 : decode cX12_comes 300 = .ok (.iconst 1, 1) := by decide +kernel
theorem dX12_comes_301 : decode cX12_comes 301 = .ok (.iadd, 1) := by decide +kernel
theorem dX12_comes_302 : decode cX12_comes 302 = .ok (.putfield 360, 3) := by decide +kernel
theorem dX12_comes_305 : decode cX12_comes 305 = .ok (.return_, 1) := by decide +kernel
theorem dX12_laysLines_0 : decode cX12_laysLines 0 = .ok (.aload_n 0, 1) := by decide +kernel
theorem dX12_laysLines_1 : decode cX12_laysLines 1 = .ok (.iconst 0, 1) := by decide +kernel
theorem dX12_laysLines_2 : decode cX12_laysLines 2 = .ok (.putfield 360, 3) := by decide +kernel
theorem dX12_laysLines_5 : decode cX12_laysLines 5 = .ok (.iconst 0, 1) := by decide +kernel
theorem dX12_laysLines_6 : decode cX12_laysLines 6 = .ok (.istore_n 2, 1) := by decide +kernel
theorem dX12_laysLines_7 : decode cX12_laysLines 7 = .ok (.iload_n 2, 1) := by decide +kernel
theorem dX12_laysLines_8 : decode cX12_laysLines 8 = .ok (.aload_n 0, 1) := by decide +kernel
theorem dX12_laysLines_9 : decode cX12_laysLines 9 = .ok (.iload_n 1, 1) := by decide +kernel
theorem dX12_laysLines_10 : decode cX12_laysLines 10 = .ok (.iconst 0, 1) := by decide +kernel
theorem dX12_laysLines_11 : decode cX12_laysLines 11 = .ok (.invokevirtual 306, 3) := by decide +kernel
theorem dX12_laysLines_14 : decode cX12_laysLines 14 = .ok (.if_icmp .ge 72, 3) := by decide +kernel
theorem dX12_laysLines_17 : decode cX12_laysLines 17 = .ok (.aload_n 0, 1) := by decide +kernel
theorem dX12_laysLines_18 : decode cX12_laysLines 18 = .ok (.iload_n 1, 1) := by decide +kernel
theorem dX12_laysLines_19 : decode cX12_laysLines 19 = .ok (.bipush 84, 2) := by decide +kernel
theorem dX12_laysLines_21 : decode cX12_laysLines 21 = .ok (.iload_n 2, 1) := by decide +kernel
theorem dX12_laysLines_22 : decode cX12_laysLines 22 = .ok (.iadd, 1) := by decide +kernel
theorem dX12_laysLines_23 : decode cX12_laysLines 23 = .ok (.invokevirtual 306, 3) := by decide +kernel
theorem dX12_laysLines_26 : decode cX12_laysLines 26 = .ok (.istore_n 3, 1) := by decide +kernel
theorem dX12_laysLines_27 : decode cX12_laysLines 27 = .ok (.aload_n 0, 1) := by decide +kernel
theorem dX12_laysLines_28 : decode cX12_laysLines 28 = .ok (.iload_n 1, 1) := by decide +kernel
theorem dX12_laysLines_29 : decode cX12_laysLines 29 = .ok (.iconst 4, 1) := by decide +kernel
theorem dX12_laysLines_30 : decode cX12_laysLines 30 = .ok (.iload_n 2, 1) := by decide +kernel
theorem dX12_laysLines_31 : decode cX12_laysLines 31 = .ok (.iadd, 1) := by decide +kernel
theorem dX12_laysLines_32 : decode cX12_laysLines 32 = .ok (.invokevirtual 306, 3) := by decide +kernel
theorem dX12_laysLines_35 : decode cX12_laysLines 35 = .ok (.istore 4, 2) := by decide +kernel
theorem dX12_laysLines_37 : decode cX12_laysLines 37 = .ok (.aload_n 0, 1) := by decide +kernel
theorem dX12_laysLines_38 : decode cX12_laysLines 38 = .ok (.aload_n 0, 1) := by decide +kernel
theorem dX12_laysLines_39 : decode cX12_laysLines 39 = .ok (.iload_n 1, 1) := by decide +kernel
theorem dX12_laysLines_40 : decode cX12_laysLines 40 = .ok (.bipush 44, 2) := by decide +kernel
theorem dX12_laysLines_42 : decode cX12_laysLines 42 = .ok (.iload_n 2, 1) := by decide +kernel
theorem dX12_laysLines_43 : decode cX12_laysLines 43 = .ok (.iadd, 1) := by decide +kernel
theorem dX12_laysLines_44 : decode cX12_laysLines 44 = .ok (.invokevirtual 306, 3) := by decide +kernel
theorem dX12_laysLines_47 : decode cX12_laysLines 47 = .ok (.iload 4, 2) := by decide +kernel
theorem dX12_laysLines_49 : decode cX12_laysLines 49 = .ok (.iload 4, 2) := by decide +kernel
theorem dX12_laysLines_51 : decode cX12_laysLines 51 = .ok (.iload_n 3, 1) := by decide +kernel
theorem dX12_laysLines_52 : decode cX12_laysLines 52 = .ok (.iadd, 1) := by decide +kernel
theorem dX12_laysLines_53 : decode cX12_laysLines 53 = .ok (.iload_n 3, 1) := by decide +kernel
theorem dX12_laysLines_54 : decode cX12_laysLines 54 = .ok (.invokevirtual 366, 3) := by decide +kernel
theorem dX12_laysLines_57 : decode cX12_laysLines 57 = .ok (.aload_n 0, 1) := by decide +kernel
theorem dX12_laysLines_58 : decode cX12_laysLines 58 = .ok (.aload_n 0, 1) := by decide +kernel
theorem dX12_laysLines_59 : decode cX12_laysLines 59 = .ok (.iload_n 1, 1) := by decide +kernel
theorem dX12_laysLines_60 : decode cX12_laysLines 60 = .ok (.bipush 44, 2) := by decide +kernel
theorem dX12_laysLines_62 : decode cX12_laysLines 62 = .ok (.iload_n 2, 1) := by decide +kernel
theorem dX12_laysLines_63 : decode cX12_laysLines 63 = .ok (.iadd, 1) := by decide +kernel
theorem dX12_laysLines_64 : decode cX12_laysLines 64 = .ok (.invokevirtual 306, 3) := by decide +kernel
theorem dX12_laysLines_67 : decode cX12_laysLines 67 = .ok (.iload_n 3, 1) := by decide +kernel
theorem dX12_laysLines_68 : decode cX12_laysLines 68 = .ok (.iadd, 1) := by decide +kernel
theorem dX12_laysLines_69 : decode cX12_laysLines 69 = .ok (.iload 4, 2) := by decide +kernel
theorem dX12_laysLines_71 : decode cX12_laysLines 71 = .ok (.iload 4, 2) := by decide +kernel
theorem dX12_laysLines_73 : decode cX12_laysLines 73 = .ok (.iload_n 3, 1) := by decide +kernel
theorem dX12_laysLines_74 : decode cX12_laysLines 74 = .ok (.iadd, 1) := by decide +kernel
theorem dX12_laysLines_75 : decode cX12_laysLines 75 = .ok (.iload_n 3, 1) := by decide +kernel
theorem dX12_laysLines_76 : decode cX12_laysLines 76 = .ok (.ineg, 1) := by decide +kernel
theorem dX12_laysLines_77 : decode cX12_laysLines 77 = .ok (.invokevirtual 366, 3) := by decide +kernel
theorem dX12_laysLines_80 : decode cX12_laysLines 80 = .ok (.iinc 2 1, 3) := by decide +kernel
theorem dX12_laysLines_83 : decode cX12_laysLines 83 = .ok (.goto (-76), 3) := by decide +kernel
theorem dX12_laysLines_86 : decode cX12_laysLines 86 = .ok (.return_, 1) := by decide +kernel
theorem dX12_lines_0 : decode cX12_lines 0 = .ok (.aload_n 0, 1) := by decide +kernel
theorem dX12_lines_1 : decode cX12_lines 1 = .ok (.iconst 0, 1) := by decide +kernel
theorem dX12_lines_2 : decode cX12_lines 2 = .ok (.putfield 103, 3) := by decide +kernel
theorem dX12_lines_5 : decode cX12_lines 5 = .ok (.aload_n 0, 1) := by decide +kernel
theorem dX12_lines_6 : decode cX12_lines 6 = .ok (.iload_n 1, 1) := by decide +kernel
theorem dX12_lines_7 : decode cX12_lines 7 = .ok (.invokevirtual 316, 3) := by decide +kernel
theorem dX12_lines_10 : decode cX12_lines 10 = .ok (.ifCond .ne 5, 3) := by decide +kernel
theorem dX12_lines_13 : decode cX12_lines 13 = .ok (.iconst (-1), 1) := by decide +kernel
theorem dX12_lines_14 : decode cX12_lines 14 = .ok (.ireturn, 1) := by decide +kernel
theorem dX12_lines_15 : decode cX12_lines 15 = .ok (.aload_n 0, 1) := by decide +kernel
theorem dX12_lines_16 : decode cX12_lines 16 = .ok (.iload_n 1, 1) := by decide +kernel
theorem dX12_lines_17 : decode cX12_lines 17 = .ok (.invokevirtual 325, 3) := by decide +kernel
theorem dX12_lines_20 : decode cX12_lines 20 = .ok (.ifCond .eq 6, 3) := by decide +kernel
theorem dX12_lines_23 : decode cX12_lines 23 = .ok (.bipush (-2), 2) := by decide +kernel
theorem dX12_lines_25 : decode cX12_lines 25 = .ok (.ireturn, 1) := by decide +kernel
theorem dX12_lines_26 : decode cX12_lines 26 = .ok (.aload_n 0, 1) := by decide +kernel
theorem dX12_lines_27 : decode cX12_lines 27 = .ok (.iload_n 1, 1) := by decide +kernel
theorem dX12_lines_28 : decode cX12_lines 28 = .ok (.invokevirtual 369, 3) := by decide +kernel
theorem dX12_lines_31 : decode cX12_lines 31 = .ok (.aload_n 0, 1) := by decide +kernel
theorem dX12_lines_32 : decode cX12_lines 32 = .ok (.getfield 360, 3) := by decide +kernel
theorem dX12_lines_35 : decode cX12_lines 35 = .ok (.ireturn, 1) := by decide +kernel
theorem dX12_line_0 : decode cX12_line 0 = .ok (.aload_n 0, 1) := by decide +kernel
theorem dX12_line_1 : decode cX12_line 1 = .ok (.iload_n 1, 1) := by decide +kernel
theorem dX12_line_2 : decode cX12_line 2 = .ok (.invokevirtual 316, 3) := by decide +kernel
theorem dX12_line_5 : decode cX12_line 5 = .ok (.ifCond .eq 27, 3) := by decide +kernel
theorem dX12_line_8 : decode cX12_line 8 = .ok (.aload_n 0, 1) := by decide +kernel
theorem dX12_line_9 : decode cX12_line 9 = .ok (.iload_n 1, 1) := by decide +kernel
theorem dX12_line_10 : decode cX12_line 10 = .ok (.invokevirtual 325, 3) := by decide +kernel
theorem dX12_line_13 : decode cX12_line 13 = .ok (.ifCond .ne 19, 3) := by decide +kernel
theorem dX12_line_16 : decode cX12_line 16 = .ok (.iload_n 3, 1) := by decide +kernel
theorem dX12_line_17 : decode cX12_line 17 = .ok (.i2l, 1) := by decide +kernel
theorem dX12_line_18 : decode cX12_line 18 = .ok (.lconst 0, 1) := by decide +kernel
theorem dX12_line_19 : decode cX12_line 19 = .ok (.ldc2_w 372, 3) := by decide +kernel
theorem dX12_line_22 : decode cX12_line 22 = .ok (.invokestatic 141, 3) := by decide +kernel
theorem dX12_line_25 : decode cX12_line 25 = .ok (.ifCond .eq 7, 3) := by decide +kernel
theorem dX12_line_28 : decode cX12_line 28 = .ok (.iconst 1, 1) := by decide +kernel
theorem dX12_line_29 : decode cX12_line 29 = .ok (.goto 4, 3) := by decide +kernel
theorem dX12_line_32 : decode cX12_line 32 = .ok (.iconst 0, 1) := by decide +kernel
theorem dX12_line_33 : decode cX12_line 33 = .ok (.istore 4, 2) := by decide +kernel
theorem dX12_line_35 : decode cX12_line 35 = .ok (.iload 4, 2) := by decide +kernel
theorem dX12_line_37 : decode cX12_line 37 = .ok (.ifCond .eq 8, 3) := by decide +kernel
theorem dX12_line_40 : decode cX12_line 40 = .ok (.aload_n 0, 1) := by decide +kernel
theorem dX12_line_41 : decode cX12_line 41 = .ok (.iload_n 1, 1) := by decide +kernel
theorem dX12_line_42 : decode cX12_line 42 = .ok (.invokevirtual 369, 3) := by decide +kernel
theorem dX12_line_45 : decode cX12_line 45 = .ok (.aload_n 0, 1) := by decide +kernel
theorem dX12_line_46 : decode cX12_line 46 = .ok (.iload 4, 2) := by decide +kernel
theorem dX12_line_48 : decode cX12_line 48 = .ok (.ifCond .eq 23, 3) := by decide +kernel
theorem dX12_line_51 : decode cX12_line 51 = .ok (.iload_n 2, 1) := by decide +kernel
theorem dX12_line_52 : decode cX12_line 52 = .ok (.i2l, 1) := by decide +kernel
theorem dX12_line_53 : decode cX12_line 53 = .ok (.lconst 0, 1) := by decide +kernel
theorem dX12_line_54 : decode cX12_line 54 = .ok (.aload_n 0, 1) := by decide +kernel
theorem dX12_line_55 : decode cX12_line 55 = .ok (.getfield 360, 3) := by decide +kernel
theorem dX12_line_58 : decode cX12_line 58 = .ok (.iconst 1, 1) := by decide +kernel
theorem dX12_line_59 : decode cX12_line 59 = .ok (.isub, 1) := by decide +kernel
theorem dX12_line_60 : decode cX12_line 60 = .ok (.i2l, 1) := by decide +kernel
theorem dX12_line_61 : decode cX12_line 61 = .ok (.invokestatic 141, 3) := by decide +kernel
theorem dX12_line_64 : decode cX12_line 64 = .ok (.ifCond .eq 7, 3) := by decide +kernel
theorem dX12_line_67 : decode cX12_line 67 = .ok (.iconst 0, 1) := by decide +kernel
theorem dX12_line_68 : decode cX12_line 68 = .ok (.goto 4, 3) := by decide +kernel
theorem dX12_line_71 : decode cX12_line 71 = .ok (.iconst 1, 1) := by decide +kernel
theorem dX12_line_72 : decode cX12_line 72 = .ok (.putfield 103, 3) := by decide +kernel
theorem dX12_line_75 : decode cX12_line 75 = .ok (.aload_n 0, 1) := by decide +kernel
theorem dX12_line_76 : decode cX12_line 76 = .ok (.getfield 103, 3) := by decide +kernel
theorem dX12_line_79 : decode cX12_line 79 = .ok (.iconst 1, 1) := by decide +kernel
theorem dX12_line_80 : decode cX12_line 80 = .ok (.if_icmp .ne 5, 3) := by decide +kernel
theorem dX12_line_83 : decode cX12_line 83 = .ok (.iconst 0, 1) := by decide +kernel
theorem dX12_line_84 : decode cX12_line 84 = .ok (.ireturn, 1) := by decide +kernel
theorem dX12_line_85 : decode cX12_line 85 = .ok (.iload_n 3, 1) := by decide +kernel
theorem dX12_line_86 : decode cX12_line 86 = .ok (.ifCond .ne 12, 3) := by decide +kernel
theorem dX12_line_89 : decode cX12_line 89 = .ok (.aload_n 0, 1) := by decide +kernel
theorem dX12_line_90 : decode cX12_line 90 = .ok (.getfield 88, 3) := by decide +kernel
theorem dX12_line_93 : decode cX12_line 93 = .ok (.iload_n 2, 1) := by decide +kernel
theorem dX12_line_94 : decode cX12_line 94 = .ok (.iaload, 1) := by decide +kernel
theorem dX12_line_95 : decode cX12_line 95 = .ok (.goto 37, 3) := by decide +kernel
theorem dX12_line_98 : decode cX12_line 98 = .ok (.iload_n 3, 1) := by decide +kernel
theorem dX12_line_99 : decode cX12_line 99 = .ok (.iconst 1, 1) := by decide +kernel
theorem dX12_line_100 : decode cX12_line 100 = .ok (.if_icmp .ne 12, 3) := by decide +kernel
theorem dX12_line_103 : decode cX12_line 103 = .ok (.aload_n 0, 1) := by decide +kernel
theorem dX12_line_104 : decode cX12_line 104 = .ok (.getfield 91, 3) := by decide +kernel
theorem dX12_line_107 : decode cX12_line 107 = .ok (.iload_n 2, 1) := by decide +kernel
theorem dX12_line_108 : decode cX12_line 108 = .ok (.iaload, 1) := by decide +kernel
theorem dX12_line_109 : decode cX12_line 109 = .ok (.goto 23, 3) := by decide +kernel
theorem dX12_line_112 : decode cX12_line 112 = .ok (.iload_n 3, 1) := by decide +kernel
theorem dX12_line_113 : decode cX12_line 113 = .ok (.iconst 2, 1) := by decide +kernel
theorem dX12_line_114 : decode cX12_line 114 = .ok (.if_icmp .ne 12, 3) := by decide +kernel
theorem dX12_line_117 : decode cX12_line 117 = .ok (.aload_n 0, 1) := by decide +kernel
theorem dX12_line_118 : decode cX12_line 118 = .ok (.getfield 94, 3) := by decide +kernel
theorem dX12_line_121 : decode cX12_line 121 = .ok (.iload_n 2, 1) := by decide +kernel
theorem dX12_line_122 : decode cX12_line 122 = .ok (.iaload, 1) := by decide +kernel
theorem dX12_line_123 : decode cX12_line 123 = .ok (.goto 9, 3) := by decide +kernel
theorem dX12_line_126 : decode cX12_line 126 = .ok (.aload_n 0, 1) := by decide +kernel
theorem dX12_line_127 : decode cX12_line 127 = .ok (.getfield 97, 3) := by decide +kernel
theorem dX12_line_130 : decode cX12_line 130 = .ok (.iload_n 2, 1) := by decide +kernel
theorem dX12_line_131 : decode cX12_line 131 = .ok (.iaload, 1) := by decide +kernel
theorem dX12_line_132 : decode cX12_line 132 = .ok (.ireturn, 1) := by decide +kernel
theorem dX12_side_0 : decode cX12_side 0 = .ok (.aload_n 0, 1) := by decide +kernel
theorem dX12_side_1 : decode cX12_side 1 = .ok (.iconst 0, 1) := by decide +kernel
theorem dX12_side_2 : decode cX12_side 2 = .ok (.putfield 103, 3) := by decide +kernel
theorem dX12_side_5 : decode cX12_side 5 = .ok (.aload_n 0, 1) := by decide +kernel
theorem dX12_side_6 : decode cX12_side 6 = .ok (.iload_n 1, 1) := by decide +kernel
theorem dX12_side_7 : decode cX12_side 7 = .ok (.iload_n 2, 1) := by decide +kernel
theorem dX12_side_8 : decode cX12_side 8 = .ok (.invokevirtual 337, 3) := by decide +kernel
theorem dX12_side_11 : decode cX12_side 11 = .ok (.ifCond .ne 5, 3) := by decide +kernel
theorem dX12_side_14 : decode cX12_side 14 = .ok (.iconst (-1), 1) := by decide +kernel
theorem dX12_side_15 : decode cX12_side 15 = .ok (.ireturn, 1) := by decide +kernel
theorem dX12_side_16 : decode cX12_side 16 = .ok (.aload_n 0, 1) := by decide +kernel
theorem dX12_side_17 : decode cX12_side 17 = .ok (.iload_n 1, 1) := by decide +kernel
theorem dX12_side_18 : decode cX12_side 18 = .ok (.invokevirtual 369, 3) := by decide +kernel
theorem dX12_side_21 : decode cX12_side 21 = .ok (.aload_n 0, 1) := by decide +kernel
theorem dX12_side_22 : decode cX12_side 22 = .ok (.iload_n 1, 1) := by decide +kernel
theorem dX12_side_23 : decode cX12_side 23 = .ok (.bipush 44, 2) := by decide +kernel
theorem dX12_side_25 : decode cX12_side 25 = .ok (.iload_n 2, 1) := by decide +kernel
theorem dX12_side_26 : decode cX12_side 26 = .ok (.iadd, 1) := by decide +kernel
theorem dX12_side_27 : decode cX12_side 27 = .ok (.invokevirtual 306, 3) := by decide +kernel
theorem dX12_side_30 : decode cX12_side 30 = .ok (.iload_n 3, 1) := by decide +kernel
theorem dX12_side_31 : decode cX12_side 31 = .ok (.ifCond .eq 15, 3) := by decide +kernel
theorem dX12_side_34 : decode cX12_side 34 = .ok (.aload_n 0, 1) := by decide +kernel
theorem dX12_side_35 : decode cX12_side 35 = .ok (.iload_n 1, 1) := by decide +kernel
theorem dX12_side_36 : decode cX12_side 36 = .ok (.bipush 84, 2) := by decide +kernel
theorem dX12_side_38 : decode cX12_side 38 = .ok (.iload_n 2, 1) := by decide +kernel
theorem dX12_side_39 : decode cX12_side 39 = .ok (.iadd, 1) := by decide +kernel
theorem dX12_side_40 : decode cX12_side 40 = .ok (.invokevirtual 306, 3) := by decide +kernel
theorem dX12_side_43 : decode cX12_side 43 = .ok (.goto 4, 3) := by decide +kernel
theorem dX12_side_46 : decode cX12_side 46 = .ok (.iconst 0, 1) := by decide +kernel
theorem dX12_side_47 : decode cX12_side 47 = .ok (.iadd, 1) := by decide +kernel
theorem dX12_side_48 : decode cX12_side 48 = .ok (.istore 4, 2) := by decide +kernel
theorem dX12_side_50 : decode cX12_side 50 = .ok (.iconst 0, 1) := by decide +kernel
theorem dX12_side_51 : decode cX12_side 51 = .ok (.istore 5, 2) := by decide +kernel
theorem dX12_side_53 : decode cX12_side 53 = .ok (.iload 5, 2) := by decide +kernel
theorem dX12_side_55 : decode cX12_side 55 = .ok (.aload_n 0, 1) := by decide +kernel
theorem dX12_side_56 : decode cX12_side 56 = .ok (.getfield 360, 3) := by decide +kernel
theorem dX12_side_59 : decode cX12_side 59 = .ok (.if_icmp .ge 70, 3) := by decide +kernel
theorem dX12_side_62 : decode cX12_side 62 = .ok (.aload_n 0, 1) := by decide +kernel
theorem dX12_side_63 : decode cX12_side 63 = .ok (.getfield 88, 3) := by decide +kernel
theorem dX12_side_66 : decode cX12_side 66 = .ok (.iload 5, 2) := by decide +kernel
theorem dX12_side_68 : decode cX12_side 68 = .ok (.iaload, 1) := by decide +kernel
theorem dX12_side_69 : decode cX12_side 69 = .ok (.iload 4, 2) := by decide +kernel
theorem dX12_side_71 : decode cX12_side 71 = .ok (.if_icmp .ne 52, 3) := by decide +kernel
theorem dX12_side_74 : decode cX12_side 74 = .ok (.aload_n 0, 1) := by decide +kernel
theorem dX12_side_75 : decode cX12_side 75 = .ok (.getfield 91, 3) := by decide +kernel
theorem dX12_side_78 : decode cX12_side 78 = .ok (.iload 5, 2) := by decide +kernel
theorem dX12_side_80 : decode cX12_side 80 = .ok (.iaload, 1) := by decide +kernel
theorem dX12_side_81 : decode cX12_side 81 = .ok (.aload_n 0, 1) := by decide +kernel
theorem dX12_side_82 : decode cX12_side 82 = .ok (.iload_n 1, 1) := by decide +kernel
theorem dX12_side_83 : decode cX12_side 83 = .ok (.iconst 4, 1) := by decide +kernel
theorem dX12_side_84 : decode cX12_side 84 = .ok (.iload_n 2, 1) := by decide +kernel
theorem dX12_side_85 : decode cX12_side 85 = .ok (.iadd, 1) := by decide +kernel
theorem dX12_side_86 : decode cX12_side 86 = .ok (.invokevirtual 306, 3) := by decide +kernel
theorem dX12_side_89 : decode cX12_side 89 = .ok (.if_icmp .gt 34, 3) := by decide +kernel
theorem dX12_side_92 : decode cX12_side 92 = .ok (.aload_n 0, 1) := by decide +kernel
theorem dX12_side_93 : decode cX12_side 93 = .ok (.getfield 94, 3) := by decide +kernel
theorem dX12_side_96 : decode cX12_side 96 = .ok (.iload 5, 2) := by decide +kernel
theorem dX12_side_98 : decode cX12_side 98 = .ok (.iaload, 1) := by decide +kernel
theorem dX12_side_99 : decode cX12_side 99 = .ok (.aload_n 0, 1) := by decide +kernel
theorem dX12_side_100 : decode cX12_side 100 = .ok (.iload_n 1, 1) := by decide +kernel
theorem dX12_side_101 : decode cX12_side 101 = .ok (.iconst 4, 1) := by decide +kernel
theorem dX12_side_102 : decode cX12_side 102 = .ok (.iload_n 2, 1) := by decide +kernel
theorem dX12_side_103 : decode cX12_side 103 = .ok (.iadd, 1) := by decide +kernel
theorem dX12_side_104 : decode cX12_side 104 = .ok (.invokevirtual 306, 3) := by decide +kernel
theorem dX12_side_107 : decode cX12_side 107 = .ok (.aload_n 0, 1) := by decide +kernel
theorem dX12_side_108 : decode cX12_side 108 = .ok (.iload_n 1, 1) := by decide +kernel
theorem dX12_side_109 : decode cX12_side 109 = .ok (.bipush 84, 2) := by decide +kernel
theorem dX12_side_111 : decode cX12_side 111 = .ok (.iload_n 2, 1) := by decide +kernel
theorem dX12_side_112 : decode cX12_side 112 = .ok (.iadd, 1) := by decide +kernel
theorem dX12_side_113 : decode cX12_side 113 = .ok (.invokevirtual 306, 3) := by decide +kernel
theorem dX12_side_116 : decode cX12_side 116 = .ok (.iadd, 1) := by decide +kernel
theorem dX12_side_117 : decode cX12_side 117 = .ok (.if_icmp .lt 6, 3) := by decide +kernel
theorem dX12_side_120 : decode cX12_side 120 = .ok (.iload 5, 2) := by decide +kernel
theorem dX12_side_122 : decode cX12_side 122 = .ok (.ireturn, 1) := by decide +kernel
theorem dX12_side_123 : decode cX12_side 123 = .ok (.iinc 5 1, 3) := by decide +kernel
theorem dX12_side_126 : decode cX12_side 126 = .ok (.goto (-73), 3) := by decide +kernel
theorem dX12_side_129 : decode cX12_side 129 = .ok (.iconst (-1), 1) := by decide +kernel
theorem dX12_side_130 : decode cX12_side 130 = .ok (.ireturn, 1) := by decide +kernel
theorem dX12_takes_0 : decode cX12_takes 0 = .ok (.iconst 0, 1) := by decide +kernel
theorem dX12_takes_1 : decode cX12_takes 1 = .ok (.istore_n 2, 1) := by decide +kernel
theorem dX12_takes_2 : decode cX12_takes 2 = .ok (.iload_n 2, 1) := by decide +kernel
theorem dX12_takes_3 : decode cX12_takes 3 = .ok (.bipush 124, 2) := by decide +kernel
theorem dX12_takes_5 : decode cX12_takes 5 = .ok (.if_icmp .ge 26, 3) := by decide +kernel
theorem dX12_takes_8 : decode cX12_takes 8 = .ok (.aload_n 0, 1) := by decide +kernel
theorem dX12_takes_9 : decode cX12_takes 9 = .ok (.getfield 100, 3) := by decide +kernel
theorem dX12_takes_12 : decode cX12_takes 12 = .ok (.iload_n 2, 1) := by decide +kernel
theorem dX12_takes_13 : decode cX12_takes 13 = .ok (.aload_n 0, 1) := by decide +kernel
theorem dX12_takes_14 : decode cX12_takes 14 = .ok (.getfield 30, 3) := by decide +kernel
theorem dX12_takes_17 : decode cX12_takes 17 = .ok (.bipush 124, 2) := by decide +kernel
theorem dX12_takes_19 : decode cX12_takes 19 = .ok (.iload_n 1, 1) := by decide +kernel
theorem dX12_takes_20 : decode cX12_takes 20 = .ok (.imul, 1) := by decide +kernel
theorem dX12_takes_21 : decode cX12_takes 21 = .ok (.iload_n 2, 1) := by decide +kernel
theorem dX12_takes_22 : decode cX12_takes 22 = .ok (.iadd, 1) := by decide +kernel
theorem dX12_takes_23 : decode cX12_takes 23 = .ok (.iaload, 1) := by decide +kernel
theorem dX12_takes_24 : decode cX12_takes 24 = .ok (.iastore, 1) := by decide +kernel
theorem dX12_takes_25 : decode cX12_takes 25 = .ok (.iinc 2 1, 3) := by decide +kernel
theorem dX12_takes_28 : decode cX12_takes 28 = .ok (.goto (-26), 3) := by decide +kernel
theorem dX12_takes_31 : decode cX12_takes 31 = .ok (.return_, 1) := by decide +kernel
theorem dX12_quarter_0 : decode cX12_quarter 0 = .ok (.aload_n 0, 1) := by decide +kernel
theorem dX12_quarter_1 : decode cX12_quarter 1 = .ok (.getfield 100, 3) := by decide +kernel
theorem dX12_quarter_4 : decode cX12_quarter 4 = .ok (.iconst 2, 1) := by decide +kernel
theorem dX12_quarter_5 : decode cX12_quarter 5 = .ok (.iaload, 1) := by decide +kernel
theorem dX12_quarter_6 : decode cX12_quarter 6 = .ok (.istore_n 1, 1) := by decide +kernel
theorem dX12_quarter_7 : decode cX12_quarter 7 = .ok (.iconst 0, 1) := by decide +kernel
theorem dX12_quarter_8 : decode cX12_quarter 8 = .ok (.istore_n 2, 1) := by decide +kernel
theorem dX12_quarter_9 : decode cX12_quarter 9 = .ok (.iload_n 2, 1) := by decide +kernel
theorem dX12_quarter_10 : decode cX12_quarter 10 = .ok (.aload_n 0, 1) := by decide +kernel
theorem dX12_quarter_11 : decode cX12_quarter 11 = .ok (.getfield 100, 3) := by decide +kernel
theorem dX12_quarter_14 : decode cX12_quarter 14 = .ok (.iconst 0, 1) := by decide +kernel
theorem dX12_quarter_15 : decode cX12_quarter 15 = .ok (.iaload, 1) := by decide +kernel
theorem dX12_quarter_16 : decode cX12_quarter 16 = .ok (.if_icmp .ge 57, 3) := by decide +kernel
theorem dX12_quarter_19 : decode cX12_quarter 19 = .ok (.aload_n 0, 1) := by decide +kernel
theorem dX12_quarter_20 : decode cX12_quarter 20 = .ok (.getfield 100, 3) := by decide +kernel
theorem dX12_quarter_23 : decode cX12_quarter 23 = .ok (.iconst 4, 1) := by decide +kernel
theorem dX12_quarter_24 : decode cX12_quarter 24 = .ok (.iload_n 2, 1) := by decide +kernel
theorem dX12_quarter_25 : decode cX12_quarter 25 = .ok (.iadd, 1) := by decide +kernel
theorem dX12_quarter_26 : decode cX12_quarter 26 = .ok (.iaload, 1) := by decide +kernel
theorem dX12_quarter_27 : decode cX12_quarter 27 = .ok (.istore_n 3, 1) := by decide +kernel
theorem dX12_quarter_28 : decode cX12_quarter 28 = .ok (.aload_n 0, 1) := by decide +kernel
theorem dX12_quarter_29 : decode cX12_quarter 29 = .ok (.getfield 100, 3) := by decide +kernel
theorem dX12_quarter_32 : decode cX12_quarter 32 = .ok (.iconst 4, 1) := by decide +kernel
theorem dX12_quarter_33 : decode cX12_quarter 33 = .ok (.iload_n 2, 1) := by decide +kernel
theorem dX12_quarter_34 : decode cX12_quarter 34 = .ok (.iadd, 1) := by decide +kernel
theorem dX12_quarter_35 : decode cX12_quarter 35 = .ok (.iload_n 1, 1) := by decide +kernel
theorem dX12_quarter_36 : decode cX12_quarter 36 = .ok (.aload_n 0, 1) := by decide +kernel
theorem dX12_quarter_37 : decode cX12_quarter 37 = .ok (.getfield 100, 3) := by decide +kernel
theorem dX12_quarter_40 : decode cX12_quarter 40 = .ok (.bipush 44, 2) := by decide +kernel
theorem dX12_quarter_42 : decode cX12_quarter 42 = .ok (.iload_n 2, 1) := by decide +kernel
theorem dX12_quarter_43 : decode cX12_quarter 43 = .ok (.iadd, 1) := by decide +kernel
theorem dX12_quarter_44 : decode cX12_quarter 44 = .ok (.iaload, 1) := by decide +kernel
theorem dX12_quarter_45 : decode cX12_quarter 45 = .ok (.isub, 1) := by decide +kernel
theorem dX12_quarter_46 : decode cX12_quarter 46 = .ok (.aload_n 0, 1) := by decide +kernel
theorem dX12_quarter_47 : decode cX12_quarter 47 = .ok (.getfield 100, 3) := by decide +kernel
theorem dX12_quarter_50 : decode cX12_quarter 50 = .ok (.bipush 84, 2) := by decide +kernel
theorem dX12_quarter_52 : decode cX12_quarter 52 = .ok (.iload_n 2, 1) := by decide +kernel
theorem dX12_quarter_53 : decode cX12_quarter 53 = .ok (.iadd, 1) := by decide +kernel
theorem dX12_quarter_54 : decode cX12_quarter 54 = .ok (.iaload, 1) := by decide +kernel
theorem dX12_quarter_55 : decode cX12_quarter 55 = .ok (.isub, 1) := by decide +kernel
theorem dX12_quarter_56 : decode cX12_quarter 56 = .ok (.iastore, 1) := by decide +kernel
theorem dX12_quarter_57 : decode cX12_quarter 57 = .ok (.aload_n 0, 1) := by decide +kernel
theorem dX12_quarter_58 : decode cX12_quarter 58 = .ok (.getfield 100, 3) := by decide +kernel
theorem dX12_quarter_61 : decode cX12_quarter 61 = .ok (.bipush 44, 2) := by decide +kernel
theorem dX12_quarter_63 : decode cX12_quarter 63 = .ok (.iload_n 2, 1) := by decide +kernel
theorem dX12_quarter_64 : decode cX12_quarter 64 = .ok (.iadd, 1) := by decide +kernel
theorem dX12_quarter_65 : decode cX12_quarter 65 = .ok (.iload_n 3, 1) := by decide +kernel
theorem dX12_quarter_66 : decode cX12_quarter 66 = .ok (.iastore, 1) := by decide +kernel
theorem dX12_quarter_67 : decode cX12_quarter 67 = .ok (.iinc 2 1, 3) := by decide +kernel
theorem dX12_quarter_70 : decode cX12_quarter 70 = .ok (.goto (-61), 3) := by decide +kernel
theorem dX12_quarter_73 : decode cX12_quarter 73 = .ok (.aload_n 0, 1) := by decide +kernel
theorem dX12_quarter_74 : decode cX12_quarter 74 = .ok (.getfield 100, 3) := by decide +kernel
theorem dX12_quarter_77 : decode cX12_quarter 77 = .ok (.iconst 2, 1) := by decide +kernel
theorem dX12_quarter_78 : decode cX12_quarter 78 = .ok (.aload_n 0, 1) := by decide +kernel
theorem dX12_quarter_79 : decode cX12_quarter 79 = .ok (.getfield 100, 3) := by decide +kernel
theorem dX12_quarter_82 : decode cX12_quarter 82 = .ok (.iconst 1, 1) := by decide +kernel
theorem dX12_quarter_83 : decode cX12_quarter 83 = .ok (.iaload, 1) := by decide +kernel
theorem dX12_quarter_84 : decode cX12_quarter 84 = .ok (.iastore, 1) := by decide +kernel
theorem dX12_quarter_85 : decode cX12_quarter 85 = .ok (.aload_n 0, 1) := by decide +kernel
theorem dX12_quarter_86 : decode cX12_quarter 86 = .ok (.getfield 100, 3) := by decide +kernel
theorem dX12_quarter_89 : decode cX12_quarter 89 = .ok (.iconst 1, 1) := by decide +kernel
theorem dX12_quarter_90 : decode cX12_quarter 90 = .ok (.iload_n 1, 1) := by decide +kernel
theorem dX12_quarter_91 : decode cX12_quarter 91 = .ok (.iastore, 1) := by decide +kernel
theorem dX12_quarter_92 : decode cX12_quarter 92 = .ok (.return_, 1) := by decide +kernel
theorem dX12_turns_0 : decode cX12_turns 0 = .ok (.iload_n 1, 1) := by decide +kernel
theorem dX12_turns_1 : decode cX12_turns 1 = .ok (.iconst 3, 1) := by decide +kernel
theorem dX12_turns_2 : decode cX12_turns 2 = .ok (.if_icmp .le 54, 3) := by decide +kernel
theorem dX12_turns_5 : decode cX12_turns 5 = .ok (.iconst 0, 1) := by decide +kernel
theorem dX12_turns_6 : decode cX12_turns 6 = .ok (.istore_n 2, 1) := by decide +kernel
theorem dX12_turns_7 : decode cX12_turns 7 = .ok (.iload_n 2, 1) := by decide +kernel
theorem dX12_turns_8 : decode cX12_turns 8 = .ok (.aload_n 0, 1) := by decide +kernel
theorem dX12_turns_9 : decode cX12_turns 9 = .ok (.getfield 100, 3) := by decide +kernel
theorem dX12_turns_12 : decode cX12_turns 12 = .ok (.iconst 0, 1) := by decide +kernel
theorem dX12_turns_13 : decode cX12_turns 13 = .ok (.iaload, 1) := by decide +kernel
theorem dX12_turns_14 : decode cX12_turns 14 = .ok (.if_icmp .ge 42, 3) := by decide +kernel
theorem dX12_turns_17 : decode cX12_turns 17 = .ok (.aload_n 0, 1) := by decide +kernel
theorem dX12_turns_18 : decode cX12_turns 18 = .ok (.getfield 100, 3) := by decide +kernel
theorem dX12_turns_21 : decode cX12_turns 21 = .ok (.iconst 4, 1) := by decide +kernel
theorem dX12_turns_22 : decode cX12_turns 22 = .ok (.iload_n 2, 1) := by decide +kernel
theorem dX12_turns_23 : decode cX12_turns 23 = .ok (.iadd, 1) := by decide +kernel
theorem dX12_turns_24 : decode cX12_turns 24 = .ok (.aload_n 0, 1) := by decide +kernel
theorem dX12_turns_25 : decode cX12_turns 25 = .ok (.getfield 100, 3) := by decide +kernel
theorem dX12_turns_28 : decode cX12_turns 28 = .ok (.iconst 1, 1) := by decide +kernel
theorem dX12_turns_29 : decode cX12_turns 29 = .ok (.iaload, 1) := by decide +kernel
theorem dX12_turns_30 : decode cX12_turns 30 = .ok (.aload_n 0, 1) := by decide +kernel
theorem dX12_turns_31 : decode cX12_turns 31 = .ok (.getfield 100, 3) := by decide +kernel
theorem dX12_turns_34 : decode cX12_turns 34 = .ok (.iconst 4, 1) := by decide +kernel
theorem dX12_turns_35 : decode cX12_turns 35 = .ok (.iload_n 2, 1) := by decide +kernel
theorem dX12_turns_36 : decode cX12_turns 36 = .ok (.iadd, 1) := by decide +kernel
theorem dX12_turns_37 : decode cX12_turns 37 = .ok (.iaload, 1) := by decide +kernel
theorem dX12_turns_38 : decode cX12_turns 38 = .ok (.isub, 1) := by decide +kernel
theorem dX12_turns_39 : decode cX12_turns 39 = .ok (.aload_n 0, 1) := by decide +kernel
theorem dX12_turns_40 : decode cX12_turns 40 = .ok (.getfield 100, 3) := by decide +kernel
theorem dX12_turns_43 : decode cX12_turns 43 = .ok (.bipush 84, 2) := by decide +kernel
theorem dX12_turns_45 : decode cX12_turns 45 = .ok (.iload_n 2, 1) := by decide +kernel
theorem dX12_turns_46 : decode cX12_turns 46 = .ok (.iadd, 1) := by decide +kernel
theorem dX12_turns_47 : decode cX12_turns 47 = .ok (.iaload, 1) := by decide +kernel
theorem dX12_turns_48 : decode cX12_turns 48 = .ok (.isub, 1) := by decide +kernel
theorem dX12_turns_49 : decode cX12_turns 49 = .ok (.iastore, 1) := by decide +kernel
theorem dX12_turns_50 : decode cX12_turns 50 = .ok (.iinc 2 1, 3) := by decide +kernel
theorem dX12_turns_53 : decode cX12_turns 53 = .ok (.goto (-46), 3) := by decide +kernel
theorem dX12_turns_56 : decode cX12_turns 56 = .ok (.iload_n 1, 1) := by decide +kernel
theorem dX12_turns_57 : decode cX12_turns 57 = .ok (.iconst 4, 1) := by decide +kernel
theorem dX12_turns_58 : decode cX12_turns 58 = .ok (.irem, 1) := by decide +kernel
theorem dX12_turns_59 : decode cX12_turns 59 = .ok (.istore_n 2, 1) := by decide +kernel
theorem dX12_turns_60 : decode cX12_turns 60 = .ok (.iload_n 2, 1) := by decide +kernel
theorem dX12_turns_61 : decode cX12_turns 61 = .ok (.ifCond .le 13, 3) := by decide +kernel
theorem dX12_turns_64 : decode cX12_turns 64 = .ok (.aload_n 0, 1) := by decide +kernel
theorem dX12_turns_65 : decode cX12_turns 65 = .ok (.invokevirtual 374, 3) := by decide +kernel
theorem dX12_turns_68 : decode cX12_turns 68 = .ok (.iinc 2 (-1), 3) := by decide +kernel
