theorem dX12_endOf_4 : decode cX12_endOf 4 = .ok (.getfield 70, 3) := by decide +kernel
theorem dX12_endOf_7 : decode cX12_endOf 7 = .ok (.iload_n 1, 1) := by decide +kernel
theorem dX12_endOf_8 : decode cX12_endOf 8 = .ok (.iaload, 1) := by decide +kernel
theorem dX12_endOf_9 : decode cX12_endOf 9 = .ok (.if_icmp .ge 19, 3) := by decide +kernel
theorem dX12_endOf_12 : decode cX12_endOf 12 = .ok (.aload_n 0, 1) := by decide +kernel
theorem dX12_endOf_13 : decode cX12_endOf 13 = .ok (.getfield 73, 3) := by decide +kernel
theorem dX12_endOf_16 : decode cX12_endOf 16 = .ok (.bipush 42, 2) := by decide +kernel
theorem dX12_endOf_18 : decode cX12_endOf 18 = .ok (.iload_n 1, 1) := by decide +kernel
theorem dX12_endOf_19 : decode cX12_endOf 19 = .ok (.imul, 1) := by decide +kernel
theorem dX12_endOf_20 : decode cX12_endOf 20 = .ok (.iload_n 2, 1) := by decide +kernel
theorem dX12_endOf_21 : decode cX12_endOf 21 = .ok (.iadd, 1) := by decide +kernel
theorem dX12_endOf_22 : decode cX12_endOf 22 = .ok (.iconst 1, 1) := by decide +kernel
theorem dX12_endOf_23 : decode cX12_endOf 23 = .ok (.iadd, 1) := by decide +kernel
theorem dX12_endOf_24 : decode cX12_endOf 24 = .ok (.iaload, 1) := by decide +kernel
theorem dX12_endOf_25 : decode cX12_endOf 25 = .ok (.goto 7, 3) := by decide +kernel
theorem dX12_endOf_28 : decode cX12_endOf 28 = .ok (.aload_n 0, 1) := by decide +kernel
theorem dX12_endOf_29 : decode cX12_endOf 29 = .ok (.getfield 209, 3) := by decide +kernel
theorem dX12_endOf_32 : decode cX12_endOf 32 = .ok (.ireturn, 1) := by decide +kernel
theorem dX12_widthOf_0 : decode cX12_widthOf 0 = .ok (.aload_n 0, 1) := by decide +kernel
theorem dX12_widthOf_1 : decode cX12_widthOf 1 = .ok (.iload_n 1, 1) := by decide +kernel
theorem dX12_widthOf_2 : decode cX12_widthOf 2 = .ok (.iload_n 2, 1) := by decide +kernel
theorem dX12_widthOf_3 : decode cX12_widthOf 3 = .ok (.invokevirtual 212, 3) := by decide +kernel
theorem dX12_widthOf_6 : decode cX12_widthOf 6 = .ok (.aload_n 0, 1) := by decide +kernel
theorem dX12_widthOf_7 : decode cX12_widthOf 7 = .ok (.getfield 73, 3) := by decide +kernel
theorem dX12_widthOf_10 : decode cX12_widthOf 10 = .ok (.bipush 42, 2) := by decide +kernel
theorem dX12_widthOf_12 : decode cX12_widthOf 12 = .ok (.iload_n 1, 1) := by decide +kernel
theorem dX12_widthOf_13 : decode cX12_widthOf 13 = .ok (.imul, 1) := by decide +kernel
theorem dX12_widthOf_14 : decode cX12_widthOf 14 = .ok (.iload_n 2, 1) := by decide +kernel
theorem dX12_widthOf_15 : decode cX12_widthOf 15 = .ok (.iadd, 1) := by decide +kernel
theorem dX12_widthOf_16 : decode cX12_widthOf 16 = .ok (.iaload, 1) := by decide +kernel
theorem dX12_widthOf_17 : decode cX12_widthOf 17 = .ok (.isub, 1) := by decide +kernel
theorem dX12_widthOf_18 : decode cX12_widthOf 18 = .ok (.ireturn, 1) := by decide +kernel
theorem dX12_appends_0 : decode cX12_appends 0 = .ok (.bipush 42, 2) := by decide +kernel
theorem dX12_appends_2 : decode cX12_appends 2 = .ok (.iload_n 1, 1) := by decide +kernel
theorem dX12_appends_3 : decode cX12_appends 3 = .ok (.imul, 1) := by decide +kernel
theorem dX12_appends_4 : decode cX12_appends 4 = .ok (.aload_n 0, 1) := by decide +kernel
theorem dX12_appends_5 : decode cX12_appends 5 = .ok (.getfield 70, 3) := by decide +kernel
theorem dX12_appends_8 : decode cX12_appends 8 = .ok (.iload_n 1, 1) := by decide +kernel
theorem dX12_appends_9 : decode cX12_appends 9 = .ok (.iaload, 1) := by decide +kernel
theorem dX12_appends_10 : decode cX12_appends 10 = .ok (.iadd, 1) := by decide +kernel
theorem dX12_appends_11 : decode cX12_appends 11 = .ok (.istore 4, 2) := by decide +kernel
theorem dX12_appends_13 : decode cX12_appends 13 = .ok (.aload_n 0, 1) := by decide +kernel
theorem dX12_appends_14 : decode cX12_appends 14 = .ok (.getfield 70, 3) := by decide +kernel
theorem dX12_appends_17 : decode cX12_appends 17 = .ok (.iload_n 1, 1) := by decide +kernel
theorem dX12_appends_18 : decode cX12_appends 18 = .ok (.iaload, 1) := by decide +kernel
theorem dX12_appends_19 : decode cX12_appends 19 = .ok (.ifCond .le 17, 3) := by decide +kernel
theorem dX12_appends_22 : decode cX12_appends 22 = .ok (.aload_n 0, 1) := by decide +kernel
theorem dX12_appends_23 : decode cX12_appends 23 = .ok (.getfield 76, 3) := by decide +kernel
theorem dX12_appends_26 : decode cX12_appends 26 = .ok (.iload 4, 2) := by decide +kernel
theorem dX12_appends_28 : decode cX12_appends 28 = .ok (.iconst 1, 1) := by decide +kernel
theorem dX12_appends_29 : decode cX12_appends 29 = .ok (.isub, 1) := by decide +kernel
theorem dX12_appends_30 : decode cX12_appends 30 = .ok (.iaload, 1) := by decide +kernel
theorem dX12_appends_31 : decode cX12_appends 31 = .ok (.iload_n 3, 1) := by decide +kernel
theorem dX12_appends_32 : decode cX12_appends 32 = .ok (.if_icmp .ne 4, 3) := by decide +kernel
theorem dX12_appends_35 : decode cX12_appends 35 = .ok (.return_, 1) := by decide +kernel
theorem dX12_appends_36 : decode cX12_appends 36 = .ok (.aload_n 0, 1) := by decide +kernel
theorem dX12_appends_37 : decode cX12_appends 37 = .ok (.getfield 73, 3) := by decide +kernel
theorem dX12_appends_40 : decode cX12_appends 40 = .ok (.iload 4, 2) := by decide +kernel
theorem dX12_appends_42 : decode cX12_appends 42 = .ok (.iload_n 2, 1) := by decide +kernel
theorem dX12_appends_43 : decode cX12_appends 43 = .ok (.iastore, 1) := by decide +kernel
theorem dX12_appends_44 : decode cX12_appends 44 = .ok (.aload_n 0, 1) := by decide +kernel
theorem dX12_appends_45 : decode cX12_appends 45 = .ok (.getfield 76, 3) := by decide +kernel
theorem dX12_appends_48 : decode cX12_appends 48 = .ok (.iload 4, 2) := by decide +kernel
theorem dX12_appends_50 : decode cX12_appends 50 = .ok (.iload_n 3, 1) := by decide +kernel
theorem dX12_appends_51 : decode cX12_appends 51 = .ok (.iastore, 1) := by decide +kernel
theorem dX12_appends_52 : decode cX12_appends 52 = .ok (.aload_n 0, 1) := by decide +kernel
theorem dX12_appends_53 : decode cX12_appends 53 = .ok (.getfield 70, 3) := by decide +kernel
theorem dX12_appends_56 : decode cX12_appends 56 = .ok (.iload_n 1, 1) := by decide +kernel
theorem dX12_appends_57 : decode cX12_appends 57 = .ok (.dup2, 1) := by decide +kernel
theorem dX12_appends_58 : decode cX12_appends 58 = .ok (.iaload, 1) := by decide +kernel
theorem dX12_appends_59 : decode cX12_appends 59 = .ok (.iconst 1, 1) := by decide +kernel
theorem dX12_appends_60 : decode cX12_appends 60 = .ok (.iadd, 1) := by decide +kernel
theorem dX12_appends_61 : decode cX12_appends 61 = .ok (.iastore, 1) := by decide +kernel
theorem dX12_appends_62 : decode cX12_appends 62 = .ok (.return_, 1) := by decide +kernel
theorem dX12_laysOn_0 : decode cX12_laysOn 0 = .ok (.aload_n 0, 1) := by decide +kernel
theorem dX12_laysOn_1 : decode cX12_laysOn 1 = .ok (.iload_n 1, 1) := by decide +kernel
theorem dX12_laysOn_2 : decode cX12_laysOn 2 = .ok (.invokevirtual 216, 3) := by decide +kernel
theorem dX12_laysOn_5 : decode cX12_laysOn 5 = .ok (.istore_n 3, 1) := by decide +kernel
theorem dX12_laysOn_6 : decode cX12_laysOn 6 = .ok (.aload_n 0, 1) := by decide +kernel
theorem dX12_laysOn_7 : decode cX12_laysOn 7 = .ok (.getfield 70, 3) := by decide +kernel
theorem dX12_laysOn_10 : decode cX12_laysOn 10 = .ok (.iload_n 1, 1) := by decide +kernel
theorem dX12_laysOn_11 : decode cX12_laysOn 11 = .ok (.iconst 1, 1) := by decide +kernel
theorem dX12_laysOn_12 : decode cX12_laysOn 12 = .ok (.iadd, 1) := by decide +kernel
theorem dX12_laysOn_13 : decode cX12_laysOn 13 = .ok (.iconst 0, 1) := by decide +kernel
theorem dX12_laysOn_14 : decode cX12_laysOn 14 = .ok (.iastore, 1) := by decide +kernel
theorem dX12_laysOn_15 : decode cX12_laysOn 15 = .ok (.iconst 0, 1) := by decide +kernel
theorem dX12_laysOn_16 : decode cX12_laysOn 16 = .ok (.istore 4, 2) := by decide +kernel
theorem dX12_laysOn_18 : decode cX12_laysOn 18 = .ok (.iload 4, 2) := by decide +kernel
theorem dX12_laysOn_20 : decode cX12_laysOn 20 = .ok (.aload_n 0, 1) := by decide +kernel
theorem dX12_laysOn_21 : decode cX12_laysOn 21 = .ok (.getfield 70, 3) := by decide +kernel
theorem dX12_laysOn_24 : decode cX12_laysOn 24 = .ok (.iload_n 1, 1) := by decide +kernel
theorem dX12_laysOn_25 : decode cX12_laysOn 25 = .ok (.iaload, 1) := by decide +kernel
theorem dX12_laysOn_26 : decode cX12_laysOn 26 = .ok (.if_icmp .ge 105, 3) := by decide +kernel
theorem dX12_laysOn_29 : decode cX12_laysOn 29 = .ok (.bipush 42, 2) := by decide +kernel
theorem dX12_laysOn_31 : decode cX12_laysOn 31 = .ok (.iload_n 1, 1) := by decide +kernel
theorem dX12_laysOn_32 : decode cX12_laysOn 32 = .ok (.imul, 1) := by decide +kernel
theorem dX12_laysOn_33 : decode cX12_laysOn 33 = .ok (.iload 4, 2) := by decide +kernel
theorem dX12_laysOn_35 : decode cX12_laysOn 35 = .ok (.iadd, 1) := by decide +kernel
theorem dX12_laysOn_36 : decode cX12_laysOn 36 = .ok (.istore 5, 2) := by decide +kernel
theorem dX12_laysOn_38 : decode cX12_laysOn 38 = .ok (.iload 4, 2) := by decide +kernel
theorem dX12_laysOn_40 : decode cX12_laysOn 40 = .ok (.iload_n 3, 1) := by decide +kernel
theorem dX12_laysOn_41 : decode cX12_laysOn 41 = .ok (.if_icmp .eq 27, 3) := by decide +kernel
theorem dX12_laysOn_44 : decode cX12_laysOn 44 = .ok (.aload_n 0, 1) := by decide +kernel
theorem dX12_laysOn_45 : decode cX12_laysOn 45 = .ok (.iload_n 1, 1) := by decide +kernel
theorem dX12_laysOn_46 : decode cX12_laysOn 46 = .ok (.iconst 1, 1) := by decide +kernel
theorem dX12_laysOn_47 : decode cX12_laysOn 47 = .ok (.iadd, 1) := by decide +kernel
theorem dX12_laysOn_48 : decode cX12_laysOn 48 = .ok (.aload_n 0, 1) := by decide +kernel
theorem dX12_laysOn_49 : decode cX12_laysOn 49 = .ok (.getfield 73, 3) := by decide +kernel
theorem dX12_laysOn_52 : decode cX12_laysOn 52 = .ok (.iload 5, 2) := by decide +kernel
theorem dX12_laysOn_54 : decode cX12_laysOn 54 = .ok (.iaload, 1) := by decide +kernel
theorem dX12_laysOn_55 : decode cX12_laysOn 55 = .ok (.aload_n 0, 1) := by decide +kernel
theorem dX12_laysOn_56 : decode cX12_laysOn 56 = .ok (.getfield 76, 3) := by decide +kernel
theorem dX12_laysOn_59 : decode cX12_laysOn 59 = .ok (.iload 5, 2) := by decide +kernel
theorem dX12_laysOn_61 : decode cX12_laysOn 61 = .ok (.iaload, 1) := by decide +kernel
theorem dX12_laysOn_62 : decode cX12_laysOn 62 = .ok (.invokevirtual 219, 3) := by decide +kernel
theorem dX12_laysOn_65 : decode cX12_laysOn 65 = .ok (.goto 60, 3) := by decide +kernel
theorem dX12_laysOn_68 : decode cX12_laysOn 68 = .ok (.aload_n 0, 1) := by decide +kernel
theorem dX12_laysOn_69 : decode cX12_laysOn 69 = .ok (.iload_n 1, 1) := by decide +kernel
theorem dX12_laysOn_70 : decode cX12_laysOn 70 = .ok (.iconst 1, 1) := by decide +kernel
theorem dX12_laysOn_71 : decode cX12_laysOn 71 = .ok (.iadd, 1) := by decide +kernel
theorem dX12_laysOn_72 : decode cX12_laysOn 72 = .ok (.aload_n 0, 1) := by decide +kernel
theorem dX12_laysOn_73 : decode cX12_laysOn 73 = .ok (.getfield 73, 3) := by decide +kernel
theorem dX12_laysOn_76 : decode cX12_laysOn 76 = .ok (.iload 5, 2) := by decide +kernel
theorem dX12_laysOn_78 : decode cX12_laysOn 78 = .ok (.iaload, 1) := by decide +kernel
theorem dX12_laysOn_79 : decode cX12_laysOn 79 = .ok (.aload_n 0, 1) := by decide +kernel
theorem dX12_laysOn_80 : decode cX12_laysOn 80 = .ok (.getfield 76, 3) := by decide +kernel
theorem dX12_laysOn_83 : decode cX12_laysOn 83 = .ok (.iload 5, 2) := by decide +kernel
theorem dX12_laysOn_85 : decode cX12_laysOn 85 = .ok (.iaload, 1) := by decide +kernel
theorem dX12_laysOn_86 : decode cX12_laysOn 86 = .ok (.iload_n 2, 1) := by decide +kernel
theorem dX12_laysOn_87 : decode cX12_laysOn 87 = .ok (.iadd, 1) := by decide +kernel
theorem dX12_laysOn_88 : decode cX12_laysOn 88 = .ok (.invokevirtual 219, 3) := by decide +kernel
theorem dX12_laysOn_91 : decode cX12_laysOn 91 = .ok (.iload_n 2, 1) := by decide +kernel
theorem dX12_laysOn_92 : decode cX12_laysOn 92 = .ok (.aload_n 0, 1) := by decide +kernel
theorem dX12_laysOn_93 : decode cX12_laysOn 93 = .ok (.iload_n 1, 1) := by decide +kernel
theorem dX12_laysOn_94 : decode cX12_laysOn 94 = .ok (.iload 4, 2) := by decide +kernel
theorem dX12_laysOn_96 : decode cX12_laysOn 96 = .ok (.invokevirtual 223, 3) := by decide +kernel
theorem dX12_laysOn_99 : decode cX12_laysOn 99 = .ok (.if_icmp .ge 26, 3) := by decide +kernel
theorem dX12_laysOn_102 : decode cX12_laysOn 102 = .ok (.aload_n 0, 1) := by decide +kernel
theorem dX12_laysOn_103 : decode cX12_laysOn 103 = .ok (.iload_n 1, 1) := by decide +kernel
theorem dX12_laysOn_104 : decode cX12_laysOn 104 = .ok (.iconst 1, 1) := by decide +kernel
theorem dX12_laysOn_105 : decode cX12_laysOn 105 = .ok (.iadd, 1) := by decide +kernel
theorem dX12_laysOn_106 : decode cX12_laysOn 106 = .ok (.aload_n 0, 1) := by decide +kernel
theorem dX12_laysOn_107 : decode cX12_laysOn 107 = .ok (.getfield 73, 3) := by decide +kernel
theorem dX12_laysOn_110 : decode cX12_laysOn 110 = .ok (.iload 5, 2) := by decide +kernel
theorem dX12_laysOn_112 : decode cX12_laysOn 112 = .ok (.iaload, 1) := by decide +kernel
theorem dX12_laysOn_113 : decode cX12_laysOn 113 = .ok (.iload_n 2, 1) := by decide +kernel
theorem dX12_laysOn_114 : decode cX12_laysOn 114 = .ok (.iadd, 1) := by decide +kernel
theorem dX12_laysOn_115 : decode cX12_laysOn 115 = .ok (.aload_n 0, 1) := by decide +kernel
theorem dX12_laysOn_116 : decode cX12_laysOn 116 = .ok (.getfield 76, 3) := by decide +kernel
theorem dX12_laysOn_119 : decode cX12_laysOn 119 = .ok (.iload 5, 2) := by decide +kernel
theorem dX12_laysOn_121 : decode cX12_laysOn 121 = .ok (.iaload, 1) := by decide +kernel
theorem dX12_laysOn_122 : decode cX12_laysOn 122 = .ok (.invokevirtual 219, 3) := by decide +kernel
theorem dX12_laysOn_125 : decode cX12_laysOn 125 = .ok (.iinc 4 1, 3) := by decide +kernel
theorem dX12_laysOn_128 : decode cX12_laysOn 128 = .ok (.goto (-110), 3) := by decide +kernel
theorem dX12_laysOn_131 : decode cX12_laysOn 131 = .ok (.return_, 1) := by decide +kernel
theorem dX12_squares_0 : decode cX12_squares 0 = .ok (.bipush 42, 2) := by decide +kernel
theorem dX12_squares_2 : decode cX12_squares 2 = .ok (.iload_n 3, 1) := by decide +kernel
theorem dX12_squares_3 : decode cX12_squares 3 = .ok (.imul, 1) := by decide +kernel
theorem dX12_squares_4 : decode cX12_squares 4 = .ok (.aload_n 0, 1) := by decide +kernel
theorem dX12_squares_5 : decode cX12_squares 5 = .ok (.iload_n 3, 1) := by decide +kernel
theorem dX12_squares_6 : decode cX12_squares 6 = .ok (.invokevirtual 216, 3) := by decide +kernel
theorem dX12_squares_9 : decode cX12_squares 9 = .ok (.iadd, 1) := by decide +kernel
theorem dX12_squares_10 : decode cX12_squares 10 = .ok (.istore 5, 2) := by decide +kernel
theorem dX12_squares_12 : decode cX12_squares 12 = .ok (.aload_n 0, 1) := by decide +kernel
theorem dX12_squares_13 : decode cX12_squares 13 = .ok (.iload_n 1, 1) := by decide +kernel
theorem dX12_squares_14 : decode cX12_squares 14 = .ok (.iconst 4, 1) := by decide +kernel
theorem dX12_squares_15 : decode cX12_squares 15 = .ok (.iload_n 2, 1) := by decide +kernel
theorem dX12_squares_16 : decode cX12_squares 16 = .ok (.iadd, 1) := by decide +kernel
theorem dX12_squares_17 : decode cX12_squares 17 = .ok (.aload_n 0, 1) := by decide +kernel
theorem dX12_squares_18 : decode cX12_squares 18 = .ok (.getfield 73, 3) := by decide +kernel
theorem dX12_squares_21 : decode cX12_squares 21 = .ok (.iload 5, 2) := by decide +kernel
theorem dX12_squares_23 : decode cX12_squares 23 = .ok (.iaload, 1) := by decide +kernel
theorem dX12_squares_24 : decode cX12_squares 24 = .ok (.invokevirtual 226, 3) := by decide +kernel
theorem dX12_squares_27 : decode cX12_squares 27 = .ok (.aload_n 0, 1) := by decide +kernel
theorem dX12_squares_28 : decode cX12_squares 28 = .ok (.iload_n 1, 1) := by decide +kernel
theorem dX12_squares_29 : decode cX12_squares 29 = .ok (.bipush 44, 2) := by decide +kernel
theorem dX12_squares_31 : decode cX12_squares 31 = .ok (.iload_n 2, 1) := by decide +kernel
theorem dX12_squares_32 : decode cX12_squares 32 = .ok (.iadd, 1) := by decide +kernel
theorem dX12_squares_33 : decode cX12_squares 33 = .ok (.aload_n 0, 1) := by decide +kernel
theorem dX12_squares_34 : decode cX12_squares 34 = .ok (.getfield 76, 3) := by decide +kernel
theorem dX12_squares_37 : decode cX12_squares 37 = .ok (.iload 5, 2) := by decide +kernel
theorem dX12_squares_39 : decode cX12_squares 39 = .ok (.iaload, 1) := by decide +kernel
theorem dX12_squares_40 : decode cX12_squares 40 = .ok (.invokevirtual 226, 3) := by decide +kernel
theorem dX12_squares_43 : decode cX12_squares 43 = .ok (.aload_n 0, 1) := by decide +kernel
theorem dX12_squares_44 : decode cX12_squares 44 = .ok (.iload_n 1, 1) := by decide +kernel
theorem dX12_squares_45 : decode cX12_squares 45 = .ok (.bipush 84, 2) := by decide +kernel
theorem dX12_squares_47 : decode cX12_squares 47 = .ok (.iload_n 2, 1) := by decide +kernel
theorem dX12_squares_48 : decode cX12_squares 48 = .ok (.iadd, 1) := by decide +kernel
theorem dX12_squares_49 : decode cX12_squares 49 = .ok (.iload 4, 2) := by decide +kernel
theorem dX12_squares_51 : decode cX12_squares 51 = .ok (.invokevirtual 226, 3) := by decide +kernel
theorem dX12_squares_54 : decode cX12_squares 54 = .ok (.return_, 1) := by decide +kernel
theorem dX12_fails_0 : decode cX12_fails 0 = .ok (.iconst 0, 1) := by decide +kernel
theorem dX12_fails_1 : decode cX12_fails 1 = .ok (.istore_n 2, 1) := by decide +kernel
theorem dX12_fails_2 : decode cX12_fails 2 = .ok (.iload_n 2, 1) := by decide +kernel
theorem dX12_fails_3 : decode cX12_fails 3 = .ok (.bipush 124, 2) := by decide +kernel
theorem dX12_fails_5 : decode cX12_fails 5 = .ok (.if_icmp .ge 16, 3) := by decide +kernel
theorem dX12_fails_8 : decode cX12_fails 8 = .ok (.aload_n 0, 1) := by decide +kernel
theorem dX12_fails_9 : decode cX12_fails 9 = .ok (.iload_n 1, 1) := by decide +kernel
theorem dX12_fails_10 : decode cX12_fails 10 = .ok (.iload_n 2, 1) := by decide +kernel
theorem dX12_fails_11 : decode cX12_fails 11 = .ok (.iconst 0, 1) := by decide +kernel
theorem dX12_fails_12 : decode cX12_fails 12 = .ok (.invokevirtual 226, 3) := by decide +kernel
theorem dX12_fails_15 : decode cX12_fails 15 = .ok (.iinc 2 1, 3) := by decide +kernel
theorem dX12_fails_18 : decode cX12_fails 18 = .ok (.goto (-16), 3) := by decide +kernel
theorem dX12_fails_21 : decode cX12_fails 21 = .ok (.aload_n 0, 1) := by decide +kernel
theorem dX12_fails_22 : decode cX12_fails 22 = .ok (.iload_n 1, 1) := by decide +kernel
theorem dX12_fails_23 : decode cX12_fails 23 = .ok (.iconst 3, 1) := by decide +kernel
theorem dX12_fails_24 : decode cX12_fails 24 = .ok (.iconst 1, 1) := by decide +kernel
theorem dX12_fails_25 : decode cX12_fails 25 = .ok (.invokevirtual 226, 3) := by decide +kernel
theorem dX12_fails_28 : decode cX12_fails 28 = .ok (.return_, 1) := by decide +kernel
theorem dX12_groupSum_0 : decode cX12_groupSum 0 = .ok (.aload_n 0, 1) := by decide +kernel
theorem dX12_groupSum_1 : decode cX12_groupSum 1 = .ok (.getfield 27, 3) := by decide +kernel
theorem dX12_groupSum_4 : decode cX12_groupSum 4 = .ok (.bipush 29, 2) := by decide +kernel
theorem dX12_groupSum_6 : decode cX12_groupSum 6 = .ok (.iload_n 1, 1) := by decide +kernel
theorem dX12_groupSum_7 : decode cX12_groupSum 7 = .ok (.imul, 1) := by decide +kernel
theorem dX12_groupSum_8 : decode cX12_groupSum 8 = .ok (.iload_n 2, 1) := by decide +kernel
theorem dX12_groupSum_9 : decode cX12_groupSum 9 = .ok (.iadd, 1) := by decide +kernel
theorem dX12_groupSum_10 : decode cX12_groupSum 10 = .ok (.iaload, 1) := by decide +kernel
theorem dX12_groupSum_11 : decode cX12_groupSum 11 = .ok (.ineg, 1) := by decide +kernel
theorem dX12_groupSum_12 : decode cX12_groupSum 12 = .ok (.istore_n 3, 1) := by decide +kernel
theorem dX12_groupSum_13 : decode cX12_groupSum 13 = .ok (.iload_n 2, 1) := by decide +kernel
theorem dX12_groupSum_14 : decode cX12_groupSum 14 = .ok (.iconst 1, 1) := by decide +kernel
theorem dX12_groupSum_15 : decode cX12_groupSum 15 = .ok (.iadd, 1) := by decide +kernel
theorem dX12_groupSum_16 : decode cX12_groupSum 16 = .ok (.istore 4, 2) := by decide +kernel
theorem dX12_groupSum_18 : decode cX12_groupSum 18 = .ok (.iload 4, 2) := by decide +kernel
theorem dX12_groupSum_20 : decode cX12_groupSum 20 = .ok (.aload_n 0, 1) := by decide +kernel
theorem dX12_groupSum_21 : decode cX12_groupSum 21 = .ok (.getfield 21, 3) := by decide +kernel
theorem dX12_groupSum_24 : decode cX12_groupSum 24 = .ok (.iload_n 1, 1) := by decide +kernel
theorem dX12_groupSum_25 : decode cX12_groupSum 25 = .ok (.iaload, 1) := by decide +kernel
theorem dX12_groupSum_26 : decode cX12_groupSum 26 = .ok (.if_icmp .ge 39, 3) := by decide +kernel
theorem dX12_groupSum_29 : decode cX12_groupSum 29 = .ok (.aload_n 0, 1) := by decide +kernel
theorem dX12_groupSum_30 : decode cX12_groupSum 30 = .ok (.getfield 27, 3) := by decide +kernel
theorem dX12_groupSum_33 : decode cX12_groupSum 33 = .ok (.bipush 29, 2) := by decide +kernel
theorem dX12_groupSum_35 : decode cX12_groupSum 35 = .ok (.iload_n 1, 1) := by decide +kernel
theorem dX12_groupSum_36 : decode cX12_groupSum 36 = .ok (.imul, 1) := by decide +kernel
theorem dX12_groupSum_37 : decode cX12_groupSum 37 = .ok (.iload 4, 2) := by decide +kernel
theorem dX12_groupSum_39 : decode cX12_groupSum 39 = .ok (.iadd, 1) := by decide +kernel
theorem dX12_groupSum_40 : decode cX12_groupSum 40 = .ok (.iaload, 1) := by decide +kernel
theorem dX12_groupSum_41 : decode cX12_groupSum 41 = .ok (.ifCond .le 24, 3) := by decide +kernel
theorem dX12_groupSum_44 : decode cX12_groupSum 44 = .ok (.iload_n 3, 1) := by decide +kernel
theorem dX12_groupSum_45 : decode cX12_groupSum 45 = .ok (.aload_n 0, 1) := by decide +kernel
theorem dX12_groupSum_46 : decode cX12_groupSum 46 = .ok (.getfield 27, 3) := by decide +kernel
theorem dX12_groupSum_49 : decode cX12_groupSum 49 = .ok (.bipush 29, 2) := by decide +kernel
theorem dX12_groupSum_51 : decode cX12_groupSum 51 = .ok (.iload_n 1, 1) := by decide +kernel
theorem dX12_groupSum_52 : decode cX12_groupSum 52 = .ok (.imul, 1) := by decide +kernel
theorem dX12_groupSum_53 : decode cX12_groupSum 53 = .ok (.iload 4, 2) := by decide +kernel
theorem dX12_groupSum_55 : decode cX12_groupSum 55 = .ok (.iadd, 1) := by decide +kernel
theorem dX12_groupSum_56 : decode cX12_groupSum 56 = .ok (.iaload, 1) := by decide +kernel
theorem dX12_groupSum_57 : decode cX12_groupSum 57 = .ok (.iadd, 1) := by decide +kernel
theorem dX12_groupSum_58 : decode cX12_groupSum 58 = .ok (.istore_n 3, 1) := by decide +kernel
theorem dX12_groupSum_59 : decode cX12_groupSum 59 = .ok (.iinc 4 1, 3) := by decide +kernel
theorem dX12_groupSum_62 : decode cX12_groupSum 62 = .ok (.goto (-44), 3) := by decide +kernel
theorem dX12_groupSum_65 : decode cX12_groupSum 65 = .ok (.iload_n 3, 1) := by decide +kernel
theorem dX12_groupSum_66 : decode cX12_groupSum 66 = .ok (.ireturn, 1) := by decide +kernel
theorem dX12_draws_0 : decode cX12_draws 0 = .ok (.aload_n 0, 1) := by decide +kernel
theorem dX12_draws_1 : decode cX12_draws 1 = .ok (.getfield 21, 3) := by decide +kernel
theorem dX12_draws_4 : decode cX12_draws 4 = .ok (.iload_n 1, 1) := by decide +kernel
theorem dX12_draws_5 : decode cX12_draws 5 = .ok (.iaload, 1) := by decide +kernel
theorem dX12_draws_6 : decode cX12_draws 6 = .ok (.istore_n 2, 1) := by decide +kernel
theorem dX12_draws_7 : decode cX12_draws 7 = .ok (.aload_n 0, 1) := by decide +kernel
theorem dX12_draws_8 : decode cX12_draws 8 = .ok (.aload_n 0, 1) := by decide +kernel
theorem dX12_draws_9 : decode cX12_draws 9 = .ok (.iload_n 1, 1) := by decide +kernel
theorem dX12_draws_10 : decode cX12_draws 10 = .ok (.iconst 0, 1) := by decide +kernel
theorem dX12_draws_11 : decode cX12_draws 11 = .ok (.invokevirtual 229, 3) := by decide +kernel
theorem dX12_draws_14 : decode cX12_draws 14 = .ok (.invokevirtual 232, 3) := by decide +kernel
theorem dX12_draws_17 : decode cX12_draws 17 = .ok (.iconst 0, 1) := by decide +kernel
theorem dX12_draws_18 : decode cX12_draws 18 = .ok (.istore_n 3, 1) := by decide +kernel
theorem dX12_draws_19 : decode cX12_draws 19 = .ok (.iload_n 3, 1) := by decide +kernel
theorem dX12_draws_20 : decode cX12_draws 20 = .ok (.iload_n 2, 1) := by decide +kernel
theorem dX12_draws_21 : decode cX12_draws 21 = .ok (.if_icmp .ge 80, 3) := by decide +kernel
theorem dX12_draws_24 : decode cX12_draws 24 = .ok (.aload_n 0, 1) := by decide +kernel
theorem dX12_draws_25 : decode cX12_draws 25 = .ok (.getfield 27, 3) := by decide +kernel
theorem dX12_draws_28 : decode cX12_draws 28 = .ok (.bipush 29, 2) := by decide +kernel
theorem dX12_draws_30 : decode cX12_draws 30 = .ok (.iload_n 1, 1) := by decide +kernel
theorem dX12_draws_31 : decode cX12_draws 31 = .ok (.imul, 1) := by decide +kernel
theorem dX12_draws_32 : decode cX12_draws 32 = .ok (.iload_n 3, 1) := by decide +kernel
theorem dX12_draws_33 : decode cX12_draws 33 = .ok (.iadd, 1) := by decide +kernel
theorem dX12_draws_34 : decode cX12_draws 34 = .ok (.iaload, 1) := by decide +kernel
theorem dX12_draws_35 : decode cX12_draws 35 = .ok (.istore 4, 2) := by decide +kernel
theorem dX12_draws_37 : decode cX12_draws 37 = .ok (.iload 4, 2) := by decide +kernel
theorem dX12_draws_39 : decode cX12_draws 39 = .ok (.ifCond .ge 40, 3) := by decide +kernel
theorem dX12_draws_42 : decode cX12_draws 42 = .ok (.aload_n 0, 1) := by decide +kernel
theorem dX12_draws_43 : decode cX12_draws 43 = .ok (.getfield 55, 3) := by decide +kernel
theorem dX12_draws_46 : decode cX12_draws 46 = .ok (.iload_n 1, 1) := by decide +kernel
theorem dX12_draws_47 : decode cX12_draws 47 = .ok (.iload_n 3, 1) := by decide +kernel
theorem dX12_draws_48 : decode cX12_draws 48 = .ok (.iastore, 1) := by decide +kernel
theorem dX12_draws_49 : decode cX12_draws 49 = .ok (.aload_n 0, 1) := by decide +kernel
theorem dX12_draws_50 : decode cX12_draws 50 = .ok (.iload_n 1, 1) := by decide +kernel
theorem dX12_draws_51 : decode cX12_draws 51 = .ok (.iload_n 3, 1) := by decide +kernel
theorem dX12_draws_52 : decode cX12_draws 52 = .ok (.invokevirtual 229, 3) := by decide +kernel
theorem dX12_draws_55 : decode cX12_draws 55 = .ok (.aload_n 0, 1) := by decide +kernel
theorem dX12_draws_56 : decode cX12_draws 56 = .ok (.iload_n 3, 1) := by decide +kernel
theorem dX12_draws_57 : decode cX12_draws 57 = .ok (.aload_n 0, 1) := by decide +kernel
theorem dX12_draws_58 : decode cX12_draws 58 = .ok (.iload_n 3, 1) := by decide +kernel
theorem dX12_draws_59 : decode cX12_draws 59 = .ok (.invokevirtual 216, 3) := by decide +kernel
theorem dX12_draws_62 : decode cX12_draws 62 = .ok (.invokevirtual 223, 3) := by decide +kernel
theorem dX12_draws_65 : decode cX12_draws 65 = .ok (.if_icmp .eq 9, 3) := by decide +kernel
theorem dX12_draws_68 : decode cX12_draws 68 = .ok (.aload_n 0, 1) := by decide +kernel
theorem dX12_draws_69 : decode cX12_draws 69 = .ok (.iload_n 1, 1) := by decide +kernel
theorem dX12_draws_70 : decode cX12_draws 70 = .ok (.invokevirtual 235, 3) := by decide +kernel
theorem dX12_draws_73 : decode cX12_draws 73 = .ok (.return_, 1) := by decide +kernel
theorem dX12_draws_74 : decode cX12_draws 74 = .ok (.iload 4, 2) := by decide +kernel
theorem dX12_draws_76 : decode cX12_draws 76 = .ok (.ineg, 1) := by decide +kernel
theorem dX12_draws_77 : decode cX12_draws 77 = .ok (.istore 4, 2) := by decide +kernel
theorem dX12_draws_79 : decode cX12_draws 79 = .ok (.aload_n 0, 1) := by decide +kernel
theorem dX12_draws_80 : decode cX12_draws 80 = .ok (.iload_n 1, 1) := by decide +kernel
theorem dX12_draws_81 : decode cX12_draws 81 = .ok (.iload_n 3, 1) := by decide +kernel
theorem dX12_draws_82 : decode cX12_draws 82 = .ok (.iload_n 3, 1) := by decide +kernel
theorem dX12_draws_83 : decode cX12_draws 83 = .ok (.iload 4, 2) := by decide +kernel
theorem dX12_draws_85 : decode cX12_draws 85 = .ok (.invokevirtual 238, 3) := by decide +kernel
theorem dX12_draws_88 : decode cX12_draws 88 = .ok (.aload_n 0, 1) := by decide +kernel
theorem dX12_draws_89 : decode cX12_draws 89 = .ok (.iload_n 3, 1) := by decide +kernel
theorem dX12_draws_90 : decode cX12_draws 90 = .ok (.iload 4, 2) := by decide +kernel
theorem dX12_draws_92 : decode cX12_draws 92 = .ok (.invokevirtual 242, 3) := by decide +kernel
theorem dX12_draws_95 : decode cX12_draws 95 = .ok (.iinc 3 1, 3) := by decide +kernel
theorem dX12_draws_98 : decode cX12_draws 98 = .ok (.goto (-79), 3) := by decide +kernel
theorem dX12_draws_101 : decode cX12_draws 101 = .ok (.aload_n 0, 1) := by decide +kernel
theorem dX12_draws_102 : decode cX12_draws 102 = .ok (.getfield 55, 3) := by decide +kernel
theorem dX12_draws_105 : decode cX12_draws 105 = .ok (.iload_n 1, 1) := by decide +kernel
theorem dX12_draws_106 : decode cX12_draws 106 = .ok (.iload_n 2, 1) := by decide +kernel
theorem dX12_draws_107 : decode cX12_draws 107 = .ok (.iastore, 1) := by decide +kernel
theorem dX12_draws_108 : decode cX12_draws 108 = .ok (.aload_n 0, 1) := by decide +kernel
theorem dX12_draws_109 : decode cX12_draws 109 = .ok (.getfield 70, 3) := by decide +kernel
theorem dX12_draws_112 : decode cX12_draws 112 = .ok (.iload_n 2, 1) := by decide +kernel
theorem dX12_draws_113 : decode cX12_draws 113 = .ok (.iaload, 1) := by decide +kernel
theorem dX12_draws_114 : decode cX12_draws 114 = .ok (.iconst 1, 1) := by decide +kernel
theorem dX12_draws_115 : decode cX12_draws 115 = .ok (.if_icmp .le 9, 3) := by decide +kernel
theorem dX12_draws_118 : decode cX12_draws 118 = .ok (.aload_n 0, 1) := by decide +kernel
theorem dX12_draws_119 : decode cX12_draws 119 = .ok (.iload_n 1, 1) := by decide +kernel
theorem dX12_draws_120 : decode cX12_draws 120 = .ok (.invokevirtual 235, 3) := by decide +kernel
theorem dX12_draws_123 : decode cX12_draws 123 = .ok (.return_, 1) := by decide +kernel
theorem dX12_draws_124 : decode cX12_draws 124 = .ok (.aload_n 0, 1) := by decide +kernel
theorem dX12_draws_125 : decode cX12_draws 125 = .ok (.iload_n 1, 1) := by decide +kernel
theorem dX12_draws_126 : decode cX12_draws 126 = .ok (.iconst 0, 1) := by decide +kernel
theorem dX12_draws_127 : decode cX12_draws 127 = .ok (.iload_n 2, 1) := by decide +kernel
theorem dX12_draws_128 : decode cX12_draws 128 = .ok (.invokevirtual 226, 3) := by decide +kernel
theorem dX12_draws_131 : decode cX12_draws 131 = .ok (.aload_n 0, 1) := by decide +kernel
theorem dX12_draws_132 : decode cX12_draws 132 = .ok (.iload_n 1, 1) := by decide +kernel
theorem dX12_draws_133 : decode cX12_draws 133 = .ok (.iconst 1, 1) := by decide +kernel
theorem dX12_draws_134 : decode cX12_draws 134 = .ok (.aload_n 0, 1) := by decide +kernel
theorem dX12_draws_135 : decode cX12_draws 135 = .ok (.getfield 209, 3) := by decide +kernel
theorem dX12_draws_138 : decode cX12_draws 138 = .ok (.invokevirtual 226, 3) := by decide +kernel
theorem dX12_draws_141 : decode cX12_draws 141 = .ok (.aload_n 0, 1) := by decide +kernel
theorem dX12_draws_142 : decode cX12_draws 142 = .ok (.iload_n 1, 1) := by decide +kernel
theorem dX12_draws_143 : decode cX12_draws 143 = .ok (.iconst 2, 1) := by decide +kernel
theorem dX12_draws_144 : decode cX12_draws 144 = .ok (.aload_n 0, 1) := by decide +kernel
theorem dX12_draws_145 : decode cX12_draws 145 = .ok (.getfield 76, 3) := by decide +kernel
theorem dX12_draws_148 : decode cX12_draws 148 = .ok (.bipush 42, 2) := by decide +kernel
theorem dX12_draws_150 : decode cX12_draws 150 = .ok (.iload_n 2, 1) := by decide +kernel
theorem dX12_draws_151 : decode cX12_draws 151 = .ok (.imul, 1) := by decide +kernel
theorem dX12_draws_152 : decode cX12_draws 152 = .ok (.iaload, 1) := by decide +kernel
theorem dX12_draws_153 : decode cX12_draws 153 = .ok (.invokevirtual 226, 3) := by decide +kernel
theorem dX12_draws_156 : decode cX12_draws 156 = .ok (.return_, 1) := by decide +kernel
theorem dX12_laysMatrix_0 : decode cX12_laysMatrix 0 = .ok (.aload_n 0, 1) := by decide +kernel
theorem dX12_laysMatrix_1 : decode cX12_laysMatrix 1 = .ok (.getfield 46, 3) := by decide +kernel
theorem dX12_laysMatrix_4 : decode cX12_laysMatrix 4 = .ok (.iload_n 1, 1) := by decide +kernel
theorem dX12_laysMatrix_5 : decode cX12_laysMatrix 5 = .ok (.iaload, 1) := by decide +kernel
theorem dX12_laysMatrix_6 : decode cX12_laysMatrix 6 = .ok (.iconst 1, 1) := by decide +kernel
theorem dX12_laysMatrix_7 : decode cX12_laysMatrix 7 = .ok (.isub, 1) := by decide +kernel
theorem dX12_laysMatrix_8 : decode cX12_laysMatrix 8 = .ok (.istore 4, 2) := by decide +kernel
theorem dX12_laysMatrix_10 : decode cX12_laysMatrix 10 = .ok (.iconst 0, 1) := by decide +kernel
theorem dX12_laysMatrix_11 : decode cX12_laysMatrix 11 = .ok (.istore 5, 2) := by decide +kernel
theorem dX12_laysMatrix_13 : decode cX12_laysMatrix 13 = .ok (.iload 5, 2) := by decide +kernel
theorem dX12_laysMatrix_15 : decode cX12_laysMatrix 15 = .ok (.bipush 64, 2) := by decide +kernel
theorem dX12_laysMatrix_17 : decode cX12_laysMatrix 17 = .ok (.if_icmp .ge 17, 3) := by decide +kernel
theorem dX12_laysMatrix_20 : decode cX12_laysMatrix 20 = .ok (.aload_n 0, 1) := by decide +kernel
theorem dX12_laysMatrix_21 : decode cX12_laysMatrix 21 = .ok (.getfield 79, 3) := by decide +kernel
theorem dX12_laysMatrix_24 : decode cX12_laysMatrix 24 = .ok (.iload 5, 2) := by decide +kernel
theorem dX12_laysMatrix_26 : decode cX12_laysMatrix 26 = .ok (.lconst 0, 1) := by decide +kernel
theorem dX12_laysMatrix_27 : decode cX12_laysMatrix 27 = .ok (.lastore, 1) := by decide +kernel
theorem dX12_laysMatrix_28 : decode cX12_laysMatrix 28 = .ok (.iinc 5 1, 3) := by decide +kernel
theorem dX12_laysMatrix_31 : decode cX12_laysMatrix 31 = .ok (.goto (-18), 3) := by decide +kernel
theorem dX12_laysMatrix_34 : decode cX12_laysMatrix 34 = .ok (.iconst 0, 1) := by decide +kernel
theorem dX12_laysMatrix_35 : decode cX12_laysMatrix 35 = .ok (.istore 5, 2) := by decide +kernel
theorem dX12_laysMatrix_37 : decode cX12_laysMatrix 37 = .ok (.iload 5, 2) := by decide +kernel
theorem dX12_laysMatrix_39 : decode cX12_laysMatrix 39 = .ok (.aload_n 0, 1) := by decide +kernel
theorem dX12_laysMatrix_40 : decode cX12_laysMatrix 40 = .ok (.getfield 49, 3) := by decide +kernel
theorem dX12_laysMatrix_43 : decode cX12_laysMatrix 43 = .ok (.iload_n 1, 1) := by decide +kernel
theorem dX12_laysMatrix_44 : decode cX12_laysMatrix 44 = .ok (.iaload, 1) := by decide +kernel
theorem dX12_laysMatrix_45 : decode cX12_laysMatrix 45 = .ok (.if_icmp .ge 99, 3) := by decide +kernel
theorem dX12_laysMatrix_48 : decode cX12_laysMatrix 48 = .ok (.aload_n 0, 1) := by decide +kernel
theorem dX12_laysMatrix_49 : decode cX12_laysMatrix 49 = .ok (.getfield 52, 3) := by decide +kernel
theorem dX12_laysMatrix_52 : decode cX12_laysMatrix 52 = .ok (.bipush 28, 2) := by decide +kernel
theorem dX12_laysMatrix_54 : decode cX12_laysMatrix 54 = .ok (.iload_n 1, 1) := by decide +kernel
theorem dX12_laysMatrix_55 : decode cX12_laysMatrix 55 = .ok (.imul, 1) := by decide +kernel
theorem dX12_laysMatrix_56 : decode cX12_laysMatrix 56 = .ok (.iconst 2, 1) := by decide +kernel
theorem dX12_laysMatrix_57 : decode cX12_laysMatrix 57 = .ok (.iload 5, 2) := by decide +kernel
theorem dX12_laysMatrix_59 : decode cX12_laysMatrix 59 = .ok (.imul, 1) := by decide +kernel
theorem dX12_laysMatrix_60 : decode cX12_laysMatrix 60 = .ok (.iadd, 1) := by decide +kernel
theorem dX12_laysMatrix_61 : decode cX12_laysMatrix 61 = .ok (.iaload, 1) := by decide +kernel
theorem dX12_laysMatrix_62 : decode cX12_laysMatrix 62 = .ok (.istore 6, 2) := by decide +kernel
theorem dX12_laysMatrix_64 : decode cX12_laysMatrix 64 = .ok (.aload_n 0, 1) := by decide +kernel
theorem dX12_laysMatrix_65 : decode cX12_laysMatrix 65 = .ok (.getfield 52, 3) := by decide +kernel
theorem dX12_laysMatrix_68 : decode cX12_laysMatrix 68 = .ok (.bipush 28, 2) := by decide +kernel
theorem dX12_laysMatrix_70 : decode cX12_laysMatrix 70 = .ok (.iload_n 1, 1) := by decide +kernel
theorem dX12_laysMatrix_71 : decode cX12_laysMatrix 71 = .ok (.imul, 1) := by decide +kernel
theorem dX12_laysMatrix_72 : decode cX12_laysMatrix 72 = .ok (.iconst 2, 1) := by decide +kernel
theorem dX12_laysMatrix_73 : decode cX12_laysMatrix 73 = .ok (.iload 5, 2) := by decide +kernel
theorem dX12_laysMatrix_75 : decode cX12_laysMatrix 75 = .ok (.imul, 1) := by decide +kernel
theorem dX12_laysMatrix_76 : decode cX12_laysMatrix 76 = .ok (.iadd, 1) := by decide +kernel
theorem dX12_laysMatrix_77 : decode cX12_laysMatrix 77 = .ok (.iconst 1, 1) := by decide +kernel
theorem dX12_laysMatrix_78 : decode cX12_laysMatrix 78 = .ok (.iadd, 1) := by decide +kernel
theorem dX12_laysMatrix_79 : decode cX12_laysMatrix 79 = .ok (.iaload, 1) := by decide +kernel
theorem dX12_laysMatrix_80 : decode cX12_laysMatrix 80 = .ok (.istore 7, 2) := by decide +kernel
theorem dX12_laysMatrix_82 : decode cX12_laysMatrix 82 = .ok (.aload_n 0, 1) := by decide +kernel
theorem dX12_laysMatrix_83 : decode cX12_laysMatrix 83 = .ok (.iload 4, 2) := by decide +kernel
theorem dX12_laysMatrix_85 : decode cX12_laysMatrix 85 = .ok (.iload 6, 2) := by decide +kernel
theorem dX12_laysMatrix_87 : decode cX12_laysMatrix 87 = .ok (.iload 6, 2) := by decide +kernel
theorem dX12_laysMatrix_89 : decode cX12_laysMatrix 89 = .ok (.iload_n 2, 1) := by decide +kernel
theorem dX12_laysMatrix_90 : decode cX12_laysMatrix 90 = .ok (.iload_n 3, 1) := by decide +kernel
theorem dX12_laysMatrix_91 : decode cX12_laysMatrix 91 = .ok (.lconst 1, 1) := by decide +kernel
theorem dX12_laysMatrix_92 : decode cX12_laysMatrix 92 = .ok (.invokevirtual 246, 3) := by decide +kernel
theorem dX12_laysMatrix_95 : decode cX12_laysMatrix 95 = .ok (.aload_n 0, 1) := by decide +kernel
theorem dX12_laysMatrix_96 : decode cX12_laysMatrix 96 = .ok (.iload 4, 2) := by decide +kernel
theorem dX12_laysMatrix_98 : decode cX12_laysMatrix 98 = .ok (.iload 7, 2) := by decide +kernel
theorem dX12_laysMatrix_100 : decode cX12_laysMatrix 100 = .ok (.iload 7, 2) := by decide +kernel
theorem dX12_laysMatrix_102 : decode cX12_laysMatrix 102 = .ok (.iload_n 2, 1) := by decide +kernel
theorem dX12_laysMatrix_103 : decode cX12_laysMatrix 103 = .ok (.iload_n 3, 1) := by decide +kernel
theorem dX12_laysMatrix_104 : decode cX12_laysMatrix 104 = .ok (.lconst 1, 1) := by decide +kernel
theorem dX12_laysMatrix_105 : decode cX12_laysMatrix 105 = .ok (.invokevirtual 246, 3) := by decide +kernel
theorem dX12_laysMatrix_108 : decode cX12_laysMatrix 108 = .ok (.aload_n 0, 1) := by decide +kernel
theorem dX12_laysMatrix_109 : decode cX12_laysMatrix 109 = .ok (.iload 4, 2) := by decide +kernel
theorem dX12_laysMatrix_111 : decode cX12_laysMatrix 111 = .ok (.iload 6, 2) := by decide +kernel
theorem dX12_laysMatrix_113 : decode cX12_laysMatrix 113 = .ok (.iload 7, 2) := by decide +kernel
theorem dX12_laysMatrix_115 : decode cX12_laysMatrix 115 = .ok (.iload_n 2, 1) := by decide +kernel
theorem dX12_laysMatrix_116 : decode cX12_laysMatrix 116 = .ok (.iload_n 3, 1) := by decide +kernel
theorem dX12_laysMatrix_117 : decode cX12_laysMatrix 117 = .ok (.ldc2_w 250, 3) := by decide +kernel
theorem dX12_laysMatrix_120 : decode cX12_laysMatrix 120 = .ok (.invokevirtual 246, 3) := by decide +kernel
theorem dX12_laysMatrix_123 : decode cX12_laysMatrix 123 = .ok (.aload_n 0, 1) := by decide +kernel
theorem dX12_laysMatrix_124 : decode cX12_laysMatrix 124 = .ok (.iload 4, 2) := by decide +kernel
theorem dX12_laysMatrix_126 : decode cX12_laysMatrix 126 = .ok (.iload 7, 2) := by decide +kernel
theorem dX12_laysMatrix_128 : decode cX12_laysMatrix 128 = .ok (.iload 6, 2) := by decide +kernel
theorem dX12_laysMatrix_130 : decode cX12_laysMatrix 130 = .ok (.iload_n 2, 1) := by decide +kernel
theorem dX12_laysMatrix_131 : decode cX12_laysMatrix 131 = .ok (.iload_n 3, 1) := by decide +kernel
theorem dX12_laysMatrix_132 : decode cX12_laysMatrix 132 = .ok (.ldc2_w 250, 3) := by decide +kernel
theorem dX12_laysMatrix_135 : decode cX12_laysMatrix 135 = .ok (.invokevirtual 246, 3) := by decide +kernel
theorem dX12_laysMatrix_138 : decode cX12_laysMatrix 138 = .ok (.iinc 5 1, 3) := by decide +kernel
theorem dX12_laysMatrix_141 : decode cX12_laysMatrix 141 = .ok (.goto (-104), 3) := by decide +kernel
theorem dX12_laysMatrix_144 : decode cX12_laysMatrix 144 = .ok (.iload_n 2, 1) := by decide +kernel
theorem dX12_laysMatrix_145 : decode cX12_laysMatrix 145 = .ok (.iconst (-1), 1) := by decide +kernel
theorem dX12_laysMatrix_146 : decode cX12_laysMatrix 146 = .ok (.if_icmp .ne 8, 3) := by decide +kernel
theorem dX12_laysMatrix_149 : decode cX12_laysMatrix 149 = .ok (.iload 4, 2) := by decide +kernel
theorem dX12_laysMatrix_151 : decode cX12_laysMatrix 151 = .ok (.goto 7, 3) := by decide +kernel
theorem dX12_laysMatrix_154 : decode cX12_laysMatrix 154 = .ok (.iload 4, 2) := by decide +kernel
theorem dX12_laysMatrix_156 : decode cX12_laysMatrix 156 = .ok (.iconst 1, 1) := by decide +kernel
theorem dX12_laysMatrix_157 : decode cX12_laysMatrix 157 = .ok (.isub, 1) := by decide +kernel
theorem dX12_laysMatrix_158 : decode cX12_laysMatrix 158 = .ok (.ireturn, 1) := by decide +kernel
theorem dX12_adds_0 : decode cX12_adds 0 = .ok (.iload_n 2, 1) := by decide +kernel
theorem dX12_adds_1 : decode cX12_adds 1 = .ok (.iload_n 1, 1) := by decide +kernel
theorem dX12_adds_2 : decode cX12_adds 2 = .ok (.if_icmp .ge 20, 3) := by decide +kernel
theorem dX12_adds_5 : decode cX12_adds 5 = .ok (.iload_n 3, 1) := by decide +kernel
theorem dX12_adds_6 : decode cX12_adds 6 = .ok (.iload_n 1, 1) := by decide +kernel
theorem dX12_adds_7 : decode cX12_adds 7 = .ok (.if_icmp .ge 15, 3) := by decide +kernel
theorem dX12_adds_10 : decode cX12_adds 10 = .ok (.iload_n 2, 1) := by decide +kernel
theorem dX12_adds_11 : decode cX12_adds 11 = .ok (.iload 4, 2) := by decide +kernel
theorem dX12_adds_13 : decode cX12_adds 13 = .ok (.if_icmp .eq 9, 3) := by decide +kernel
theorem dX12_adds_16 : decode cX12_adds 16 = .ok (.iload_n 3, 1) := by decide +kernel
theorem dX12_adds_17 : decode cX12_adds 17 = .ok (.iload 5, 2) := by decide +kernel
theorem dX12_adds_19 : decode cX12_adds 19 = .ok (.if_icmp .ne 4, 3) := by decide +kernel
theorem dX12_adds_22 : decode cX12_adds 22 = .ok (.return_, 1) := by decide +kernel
theorem dX12_adds_23 : decode cX12_adds 23 = .ok (.iload 4, 2) := by decide +kernel
theorem dX12_adds_25 : decode cX12_adds 25 = .ok (.iconst (-1), 1) := by decide +kernel
theorem dX12_adds_26 : decode cX12_adds 26 = .ok (.if_icmp .eq 15, 3) := by decide +kernel
theorem dX12_adds_29 : decode cX12_adds 29 = .ok (.iload_n 2, 1) := by decide +kernel
theorem dX12_adds_30 : decode cX12_adds 30 = .ok (.iload 4, 2) := by decide +kernel
theorem dX12_adds_32 : decode cX12_adds 32 = .ok (.if_icmp .le 9, 3) := by decide +kernel
theorem dX12_adds_35 : decode cX12_adds 35 = .ok (.iload_n 2, 1) := by decide +kernel
theorem dX12_adds_36 : decode cX12_adds 36 = .ok (.iconst 1, 1) := by decide +kernel
theorem dX12_adds_37 : decode cX12_adds 37 = .ok (.isub, 1) := by decide +kernel
theorem dX12_adds_38 : decode cX12_adds 38 = .ok (.goto 4, 3) := by decide +kernel
theorem dX12_adds_41 : decode cX12_adds 41 = .ok (.iload_n 2, 1) := by decide +kernel
theorem dX12_adds_42 : decode cX12_adds 42 = .ok (.istore 8, 2) := by decide +kernel
theorem dX12_adds_44 : decode cX12_adds 44 = .ok (.iload 5, 2) := by decide +kernel
theorem dX12_adds_46 : decode cX12_adds 46 = .ok (.iconst (-1), 1) := by decide +kernel
theorem dX12_adds_47 : decode cX12_adds 47 = .ok (.if_icmp .eq 15, 3) := by decide +kernel
theorem dX12_adds_50 : decode cX12_adds 50 = .ok (.iload_n 3, 1) := by decide +kernel
theorem dX12_adds_51 : decode cX12_adds 51 = .ok (.iload 5, 2) := by decide +kernel
theorem dX12_adds_53 : decode cX12_adds 53 = .ok (.if_icmp .le 9, 3) := by decide +kernel
theorem dX12_adds_56 : decode cX12_adds 56 = .ok (.iload_n 3, 1) := by decide +kernel
theorem dX12_adds_57 : decode cX12_adds 57 = .ok (.iconst 1, 1) := by decide +kernel
theorem dX12_adds_58 : decode cX12_adds 58 = .ok (.isub, 1) := by decide +kernel
theorem dX12_adds_59 : decode cX12_adds 59 = .ok (.goto 4, 3) := by decide +kernel
theorem dX12_adds_62 : decode cX12_adds 62 = .ok (.iload_n 3, 1) := by decide +kernel
theorem dX12_adds_63 : decode cX12_adds 63 = .ok (.istore 9, 2) := by decide +kernel
theorem dX12_adds_65 : decode cX12_adds 65 = .ok (.aload_n 0, 1) := by decide +kernel
theorem dX12_adds_66 : decode cX12_adds 66 = .ok (.getfield 79, 3) := by decide +kernel
theorem dX12_adds_69 : decode cX12_adds 69 = .ok (.bipush 8, 2) := by decide +kernel
theorem dX12_adds_71 : decode cX12_adds 71 = .ok (.iload 8, 2) := by decide +kernel
theorem dX12_adds_73 : decode cX12_adds 73 = .ok (.imul, 1) := by decide +kernel
theorem dX12_adds_74 : decode cX12_adds 74 = .ok (.iload 9, 2) := by decide +kernel
theorem dX12_adds_76 : decode cX12_adds 76 = .ok (.iadd, 1) := by decide +kernel
theorem dX12_adds_77 : decode cX12_adds 77 = .ok (.dup2, 1) := by decide +kernel
theorem dX12_adds_78 : decode cX12_adds 78 = .ok (.laload, 1) := by decide +kernel
theorem dX12_adds_79 : decode cX12_adds 79 = .ok (.lload 6, 2) := by decide +kernel
theorem dX12_adds_81 : decode cX12_adds 81 = .ok (.ladd, 1) := by decide +kernel
theorem dX12_adds_82 : decode cX12_adds 82 = .ok (.lastore, 1) := by decide +kernel
theorem dX12_adds_83 : decode cX12_adds 83 = .ok (.return_, 1) := by decide +kernel
theorem dX12_determinant_0 : decode cX12_determinant 0 = .ok (.lconst 1, 1) := by decide +kernel
theorem dX12_determinant_1 : decode cX12_determinant 1 = .ok (.lstore_n 2, 1) := by decide +kernel
theorem dX12_determinant_2 : decode cX12_determinant 2 = .ok (.lconst 1, 1) := by decide +kernel
theorem dX12_determinant_3 : decode cX12_determinant 3 = .ok (.lstore 4, 2) := by decide +kernel
theorem dX12_determinant_5 : decode cX12_determinant 5 = .ok (.iconst 0, 1) := by decide +kernel
theorem dX12_determinant_6 : decode cX12_determinant 6 = .ok (.istore 6, 2) := by decide +kernel
theorem dX12_determinant_8 : decode cX12_determinant 8 = .ok (.iload 6, 2) := by decide +kernel
theorem dX12_determinant_10 : decode cX12_determinant 10 = .ok (.iload_n 1, 1) := by decide +kernel
theorem dX12_determinant_11 : decode cX12_determinant 11 = .ok (.if_icmp .ge 266, 3) := by decide +kernel
theorem dX12_determinant_14 : decode cX12_determinant 14 = .ok (.iload 6, 2) := by decide +kernel
theorem dX12_determinant_16 : decode cX12_determinant 16 = .ok (.istore 7, 2) := by decide +kernel
theorem dX12_determinant_18 : decode cX12_determinant 18 = .ok (.iload 7, 2) := by decide +kernel
theorem dX12_determinant_20 : decode cX12_determinant 20 = .ok (.iload_n 1, 1) := by decide +kernel
theorem dX12_determinant_21 : decode cX12_determinant 21 = .ok (.if_icmp .ge 27, 3) := by decide +kernel
theorem dX12_determinant_24 : decode cX12_determinant 24 = .ok (.aload_n 0, 1) := by decide +kernel
theorem dX12_determinant_25 : decode cX12_determinant 25 = .ok (.getfield 79, 3) := by decide +kernel
theorem dX12_determinant_28 : decode cX12_determinant 28 = .ok (.bipush 8, 2) := by decide +kernel
theorem dX12_determinant_30 : decode cX12_determinant 30 = .ok (.iload 7, 2) := by decide +kernel
theorem dX12_determinant_32 : decode cX12_determinant 32 = .ok (.imul, 1) := by decide +kernel
theorem dX12_determinant_33 : decode cX12_determinant 33 = .ok (.iload 6, 2) := by decide +kernel
theorem dX12_determinant_35 : decode cX12_determinant 35 = .ok (.iadd, 1) := by decide +kernel
theorem dX12_determinant_36 : decode cX12_determinant 36 = .ok (.laload, 1) := by decide +kernel
theorem dX12_determinant_37 : decode cX12_determinant 37 = .ok (.lconst 0, 1) := by decide +kernel
theorem dX12_determinant_38 : decode cX12_determinant 38 = .ok (.lcmp, 1) := by decide +kernel
theorem dX12_determinant_39 : decode cX12_determinant 39 = .ok (.ifCond .ne 9, 3) := by decide +kernel
theorem dX12_determinant_42 : decode cX12_determinant 42 = .ok (.iinc 7 1, 3) := by decide +kernel
theorem dX12_determinant_45 : decode cX12_determinant 45 = .ok (.goto (-27), 3) := by decide +kernel
theorem dX12_determinant_48 : decode cX12_determinant 48 = .ok (.iload 7, 2) := by decide +kernel
theorem dX12_determinant_50 : decode cX12_determinant 50 = .ok (.iload_n 1, 1) := by decide +kernel
theorem dX12_determinant_51 : decode cX12_determinant 51 = .ok (.if_icmp .ne 5, 3) := by decide +kernel
theorem dX12_determinant_54 : decode cX12_determinant 54 = .ok (.lconst 0, 1) := by decide +kernel
theorem dX12_determinant_55 : decode cX12_determinant 55 = .ok (.lreturn, 1) := by decide +kernel
theorem dX12_determinant_56 : decode cX12_determinant 56 = .ok (.iconst 0, 1) := by decide +kernel
theorem dX12_determinant_57 : decode cX12_determinant 57 = .ok (.istore 8, 2) := by decide +kernel
theorem dX12_determinant_59 : decode cX12_determinant 59 = .ok (.iload 8, 2) := by decide +kernel
theorem dX12_determinant_61 : decode cX12_determinant 61 = .ok (.iload_n 1, 1) := by decide +kernel
theorem dX12_determinant_62 : decode cX12_determinant 62 = .ok (.if_icmp .ge 72, 3) := by decide +kernel
theorem dX12_determinant_65 : decode cX12_determinant 65 = .ok (.iload 7, 2) := by decide +kernel
theorem dX12_determinant_67 : decode cX12_determinant 67 = .ok (.iload 6, 2) := by decide +kernel
theorem dX12_determinant_69 : decode cX12_determinant 69 = .ok (.if_icmp .eq 65, 3) := by decide +kernel
theorem dX12_determinant_72 : decode cX12_determinant 72 = .ok (.aload_n 0, 1) := by decide +kernel
theorem dX12_determinant_73 : decode cX12_determinant 73 = .ok (.getfield 79, 3) := by decide +kernel
theorem dX12_determinant_76 : decode cX12_determinant 76 = .ok (.bipush 8, 2) := by decide +kernel
theorem dX12_determinant_78 : decode cX12_determinant 78 = .ok (.iload 7, 2) := by decide +kernel
theorem dX12_determinant_80 : decode cX12_determinant 80 = .ok (.imul, 1) := by decide +kernel
theorem dX12_determinant_81 : decode cX12_determinant 81 = .ok (.iload 8, 2) := by decide +kernel
theorem dX12_determinant_83 : decode cX12_determinant 83 = .ok (.iadd, 1) := by decide +kernel
theorem dX12_determinant_84 : decode cX12_determinant 84 = .ok (.laload, 1) := by decide +kernel
theorem dX12_determinant_85 : decode cX12_determinant 85 = .ok (.lstore 9, 2) := by decide +kernel
theorem dX12_determinant_87 : decode cX12_determinant 87 = .ok (.aload_n 0, 1) := by decide +kernel
theorem dX12_determinant_88 : decode cX12_determinant 88 = .ok (.getfield 79, 3) := by decide +kernel
theorem dX12_determinant_91 : decode cX12_determinant 91 = .ok (.bipush 8, 2) := by decide +kernel
theorem dX12_determinant_93 : decode cX12_determinant 93 = .ok (.iload 7, 2) := by decide +kernel
theorem dX12_determinant_95 : decode cX12_determinant 95 = .ok (.imul, 1) := by decide +kernel
theorem dX12_determinant_96 : decode cX12_determinant 96 = .ok (.iload 8, 2) := by decide +kernel
theorem dX12_determinant_98 : decode cX12_determinant 98 = .ok (.iadd, 1) := by decide +kernel
theorem dX12_determinant_99 : decode cX12_determinant 99 = .ok (.aload_n 0, 1) := by decide +kernel
theorem dX12_determinant_100 : decode cX12_determinant 100 = .ok (.getfield 79, 3) := by decide +kernel
theorem dX12_determinant_103 : decode cX12_determinant 103 = .ok (.bipush 8, 2) := by decide +kernel
theorem dX12_determinant_105 : decode cX12_determinant 105 = .ok (.iload 6, 2) := by decide +kernel
theorem dX12_determinant_107 : decode cX12_determinant 107 = .ok (.imul, 1) := by decide +kernel
theorem dX12_determinant_108 : decode cX12_determinant 108 = .ok (.iload 8, 2) := by decide +kernel
theorem dX12_determinant_110 : decode cX12_determinant 110 = .ok (.iadd, 1) := by decide +kernel
theorem dX12_determinant_111 : decode cX12_determinant 111 = .ok (.laload, 1) := by decide +kernel
theorem dX12_determinant_112 : decode cX12_determinant 112 = .ok (.lastore, 1) := by decide +kernel
theorem dX12_determinant_113 : decode cX12_determinant 113 = .ok (.aload_n 0, 1) := by decide +kernel
theorem dX12_determinant_114 : decode cX12_determinant 114 = .ok (.getfield 79, 3) := by decide +kernel
theorem dX12_determinant_117 : decode cX12_determinant 117 = .ok (.bipush 8, 2) := by decide +kernel
theorem dX12_determinant_119 : decode cX12_determinant 119 = .ok (.iload 6, 2) := by decide +kernel
theorem dX12_determinant_121 : decode cX12_determinant 121 = .ok (.imul, 1) := by decide +kernel
theorem dX12_determinant_122 : decode cX12_determinant 122 = .ok (.iload 8, 2) := by decide +kernel
theorem dX12_determinant_124 : decode cX12_determinant 124 = .ok (.iadd, 1) := by decide +kernel
theorem dX12_determinant_125 : decode cX12_determinant 125 = .ok (.lload 9, 2) := by decide +kernel
theorem dX12_determinant_127 : decode cX12_determinant 127 = .ok (.lastore, 1) := by decide +kernel
theorem dX12_determinant_128 : decode cX12_determinant 128 = .ok (.iinc 8 1, 3) := by decide +kernel
theorem dX12_determinant_131 : decode cX12_determinant 131 = .ok (.goto (-72), 3) := by decide +kernel
theorem dX12_determinant_134 : decode cX12_determinant 134 = .ok (.iload 7, 2) := by decide +kernel
theorem dX12_determinant_136 : decode cX12_determinant 136 = .ok (.iload 6, 2) := by decide +kernel
theorem dX12_determinant_138 : decode cX12_determinant 138 = .ok (.if_icmp .ne 8, 3) := by decide +kernel
theorem dX12_determinant_141 : decode cX12_determinant 141 = .ok (.lload 4, 2) := by decide +kernel
theorem dX12_determinant_143 : decode cX12_determinant 143 = .ok (.goto 6, 3) := by decide +kernel
theorem dX12_determinant_146 : decode cX12_determinant 146 = .ok (.lload 4, 2) := by decide +kernel
theorem dX12_determinant_148 : decode cX12_determinant 148 = .ok (.lneg, 1) := by decide +kernel
theorem dX12_determinant_149 : decode cX12_determinant 149 = .ok (.lstore 4, 2) := by decide +kernel
theorem dX12_determinant_151 : decode cX12_determinant 151 = .ok (.iload 6, 2) := by decide +kernel
theorem dX12_determinant_153 : decode cX12_determinant 153 = .ok (.iconst 1, 1) := by decide +kernel
theorem dX12_determinant_154 : decode cX12_determinant 154 = .ok (.iadd, 1) := by decide +kernel
theorem dX12_determinant_155 : decode cX12_determinant 155 = .ok (.istore 8, 2) := by decide +kernel
theorem dX12_determinant_157 : decode cX12_determinant 157 = .ok (.iload 8, 2) := by decide +kernel
theorem dX12_determinant_159 : decode cX12_determinant 159 = .ok (.iload_n 1, 1) := by decide +kernel
theorem dX12_determinant_160 : decode cX12_determinant 160 = .ok (.if_icmp .ge 97, 3) := by decide +kernel
theorem dX12_determinant_163 : decode cX12_determinant 163 = .ok (.iload 6, 2) := by decide +kernel
theorem dX12_determinant_165 : decode cX12_determinant 165 = .ok (.iconst 1, 1) := by decide +kernel
theorem dX12_determinant_166 : decode cX12_determinant 166 = .ok (.iadd, 1) := by decide +kernel
theorem dX12_determinant_167 : decode cX12_determinant 167 = .ok (.istore 9, 2) := by decide +kernel
theorem dX12_determinant_169 : decode cX12_determinant 169 = .ok (.iload 9, 2) := by decide +kernel
theorem dX12_determinant_171 : decode cX12_determinant 171 = .ok (.iload_n 1, 1) := by decide +kernel
theorem dX12_determinant_172 : decode cX12_determinant 172 = .ok (.if_icmp .ge 79, 3) := by decide +kernel
theorem dX12_determinant_175 : decode cX12_determinant 175 = .ok (.aload_n 0, 1) := by decide +kernel
theorem dX12_determinant_176 : decode cX12_determinant 176 = .ok (.getfield 79, 3) := by decide +kernel
theorem dX12_determinant_179 : decode cX12_determinant 179 = .ok (.bipush 8, 2) := by decide +kernel
theorem dX12_determinant_181 : decode cX12_determinant 181 = .ok (.iload 8, 2) := by decide +kernel
theorem dX12_determinant_183 : decode cX12_determinant 183 = .ok (.imul, 1) := by decide +kernel
theorem dX12_determinant_184 : decode cX12_determinant 184 = .ok (.iload 9, 2) := by decide +kernel
theorem dX12_determinant_186 : decode cX12_determinant 186 = .ok (.iadd, 1) := by decide +kernel
theorem dX12_determinant_187 : decode cX12_determinant 187 = .ok (.aload_n 0, 1) := by decide +kernel
theorem dX12_determinant_188 : decode cX12_determinant 188 = .ok (.getfield 79, 3) := by decide +kernel
theorem dX12_determinant_191 : decode cX12_determinant 191 = .ok (.bipush 8, 2) := by decide +kernel
theorem dX12_determinant_193 : decode cX12_determinant 193 = .ok (.iload 8, 2) := by decide +kernel
theorem dX12_determinant_195 : decode cX12_determinant 195 = .ok (.imul, 1) := by decide +kernel
theorem dX12_determinant_196 : decode cX12_determinant 196 = .ok (.iload 9, 2) := by decide +kernel
theorem dX12_determinant_198 : decode cX12_determinant 198 = .ok (.iadd, 1) := by decide +kernel
theorem dX12_determinant_199 : decode cX12_determinant 199 = .ok (.laload, 1) := by decide +kernel
theorem dX12_determinant_200 : decode cX12_determinant 200 = .ok (.aload_n 0, 1) := by decide +kernel
theorem dX12_determinant_201 : decode cX12_determinant 201 = .ok (.getfield 79, 3) := by decide +kernel
theorem dX12_determinant_204 : decode cX12_determinant 204 = .ok (.bipush 8, 2) := by decide +kernel
theorem dX12_determinant_206 : decode cX12_determinant 206 = .ok (.iload 6, 2) := by decide +kernel
theorem dX12_determinant_208 : decode cX12_determinant 208 = .ok (.imul, 1) := by decide +kernel
theorem dX12_determinant_209 : decode cX12_determinant 209 = .ok (.iload 6, 2) := by decide +kernel
theorem dX12_determinant_211 : decode cX12_determinant 211 = .ok (.iadd, 1) := by decide +kernel
theorem dX12_determinant_212 : decode cX12_determinant 212 = .ok (.laload, 1) := by decide +kernel
theorem dX12_determinant_213 : decode cX12_determinant 213 = .ok (.lmul, 1) := by decide +kernel
theorem dX12_determinant_214 : decode cX12_determinant 214 = .ok (.aload_n 0, 1) := by decide +kernel
theorem dX12_determinant_215 : decode cX12_determinant 215 = .ok (.getfield 79, 3) := by decide +kernel
theorem dX12_determinant_218 : decode cX12_determinant 218 = .ok (.bipush 8, 2) := by decide +kernel
theorem dX12_determinant_220 : decode cX12_determinant 220 = .ok (.iload 8, 2) := by decide +kernel
theorem dX12_determinant_222 : decode cX12_determinant 222 = .ok (.imul, 1) := by decide +kernel
theorem dX12_determinant_223 : decode cX12_determinant 223 = .ok (.iload 6, 2) := by decide +kernel
theorem dX12_determinant_225 : decode cX12_determinant 225 = .ok (.iadd, 1) := by decide +kernel
theorem dX12_determinant_226 : decode cX12_determinant 226 = .ok (.laload, 1) := by decide +kernel
theorem dX12_determinant_227 : decode cX12_determinant 227 = .ok (.aload_n 0, 1) := by decide +kernel
theorem dX12_determinant_228 : decode cX12_determinant 228 = .ok (.getfield 79, 3) := by decide +kernel
theorem dX12_determinant_231 : decode cX12_determinant 231 = .ok (.bipush 8, 2) := by decide +kernel
theorem dX12_determinant_233 : decode cX12_determinant 233 = .ok (.iload 6, 2) := by decide +kernel
theorem dX12_determinant_235 : decode cX12_determinant 235 = .ok (.imul, 1) := by decide +kernel
theorem dX12_determinant_236 : decode cX12_determinant 236 = .ok (.iload 9, 2) := by decide +kernel
theorem dX12_determinant_238 : decode cX12_determinant 238 = .ok (.iadd, 1) := by decide +kernel
theorem dX12_determinant_239 : decode cX12_determinant 239 = .ok (.laload, 1) := by decide +kernel
theorem dX12_determinant_240 : decode cX12_determinant 240 = .ok (.lmul, 1) := by decide +kernel
theorem dX12_determinant_241 : decode cX12_determinant 241 = .ok (.lsub, 1) := by decide +kernel
theorem dX12_determinant_242 : decode cX12_determinant 242 = .ok (.lload_n 2, 1) := by decide +kernel
theorem dX12_determinant_243 : decode cX12_determinant 243 = .ok (.ldiv, 1) := by decide +kernel
theorem dX12_determinant_244 : decode cX12_determinant 244 = .ok (.lastore, 1) := by decide +kernel
theorem dX12_determinant_245 : decode cX12_determinant 245 = .ok (.iinc 9 1, 3) := by decide +kernel
theorem dX12_determinant_248 : decode cX12_determinant 248 = .ok (.goto (-79), 3) := by decide +kernel
theorem dX12_determinant_251 : decode cX12_determinant 251 = .ok (.iinc 8 1, 3) := by decide +kernel
theorem dX12_determinant_254 : decode cX12_determinant 254 = .ok (.goto (-97), 3) := by decide +kernel
theorem dX12_determinant_257 : decode cX12_determinant 257 = .ok (.aload_n 0, 1) := by decide +kernel
theorem dX12_determinant_258 : decode cX12_determinant 258 = .ok (.getfield 79, 3) := by decide +kernel
theorem dX12_determinant_261 : decode cX12_determinant 261 = .ok (.bipush 8, 2) := by decide +kernel
theorem dX12_determinant_263 : decode cX12_determinant 263 = .ok (.iload 6, 2) := by decide +kernel
theorem dX12_determinant_265 : decode cX12_determinant 265 = .ok (.imul, 1) := by decide +kernel
theorem dX12_determinant_266 : decode cX12_determinant 266 = .ok (.iload 6, 2) := by decide +kernel
theorem dX12_determinant_268 : decode cX12_determinant 268 = .ok (.iadd, 1) := by decide +kernel
theorem dX12_determinant_269 : decode cX12_determinant 269 = .ok (.laload, 1) := by decide +kernel
theorem dX12_determinant_270 : decode cX12_determinant 270 = .ok (.lstore_n 2, 1) := by decide +kernel
theorem dX12_determinant_271 : decode cX12_determinant 271 = .ok (.iinc 6 1, 3) := by decide +kernel
theorem dX12_determinant_274 : decode cX12_determinant 274 = .ok (.goto (-266), 3) := by decide +kernel
theorem dX12_determinant_277 : decode cX12_determinant 277 = .ok (.lload 4, 2) := by decide +kernel
theorem dX12_determinant_279 : decode cX12_determinant 279 = .ok (.lload_n 2, 1) := by decide +kernel
theorem dX12_determinant_280 : decode cX12_determinant 280 = .ok (.lmul, 1) := by decide +kernel
theorem dX12_determinant_281 : decode cX12_determinant 281 = .ok (.lreturn, 1) := by decide +kernel
theorem dX12_common_0 : decode cX12_common 0 = .ok (.lload_n 0, 1) := by decide +kernel
theorem dX12_common_1 : decode cX12_common 1 = .ok (.lconst 0, 1) := by decide +kernel
theorem dX12_common_2 : decode cX12_common 2 = .ok (.lcmp, 1) := by decide +kernel
theorem dX12_common_3 : decode cX12_common 3 = .ok (.ifCond .ge 8, 3) := by decide +kernel
theorem dX12_common_6 : decode cX12_common 6 = .ok (.lload_n 0, 1) := by decide +kernel
theorem dX12_common_7 : decode cX12_common 7 = .ok (.lneg, 1) := by decide +kernel
theorem dX12_common_8 : decode cX12_common 8 = .ok (.goto 4, 3) := by decide +kernel
theorem dX12_common_11 : decode cX12_common 11 = .ok (.lload_n 0, 1) := by decide +kernel
theorem dX12_common_12 : decode cX12_common 12 = .ok (.lstore 4, 2) := by decide +kernel
theorem dX12_common_14 : decode cX12_common 14 = .ok (.lload_n 2, 1) := by decide +kernel
theorem dX12_common_15 : decode cX12_common 15 = .ok (.lconst 0, 1) := by decide +kernel
theorem dX12_common_16 : decode cX12_common 16 = .ok (.lcmp, 1) := by decide +kernel
theorem dX12_common_17 : decode cX12_common 17 = .ok (.ifCond .ge 8, 3) := by decide +kernel
theorem dX12_common_20 : decode cX12_common 20 = .ok (.lload_n 2, 1) := by decide +kernel
theorem dX12_common_21 : decode cX12_common 21 = .ok (.lneg, 1) := by decide +kernel
theorem dX12_common_22 : decode cX12_common 22 = .ok (.goto 4, 3) := by decide +kernel
theorem dX12_common_25 : decode cX12_common 25 = .ok (.lload_n 2, 1) := by decide +kernel
theorem dX12_common_26 : decode cX12_common 26 = .ok (.lstore 6, 2) := by decide +kernel
theorem dX12_common_28 : decode cX12_common 28 = .ok (.lload 6, 2) := by decide +kernel
theorem dX12_common_30 : decode cX12_common 30 = .ok (.lconst 0, 1) := by decide +kernel
theorem dX12_common_31 : decode cX12_common 31 = .ok (.lcmp, 1) := by decide +kernel
theorem dX12_common_32 : decode cX12_common 32 = .ok (.ifCond .eq 21, 3) := by decide +kernel
theorem dX12_common_35 : decode cX12_common 35 = .ok (.lload 4, 2) := by decide +kernel
theorem dX12_common_37 : decode cX12_common 37 = .ok (.lload 6, 2) := by decide +kernel
theorem dX12_common_39 : decode cX12_common 39 = .ok (.lrem, 1) := by decide +kernel
theorem dX12_common_40 : decode cX12_common 40 = .ok (.lstore 8, 2) := by decide +kernel
theorem dX12_common_42 : decode cX12_common 42 = .ok (.lload 6, 2) := by decide +kernel
theorem dX12_common_44 : decode cX12_common 44 = .ok (.lstore 4, 2) := by decide +kernel
theorem dX12_common_46 : decode cX12_common 46 = .ok (.lload 8, 2) := by decide +kernel
theorem dX12_common_48 : decode cX12_common 48 = .ok (.lstore 6, 2) := by decide +kernel
theorem dX12_common_50 : decode cX12_common 50 = .ok (.goto (-22), 3) := by decide +kernel
theorem dX12_common_53 : decode cX12_common 53 = .ok (.lload 4, 2) := by decide +kernel
theorem dX12_common_55 : decode cX12_common 55 = .ok (.lreturn, 1) := by decide +kernel
theorem dX12_flows_0 : decode cX12_flows 0 = .ok (.aload_n 0, 1) := by decide +kernel
theorem dX12_flows_1 : decode cX12_flows 1 = .ok (.getfield 61, 3) := by decide +kernel
theorem dX12_flows_4 : decode cX12_flows 4 = .ok (.iload_n 1, 1) := by decide +kernel
theorem dX12_flows_5 : decode cX12_flows 5 = .ok (.aload_n 0, 1) := by decide +kernel
theorem dX12_flows_6 : decode cX12_flows 6 = .ok (.aload_n 0, 1) := by decide +kernel
theorem dX12_flows_7 : decode cX12_flows 7 = .ok (.iload_n 1, 1) := by decide +kernel
theorem dX12_flows_8 : decode cX12_flows 8 = .ok (.iconst (-1), 1) := by decide +kernel
theorem dX12_flows_9 : decode cX12_flows 9 = .ok (.iconst (-1), 1) := by decide +kernel
theorem dX12_flows_10 : decode cX12_flows 10 = .ok (.invokevirtual 252, 3) := by decide +kernel
theorem dX12_flows_13 : decode cX12_flows 13 = .ok (.invokevirtual 256, 3) := by decide +kernel
theorem dX12_flows_16 : decode cX12_flows 16 = .ok (.lastore, 1) := by decide +kernel
theorem dX12_flows_17 : decode cX12_flows 17 = .ok (.iconst 0, 1) := by decide +kernel
theorem dX12_flows_18 : decode cX12_flows 18 = .ok (.istore_n 2, 1) := by decide +kernel
theorem dX12_flows_19 : decode cX12_flows 19 = .ok (.iload_n 2, 1) := by decide +kernel
theorem dX12_flows_20 : decode cX12_flows 20 = .ok (.bipush 9, 2) := by decide +kernel
theorem dX12_flows_22 : decode cX12_flows 22 = .ok (.if_icmp .ge 21, 3) := by decide +kernel
theorem dX12_flows_25 : decode cX12_flows 25 = .ok (.aload_n 0, 1) := by decide +kernel
theorem dX12_flows_26 : decode cX12_flows 26 = .ok (.getfield 64, 3) := by decide +kernel
theorem dX12_flows_29 : decode cX12_flows 29 = .ok (.bipush 9, 2) := by decide +kernel
theorem dX12_flows_31 : decode cX12_flows 31 = .ok (.iload_n 1, 1) := by decide +kernel
theorem dX12_flows_32 : decode cX12_flows 32 = .ok (.imul, 1) := by decide +kernel
theorem dX12_flows_33 : decode cX12_flows 33 = .ok (.iload_n 2, 1) := by decide +kernel
theorem dX12_flows_34 : decode cX12_flows 34 = .ok (.iadd, 1) := by decide +kernel
theorem dX12_flows_35 : decode cX12_flows 35 = .ok (.lconst 0, 1) := by decide +kernel
theorem dX12_flows_36 : decode cX12_flows 36 = .ok (.lastore, 1) := by decide +kernel
theorem dX12_flows_37 : decode cX12_flows 37 = .ok (.iinc 2 1, 3) := by decide +kernel
theorem dX12_flows_40 : decode cX12_flows 40 = .ok (.goto (-21), 3) := by decide +kernel
theorem dX12_flows_43 : decode cX12_flows 43 = .ok (.iconst 0, 1) := by decide +kernel
theorem dX12_flows_44 : decode cX12_flows 44 = .ok (.istore_n 2, 1) := by decide +kernel
theorem dX12_flows_45 : decode cX12_flows 45 = .ok (.iload_n 2, 1) := by decide +kernel
theorem dX12_flows_46 : decode cX12_flows 46 = .ok (.bipush 14, 2) := by decide +kernel
theorem dX12_flows_48 : decode cX12_flows 48 = .ok (.if_icmp .ge 21, 3) := by decide +kernel
theorem dX12_flows_51 : decode cX12_flows 51 = .ok (.aload_n 0, 1) := by decide +kernel
theorem dX12_flows_52 : decode cX12_flows 52 = .ok (.getfield 67, 3) := by decide +kernel
theorem dX12_flows_55 : decode cX12_flows 55 = .ok (.bipush 14, 2) := by decide +kernel
theorem dX12_flows_57 : decode cX12_flows 57 = .ok (.iload_n 1, 1) := by decide +kernel
theorem dX12_flows_58 : decode cX12_flows 58 = .ok (.imul, 1) := by decide +kernel
theorem dX12_flows_59 : decode cX12_flows 59 = .ok (.iload_n 2, 1) := by decide +kernel
theorem dX12_flows_60 : decode cX12_flows 60 = .ok (.iadd, 1) := by decide +kernel
theorem dX12_flows_61 : decode cX12_flows 61 = .ok (.lconst 0, 1) := by decide +kernel
theorem dX12_flows_62 : decode cX12_flows 62 = .ok (.lastore, 1) := by decide +kernel
theorem dX12_flows_63 : decode cX12_flows 63 = .ok (.iinc 2 1, 3) := by decide +kernel
theorem dX12_flows_66 : decode cX12_flows 66 = .ok (.goto (-21), 3) := by decide +kernel
theorem dX12_flows_69 : decode cX12_flows 69 = .ok (.aload_n 0, 1) := by decide +kernel
theorem dX12_flows_70 : decode cX12_flows 70 = .ok (.getfield 61, 3) := by decide +kernel
theorem dX12_flows_73 : decode cX12_flows 73 = .ok (.iload_n 1, 1) := by decide +kernel
theorem dX12_flows_74 : decode cX12_flows 74 = .ok (.laload, 1) := by decide +kernel
theorem dX12_flows_75 : decode cX12_flows 75 = .ok (.lconst 0, 1) := by decide +kernel
theorem dX12_flows_76 : decode cX12_flows 76 = .ok (.lcmp, 1) := by decide +kernel
theorem dX12_flows_77 : decode cX12_flows 77 = .ok (.ifCond .ne 4, 3) := by decide +kernel
theorem dX12_flows_80 : decode cX12_flows 80 = .ok (.return_, 1) := by decide +kernel
theorem dX12_flows_81 : decode cX12_flows 81 = .ok (.iconst 0, 1) := by decide +kernel
theorem dX12_flows_82 : decode cX12_flows 82 = .ok (.istore_n 2, 1) := by decide +kernel
theorem dX12_flows_83 : decode cX12_flows 83 = .ok (.iload_n 2, 1) := by decide +kernel
theorem dX12_flows_84 : decode cX12_flows 84 = .ok (.aload_n 0, 1) := by decide +kernel
theorem dX12_flows_85 : decode cX12_flows 85 = .ok (.getfield 46, 3) := by decide +kernel
theorem dX12_flows_88 : decode cX12_flows 88 = .ok (.iload_n 1, 1) := by decide +kernel
theorem dX12_flows_89 : decode cX12_flows 89 = .ok (.iaload, 1) := by decide +kernel
theorem dX12_flows_90 : decode cX12_flows 90 = .ok (.iconst 1, 1) := by decide +kernel
theorem dX12_flows_91 : decode cX12_flows 91 = .ok (.isub, 1) := by decide +kernel
theorem dX12_flows_92 : decode cX12_flows 92 = .ok (.if_icmp .ge 44, 3) := by decide +kernel
theorem dX12_flows_95 : decode cX12_flows 95 = .ok (.aload_n 0, 1) := by decide +kernel
theorem dX12_flows_96 : decode cX12_flows 96 = .ok (.aload_n 0, 1) := by decide +kernel
theorem dX12_flows_97 : decode cX12_flows 97 = .ok (.iload_n 1, 1) := by decide +kernel
theorem dX12_flows_98 : decode cX12_flows 98 = .ok (.iconst 0, 1) := by decide +kernel
theorem dX12_flows_99 : decode cX12_flows 99 = .ok (.iload_n 2, 1) := by decide +kernel
theorem dX12_flows_100 : decode cX12_flows 100 = .ok (.invokevirtual 252, 3) := by decide +kernel
theorem dX12_flows_103 : decode cX12_flows 103 = .ok (.invokevirtual 256, 3) := by decide +kernel
theorem dX12_flows_106 : decode cX12_flows 106 = .ok (.lstore_n 3, 1) := by decide +kernel
theorem dX12_flows_107 : decode cX12_flows 107 = .ok (.aload_n 0, 1) := by decide +kernel
theorem dX12_flows_108 : decode cX12_flows 108 = .ok (.getfield 64, 3) := by decide +kernel
theorem dX12_flows_111 : decode cX12_flows 111 = .ok (.bipush 9, 2) := by decide +kernel
theorem dX12_flows_113 : decode cX12_flows 113 = .ok (.iload_n 1, 1) := by decide +kernel
theorem dX12_flows_114 : decode cX12_flows 114 = .ok (.imul, 1) := by decide +kernel
theorem dX12_flows_115 : decode cX12_flows 115 = .ok (.iload_n 2, 1) := by decide +kernel
theorem dX12_flows_116 : decode cX12_flows 116 = .ok (.iadd, 1) := by decide +kernel
theorem dX12_flows_117 : decode cX12_flows 117 = .ok (.iload_n 2, 1) := by decide +kernel
theorem dX12_flows_118 : decode cX12_flows 118 = .ok (.iconst 2, 1) := by decide +kernel
theorem dX12_flows_119 : decode cX12_flows 119 = .ok (.irem, 1) := by decide +kernel
theorem dX12_flows_120 : decode cX12_flows 120 = .ok (.ifCond .ne 7, 3) := by decide +kernel
theorem dX12_flows_123 : decode cX12_flows 123 = .ok (.lload_n 3, 1) := by decide +kernel
theorem dX12_flows_124 : decode cX12_flows 124 = .ok (.goto 5, 3) := by decide +kernel
theorem dX12_flows_127 : decode cX12_flows 127 = .ok (.lload_n 3, 1) := by decide +kernel
theorem dX12_flows_128 : decode cX12_flows 128 = .ok (.lneg, 1) := by decide +kernel
theorem dX12_flows_129 : decode cX12_flows 129 = .ok (.lastore, 1) := by decide +kernel
theorem dX12_flows_130 : decode cX12_flows 130 = .ok (.iinc 2 1, 3) := by decide +kernel
theorem dX12_flows_133 : decode cX12_flows 133 = .ok (.goto (-50), 3) := by decide +kernel
theorem dX12_flows_136 : decode cX12_flows 136 = .ok (.lconst 0, 1) := by decide +kernel
theorem dX12_flows_137 : decode cX12_flows 137 = .ok (.lstore_n 2, 1) := by decide +kernel
theorem dX12_flows_138 : decode cX12_flows 138 = .ok (.iconst 0, 1) := by decide +kernel
theorem dX12_flows_139 : decode cX12_flows 139 = .ok (.istore 4, 2) := by decide +kernel
theorem dX12_flows_141 : decode cX12_flows 141 = .ok (.iload 4, 2) := by decide +kernel
theorem dX12_flows_143 : decode cX12_flows 143 = .ok (.aload_n 0, 1) := by decide +kernel
theorem dX12_flows_144 : decode cX12_flows 144 = .ok (.getfield 49, 3) := by decide +kernel
theorem dX12_flows_147 : decode cX12_flows 147 = .ok (.iload_n 1, 1) := by decide +kernel
theorem dX12_flows_148 : decode cX12_flows 148 = .ok (.iaload, 1) := by decide +kernel
theorem dX12_flows_149 : decode cX12_flows 149 = .ok (.if_icmp .ge 89, 3) := by decide +kernel
theorem dX12_flows_152 : decode cX12_flows 152 = .ok (.aload_n 0, 1) := by decide +kernel
theorem dX12_flows_153 : decode cX12_flows 153 = .ok (.getfield 67, 3) := by decide +kernel
theorem dX12_flows_156 : decode cX12_flows 156 = .ok (.bipush 14, 2) := by decide +kernel
theorem dX12_flows_158 : decode cX12_flows 158 = .ok (.iload_n 1, 1) := by decide +kernel
theorem dX12_flows_159 : decode cX12_flows 159 = .ok (.imul, 1) := by decide +kernel
theorem dX12_flows_160 : decode cX12_flows 160 = .ok (.iload 4, 2) := by decide +kernel
theorem dX12_flows_162 : decode cX12_flows 162 = .ok (.iadd, 1) := by decide +kernel
theorem dX12_flows_163 : decode cX12_flows 163 = .ok (.aload_n 0, 1) := by decide +kernel
theorem dX12_flows_164 : decode cX12_flows 164 = .ok (.getfield 64, 3) := by decide +kernel
theorem dX12_flows_167 : decode cX12_flows 167 = .ok (.bipush 9, 2) := by decide +kernel
theorem dX12_flows_169 : decode cX12_flows 169 = .ok (.iload_n 1, 1) := by decide +kernel
theorem dX12_flows_170 : decode cX12_flows 170 = .ok (.imul, 1) := by decide +kernel
theorem dX12_flows_171 : decode cX12_flows 171 = .ok (.aload_n 0, 1) := by decide +kernel
theorem dX12_flows_172 : decode cX12_flows 172 = .ok (.getfield 52, 3) := by decide +kernel
theorem dX12_flows_175 : decode cX12_flows 175 = .ok (.bipush 28, 2) := by decide +kernel
theorem dX12_flows_177 : decode cX12_flows 177 = .ok (.iload_n 1, 1) := by decide +kernel
theorem dX12_flows_178 : decode cX12_flows 178 = .ok (.imul, 1) := by decide +kernel
theorem dX12_flows_179 : decode cX12_flows 179 = .ok (.iconst 2, 1) := by decide +kernel
theorem dX12_flows_180 : decode cX12_flows 180 = .ok (.iload 4, 2) := by decide +kernel
theorem dX12_flows_182 : decode cX12_flows 182 = .ok (.imul, 1) := by decide +kernel
theorem dX12_flows_183 : decode cX12_flows 183 = .ok (.iadd, 1) := by decide +kernel
theorem dX12_flows_184 : decode cX12_flows 184 = .ok (.iaload, 1) := by decide +kernel
theorem dX12_flows_185 : decode cX12_flows 185 = .ok (.iadd, 1) := by decide +kernel
theorem dX12_flows_186 : decode cX12_flows 186 = .ok (.laload, 1) := by decide +kernel
theorem dX12_flows_187 : decode cX12_flows 187 = .ok (.aload_n 0, 1) := by decide +kernel
theorem dX12_flows_188 : decode cX12_flows 188 = .ok (.getfield 64, 3) := by decide +kernel
theorem dX12_flows_191 : decode cX12_flows 191 = .ok (.bipush 9, 2) := by decide +kernel
theorem dX12_flows_193 : decode cX12_flows 193 = .ok (.iload_n 1, 1) := by decide +kernel
theorem dX12_flows_194 : decode cX12_flows 194 = .ok (.imul, 1) := by decide +kernel
theorem dX12_flows_195 : decode cX12_flows 195 = .ok (.aload_n 0, 1) := by decide +kernel
theorem dX12_flows_196 : decode cX12_flows 196 = .ok (.getfield 52, 3) := by decide +kernel
theorem dX12_flows_199 : decode cX12_flows 199 = .ok (.bipush 28, 2) := by decide +kernel
theorem dX12_flows_201 : decode cX12_flows 201 = .ok (.iload_n 1, 1) := by decide +kernel
theorem dX12_flows_202 : decode cX12_flows 202 = .ok (.imul, 1) := by decide +kernel
theorem dX12_flows_203 : decode cX12_flows 203 = .ok (.iconst 2, 1) := by decide +kernel
theorem dX12_flows_204 : decode cX12_flows 204 = .ok (.iload 4, 2) := by decide +kernel
theorem dX12_flows_206 : decode cX12_flows 206 = .ok (.imul, 1) := by decide +kernel
theorem dX12_flows_207 : decode cX12_flows 207 = .ok (.iadd, 1) := by decide +kernel
theorem dX12_flows_208 : decode cX12_flows 208 = .ok (.iconst 1, 1) := by decide +kernel
theorem dX12_flows_209 : decode cX12_flows 209 = .ok (.iadd, 1) := by decide +kernel
theorem dX12_flows_210 : decode cX12_flows 210 = .ok (.iaload, 1) := by decide +kernel
theorem dX12_flows_211 : decode cX12_flows 211 = .ok (.iadd, 1) := by decide +kernel
theorem dX12_flows_212 : decode cX12_flows 212 = .ok (.laload, 1) := by decide +kernel
theorem dX12_flows_213 : decode cX12_flows 213 = .ok (.lsub, 1) := by decide +kernel
theorem dX12_flows_214 : decode cX12_flows 214 = .ok (.lastore, 1) := by decide +kernel
theorem dX12_flows_215 : decode cX12_flows 215 = .ok (.lload_n 2, 1) := by decide +kernel
theorem dX12_flows_216 : decode cX12_flows 216 = .ok (.aload_n 0, 1) := by decide +kernel
theorem dX12_flows_217 : decode cX12_flows 217 = .ok (.getfield 67, 3) := by decide +kernel
theorem dX12_flows_220 : decode cX12_flows 220 = .ok (.bipush 14, 2) := by decide +kernel
theorem dX12_flows_222 : decode cX12_flows 222 = .ok (.iload_n 1, 1) := by decide +kernel
theorem dX12_flows_223 : decode cX12_flows 223 = .ok (.imul, 1) := by decide +kernel
theorem dX12_flows_224 : decode cX12_flows 224 = .ok (.iload 4, 2) := by decide +kernel
theorem dX12_flows_226 : decode cX12_flows 226 = .ok (.iadd, 1) := by decide +kernel
theorem dX12_flows_227 : decode cX12_flows 227 = .ok (.laload, 1) := by decide +kernel
theorem dX12_flows_228 : decode cX12_flows 228 = .ok (.invokestatic 260, 3) := by decide +kernel
theorem dX12_flows_231 : decode cX12_flows 231 = .ok (.lstore_n 2, 1) := by decide +kernel
theorem dX12_flows_232 : decode cX12_flows 232 = .ok (.iinc 4 1, 3) := by decide +kernel
theorem dX12_flows_235 : decode cX12_flows 235 = .ok (.goto (-94), 3) := by decide +kernel
theorem dX12_flows_238 : decode cX12_flows 238 = .ok (.iconst 0, 1) := by decide +kernel
theorem dX12_flows_239 : decode cX12_flows 239 = .ok (.istore 4, 2) := by decide +kernel
theorem dX12_flows_241 : decode cX12_flows 241 = .ok (.iload 4, 2) := by decide +kernel
theorem dX12_flows_243 : decode cX12_flows 243 = .ok (.aload_n 0, 1) := by decide +kernel
theorem dX12_flows_244 : decode cX12_flows 244 = .ok (.getfield 49, 3) := by decide +kernel
theorem dX12_flows_247 : decode cX12_flows 247 = .ok (.iload_n 1, 1) := by decide +kernel
theorem dX12_flows_248 : decode cX12_flows 248 = .ok (.iaload, 1) := by decide +kernel
theorem dX12_flows_249 : decode cX12_flows 249 = .ok (.if_icmp .ge 25, 3) := by decide +kernel
theorem dX12_flows_252 : decode cX12_flows 252 = .ok (.aload_n 0, 1) := by decide +kernel
theorem dX12_flows_253 : decode cX12_flows 253 = .ok (.getfield 67, 3) := by decide +kernel
theorem dX12_flows_256 : decode cX12_flows 256 = .ok (.bipush 14, 2) := by decide +kernel
theorem dX12_flows_258 : decode cX12_flows 258 = .ok (.iload_n 1, 1) := by decide +kernel
theorem dX12_flows_259 : decode cX12_flows 259 = .ok (.imul, 1) := by decide +kernel
theorem dX12_flows_260 : decode cX12_flows 260 = .ok (.iload 4, 2) := by decide +kernel
theorem dX12_flows_262 : decode cX12_flows 262 = .ok (.iadd, 1) := by decide +kernel
theorem dX12_flows_263 : decode cX12_flows 263 = .ok (.dup2, 1) := by decide +kernel
theorem dX12_flows_264 : decode cX12_flows 264 = .ok (.laload, 1) := by decide +kernel
theorem dX12_flows_265 : decode cX12_flows 265 = .ok (.lload_n 2, 1) := by decide +kernel
theorem dX12_flows_266 : decode cX12_flows 266 = .ok (.ldiv, 1) := by decide +kernel
theorem dX12_flows_267 : decode cX12_flows 267 = .ok (.lastore, 1) := by decide +kernel
theorem dX12_flows_268 : decode cX12_flows 268 = .ok (.iinc 4 1, 3) := by decide +kernel
theorem dX12_flows_271 : decode cX12_flows 271 = .ok (.goto (-30), 3) := by decide +kernel
theorem dX12_flows_274 : decode cX12_flows 274 = .ok (.iconst 0, 1) := by decide +kernel
theorem dX12_flows_275 : decode cX12_flows 275 = .ok (.istore 4, 2) := by decide +kernel
theorem dX12_flows_277 : decode cX12_flows 277 = .ok (.iload 4, 2) := by decide +kernel
theorem dX12_flows_279 : decode cX12_flows 279 = .ok (.aload_n 0, 1) := by decide +kernel
theorem dX12_flows_280 : decode cX12_flows 280 = .ok (.getfield 46, 3) := by decide +kernel
theorem dX12_flows_283 : decode cX12_flows 283 = .ok (.iload_n 1, 1) := by decide +kernel
theorem dX12_flows_284 : decode cX12_flows 284 = .ok (.iaload, 1) := by decide +kernel
theorem dX12_flows_285 : decode cX12_flows 285 = .ok (.if_icmp .ge 25, 3) := by decide +kernel
theorem dX12_flows_288 : decode cX12_flows 288 = .ok (.aload_n 0, 1) := by decide +kernel
theorem dX12_flows_289 : decode cX12_flows 289 = .ok (.getfield 64, 3) := by decide +kernel
theorem dX12_flows_292 : decode cX12_flows 292 = .ok (.bipush 9, 2) := by decide +kernel
theorem dX12_flows_294 : decode cX12_flows 294 = .ok (.iload_n 1, 1) := by decide +kernel
theorem dX12_flows_295 : decode cX12_flows 295 = .ok (.imul, 1) := by decide +kernel
theorem dX12_flows_296 : decode cX12_flows 296 = .ok (.iload 4, 2) := by decide +kernel
theorem dX12_flows_298 : decode cX12_flows 298 = .ok (.iadd, 1) := by decide +kernel
theorem dX12_flows_299 : decode cX12_flows 299 = .ok (.dup2, 1) := by decide +kernel
theorem dX12_flows_300 : decode cX12_flows 300 = .ok (.laload, 1) := by decide +kernel
theorem dX12_flows_301 : decode cX12_flows 301 = .ok (.lload_n 2, 1) := by decide +kernel
theorem dX12_flows_302 : decode cX12_flows 302 = .ok (.ldiv, 1) := by decide +kernel
theorem dX12_flows_303 : decode cX12_flows 303 = .ok (.lastore, 1) := by decide +kernel
theorem dX12_flows_304 : decode cX12_flows 304 = .ok (.iinc 4 1, 3) := by decide +kernel
theorem dX12_flows_307 : decode cX12_flows 307 = .ok (.goto (-30), 3) := by decide +kernel
theorem dX12_flows_310 : decode cX12_flows 310 = .ok (.aload_n 0, 1) := by decide +kernel
theorem dX12_flows_311 : decode cX12_flows 311 = .ok (.aload_n 0, 1) := by decide +kernel
theorem dX12_flows_312 : decode cX12_flows 312 = .ok (.getfield 61, 3) := by decide +kernel
theorem dX12_flows_315 : decode cX12_flows 315 = .ok (.iload_n 1, 1) := by decide +kernel
theorem dX12_flows_316 : decode cX12_flows 316 = .ok (.laload, 1) := by decide +kernel
theorem dX12_flows_317 : decode cX12_flows 317 = .ok (.lload_n 2, 1) := by decide +kernel
theorem dX12_flows_318 : decode cX12_flows 318 = .ok (.ldiv, 1) := by decide +kernel
theorem dX12_flows_319 : decode cX12_flows 319 = .ok (.l2i, 1) := by decide +kernel
theorem dX12_flows_320 : decode cX12_flows 320 = .ok (.invokevirtual 232, 3) := by decide +kernel
theorem dX12_flows_323 : decode cX12_flows 323 = .ok (.return_, 1) := by decide +kernel
theorem dX12_topOf_0 : decode cX12_topOf 0 = .ok (.aload_n 0, 1) := by decide +kernel
theorem dX12_topOf_1 : decode cX12_topOf 1 = .ok (.getfield 64, 3) := by decide +kernel
theorem dX12_topOf_4 : decode cX12_topOf 4 = .ok (.bipush 9, 2) := by decide +kernel
theorem dX12_topOf_6 : decode cX12_topOf 6 = .ok (.iload_n 1, 1) := by decide +kernel
theorem dX12_topOf_7 : decode cX12_topOf 7 = .ok (.imul, 1) := by decide +kernel
theorem dX12_topOf_8 : decode cX12_topOf 8 = .ok (.aload_n 0, 1) := by decide +kernel
theorem dX12_topOf_9 : decode cX12_topOf 9 = .ok (.getfield 52, 3) := by decide +kernel
theorem dX12_topOf_12 : decode cX12_topOf 12 = .ok (.bipush 28, 2) := by decide +kernel
theorem dX12_topOf_14 : decode cX12_topOf 14 = .ok (.iload_n 1, 1) := by decide +kernel
theorem dX12_topOf_15 : decode cX12_topOf 15 = .ok (.imul, 1) := by decide +kernel
theorem dX12_topOf_16 : decode cX12_topOf 16 = .ok (.iconst 2, 1) := by decide +kernel
theorem dX12_topOf_17 : decode cX12_topOf 17 = .ok (.iload_n 2, 1) := by decide +kernel
theorem dX12_topOf_18 : decode cX12_topOf 18 = .ok (.imul, 1) := by decide +kernel
theorem dX12_topOf_19 : decode cX12_topOf 19 = .ok (.iadd, 1) := by decide +kernel
theorem dX12_topOf_20 : decode cX12_topOf 20 = .ok (.iaload, 1) := by decide +kernel
theorem dX12_topOf_21 : decode cX12_topOf 21 = .ok (.iadd, 1) := by decide +kernel
theorem dX12_topOf_22 : decode cX12_topOf 22 = .ok (.laload, 1) := by decide +kernel
theorem dX12_topOf_23 : decode cX12_topOf 23 = .ok (.lstore_n 3, 1) := by decide +kernel
theorem dX12_topOf_24 : decode cX12_topOf 24 = .ok (.aload_n 0, 1) := by decide +kernel
theorem dX12_topOf_25 : decode cX12_topOf 25 = .ok (.getfield 64, 3) := by decide +kernel
theorem dX12_topOf_28 : decode cX12_topOf 28 = .ok (.bipush 9, 2) := by decide +kernel
theorem dX12_topOf_30 : decode cX12_topOf 30 = .ok (.iload_n 1, 1) := by decide +kernel
theorem dX12_topOf_31 : decode cX12_topOf 31 = .ok (.imul, 1) := by decide +kernel
theorem dX12_topOf_32 : decode cX12_topOf 32 = .ok (.aload_n 0, 1) := by decide +kernel
theorem dX12_topOf_33 : decode cX12_topOf 33 = .ok (.getfield 52, 3) := by decide +kernel
theorem dX12_topOf_36 : decode cX12_topOf 36 = .ok (.bipush 28, 2) := by decide +kernel
theorem dX12_topOf_38 : decode cX12_topOf 38 = .ok (.iload_n 1, 1) := by decide +kernel
theorem dX12_topOf_39 : decode cX12_topOf 39 = .ok (.imul, 1) := by decide +kernel
theorem dX12_topOf_40 : decode cX12_topOf 40 = .ok (.iconst 2, 1) := by decide +kernel
theorem dX12_topOf_41 : decode cX12_topOf 41 = .ok (.iload_n 2, 1) := by decide +kernel
theorem dX12_topOf_42 : decode cX12_topOf 42 = .ok (.imul, 1) := by decide +kernel
theorem dX12_topOf_43 : decode cX12_topOf 43 = .ok (.iadd, 1) := by decide +kernel
theorem dX12_topOf_44 : decode cX12_topOf 44 = .ok (.iconst 1, 1) := by decide +kernel
theorem dX12_topOf_45 : decode cX12_topOf 45 = .ok (.iadd, 1) := by decide +kernel
theorem dX12_topOf_46 : decode cX12_topOf 46 = .ok (.iaload, 1) := by decide +kernel
theorem dX12_topOf_47 : decode cX12_topOf 47 = .ok (.iadd, 1) := by decide +kernel
theorem dX12_topOf_48 : decode cX12_topOf 48 = .ok (.laload, 1) := by decide +kernel
theorem dX12_topOf_49 : decode cX12_topOf 49 = .ok (.lstore 5, 2) := by decide +kernel
theorem dX12_topOf_51 : decode cX12_topOf 51 = .ok (.lload_n 3, 1) := by decide +kernel
theorem dX12_topOf_52 : decode cX12_topOf 52 = .ok (.lload 5, 2) := by decide +kernel
theorem dX12_topOf_54 : decode cX12_topOf 54 = .ok (.lcmp, 1) := by decide +kernel
theorem dX12_topOf_55 : decode cX12_topOf 55 = .ok (.ifCond .le 7, 3) := by decide +kernel
theorem dX12_topOf_58 : decode cX12_topOf 58 = .ok (.lload_n 3, 1) := by decide +kernel
theorem dX12_topOf_59 : decode cX12_topOf 59 = .ok (.goto 5, 3) := by decide +kernel
theorem dX12_topOf_62 : decode cX12_topOf 62 = .ok (.lload 5, 2) := by decide +kernel
theorem dX12_topOf_64 : decode cX12_topOf 64 = .ok (.lreturn, 1) := by decide +kernel
theorem dX12_sizeOf_0 : decode cX12_sizeOf 0 = .ok (.aload_n 0, 1) := by decide +kernel
theorem dX12_sizeOf_1 : decode cX12_sizeOf 1 = .ok (.getfield 67, 3) := by decide +kernel
theorem dX12_sizeOf_4 : decode cX12_sizeOf 4 = .ok (.bipush 14, 2) := by decide +kernel
theorem dX12_sizeOf_6 : decode cX12_sizeOf 6 = .ok (.iload_n 1, 1) := by decide +kernel
theorem dX12_sizeOf_7 : decode cX12_sizeOf 7 = .ok (.imul, 1) := by decide +kernel
theorem dX12_sizeOf_8 : decode cX12_sizeOf 8 = .ok (.iload_n 2, 1) := by decide +kernel
theorem dX12_sizeOf_9 : decode cX12_sizeOf 9 = .ok (.iadd, 1) := by decide +kernel
theorem dX12_sizeOf_10 : decode cX12_sizeOf 10 = .ok (.laload, 1) := by decide +kernel
theorem dX12_sizeOf_11 : decode cX12_sizeOf 11 = .ok (.lconst 0, 1) := by decide +kernel
theorem dX12_sizeOf_12 : decode cX12_sizeOf 12 = .ok (.lcmp, 1) := by decide +kernel
theorem dX12_sizeOf_13 : decode cX12_sizeOf 13 = .ok (.ifCond .ge 18, 3) := by decide +kernel
theorem dX12_sizeOf_16 : decode cX12_sizeOf 16 = .ok (.aload_n 0, 1) := by decide +kernel
theorem dX12_sizeOf_17 : decode cX12_sizeOf 17 = .ok (.getfield 67, 3) := by decide +kernel
theorem dX12_sizeOf_20 : decode cX12_sizeOf 20 = .ok (.bipush 14, 2) := by decide +kernel
theorem dX12_sizeOf_22 : decode cX12_sizeOf 22 = .ok (.iload_n 1, 1) := by decide +kernel
theorem dX12_sizeOf_23 : decode cX12_sizeOf 23 = .ok (.imul, 1) := by decide +kernel
theorem dX12_sizeOf_24 : decode cX12_sizeOf 24 = .ok (.iload_n 2, 1) := by decide +kernel
theorem dX12_sizeOf_25 : decode cX12_sizeOf 25 = .ok (.iadd, 1) := by decide +kernel
theorem dX12_sizeOf_26 : decode cX12_sizeOf 26 = .ok (.laload, 1) := by decide +kernel
theorem dX12_sizeOf_27 : decode cX12_sizeOf 27 = .ok (.lneg, 1) := by decide +kernel
theorem dX12_sizeOf_28 : decode cX12_sizeOf 28 = .ok (.goto 14, 3) := by decide +kernel
theorem dX12_sizeOf_31 : decode cX12_sizeOf 31 = .ok (.aload_n 0, 1) := by decide +kernel
theorem dX12_sizeOf_32 : decode cX12_sizeOf 32 = .ok (.getfield 67, 3) := by decide +kernel
theorem dX12_sizeOf_35 : decode cX12_sizeOf 35 = .ok (.bipush 14, 2) := by decide +kernel
theorem dX12_sizeOf_37 : decode cX12_sizeOf 37 = .ok (.iload_n 1, 1) := by decide +kernel
theorem dX12_sizeOf_38 : decode cX12_sizeOf 38 = .ok (.imul, 1) := by decide +kernel
theorem dX12_sizeOf_39 : decode cX12_sizeOf 39 = .ok (.iload_n 2, 1) := by decide +kernel
theorem dX12_sizeOf_40 : decode cX12_sizeOf 40 = .ok (.iadd, 1) := by decide +kernel
theorem dX12_sizeOf_41 : decode cX12_sizeOf 41 = .ok (.laload, 1) := by decide +kernel
theorem dX12_sizeOf_42 : decode cX12_sizeOf 42 = .ok (.l2i, 1) := by decide +kernel
theorem dX12_sizeOf_43 : decode cX12_sizeOf 43 = .ok (.ireturn, 1) := by decide +kernel
theorem dX12_goes_0 : decode cX12_goes 0 = .ok (.iload_n 2, 1) := by decide +kernel
theorem dX12_goes_1 : decode cX12_goes 1 = .ok (.aload_n 0, 1) := by decide +kernel
theorem dX12_goes_2 : decode cX12_goes 2 = .ok (.getfield 264, 3) := by decide +kernel
theorem dX12_goes_5 : decode cX12_goes 5 = .ok (.if_icmp .ne 5, 3) := by decide +kernel
theorem dX12_goes_8 : decode cX12_goes 8 = .ok (.iconst 1, 1) := by decide +kernel
theorem dX12_goes_9 : decode cX12_goes 9 = .ok (.ireturn, 1) := by decide +kernel
theorem dX12_goes_10 : decode cX12_goes 10 = .ok (.aload_n 0, 1) := by decide +kernel
theorem dX12_goes_11 : decode cX12_goes 11 = .ok (.iload_n 2, 1) := by decide +kernel
theorem dX12_goes_12 : decode cX12_goes 12 = .ok (.invokevirtual 216, 3) := by decide +kernel
theorem dX12_goes_15 : decode cX12_goes 15 = .ok (.istore_n 3, 1) := by decide +kernel
theorem dX12_goes_16 : decode cX12_goes 16 = .ok (.aload_n 0, 1) := by decide +kernel
theorem dX12_goes_17 : decode cX12_goes 17 = .ok (.getfield 76, 3) := by decide +kernel
theorem dX12_goes_20 : decode cX12_goes 20 = .ok (.bipush 42, 2) := by decide +kernel
theorem dX12_goes_22 : decode cX12_goes 22 = .ok (.iload_n 2, 1) := by decide +kernel
theorem dX12_goes_23 : decode cX12_goes 23 = .ok (.imul, 1) := by decide +kernel
theorem dX12_goes_24 : decode cX12_goes 24 = .ok (.iload_n 3, 1) := by decide +kernel
theorem dX12_goes_25 : decode cX12_goes 25 = .ok (.iadd, 1) := by decide +kernel
theorem dX12_goes_26 : decode cX12_goes 26 = .ok (.iaload, 1) := by decide +kernel
theorem dX12_goes_27 : decode cX12_goes 27 = .ok (.i2l, 1) := by decide +kernel
theorem dX12_goes_28 : decode cX12_goes 28 = .ok (.lstore 4, 2) := by decide +kernel
theorem dX12_goes_30 : decode cX12_goes 30 = .ok (.iconst 0, 1) := by decide +kernel
theorem dX12_goes_31 : decode cX12_goes 31 = .ok (.istore 6, 2) := by decide +kernel
theorem dX12_goes_33 : decode cX12_goes 33 = .ok (.iload 6, 2) := by decide +kernel
theorem dX12_goes_35 : decode cX12_goes 35 = .ok (.aload_n 0, 1) := by decide +kernel
theorem dX12_goes_36 : decode cX12_goes 36 = .ok (.getfield 49, 3) := by decide +kernel
theorem dX12_goes_39 : decode cX12_goes 39 = .ok (.iload_n 1, 1) := by decide +kernel
theorem dX12_goes_40 : decode cX12_goes 40 = .ok (.iaload, 1) := by decide +kernel
theorem dX12_goes_41 : decode cX12_goes 41 = .ok (.if_icmp .ge 151, 3) := by decide +kernel
theorem dX12_goes_44 : decode cX12_goes 44 = .ok (.aload_n 0, 1) := by decide +kernel
theorem dX12_goes_45 : decode cX12_goes 45 = .ok (.getfield 267, 3) := by decide +kernel
theorem dX12_goes_48 : decode cX12_goes 48 = .ok (.ifCond .ne 144, 3) := by decide +kernel
theorem dX12_goes_51 : decode cX12_goes 51 = .ok (.aload_n 0, 1) := by decide +kernel
theorem dX12_goes_52 : decode cX12_goes 52 = .ok (.iload_n 1, 1) := by decide +kernel
theorem dX12_goes_53 : decode cX12_goes 53 = .ok (.iload 6, 2) := by decide +kernel
theorem dX12_goes_55 : decode cX12_goes 55 = .ok (.invokevirtual 271, 3) := by decide +kernel
theorem dX12_goes_58 : decode cX12_goes 58 = .ok (.istore 7, 2) := by decide +kernel
theorem dX12_goes_60 : decode cX12_goes 60 = .ok (.aload_n 0, 1) := by decide +kernel
theorem dX12_goes_61 : decode cX12_goes 61 = .ok (.getfield 82, 3) := by decide +kernel
theorem dX12_goes_64 : decode cX12_goes 64 = .ok (.iload 6, 2) := by decide +kernel
theorem dX12_goes_66 : decode cX12_goes 66 = .ok (.baload, 1) := by decide +kernel
theorem dX12_goes_67 : decode cX12_goes 67 = .ok (.ifCond .ne 119, 3) := by decide +kernel
theorem dX12_goes_70 : decode cX12_goes 70 = .ok (.iload 7, 2) := by decide +kernel
theorem dX12_goes_72 : decode cX12_goes 72 = .ok (.ifCond .eq 114, 3) := by decide +kernel
theorem dX12_goes_75 : decode cX12_goes 75 = .ok (.iload 7, 2) := by decide +kernel
theorem dX12_goes_77 : decode cX12_goes 77 = .ok (.aload_n 0, 1) := by decide +kernel
theorem dX12_goes_78 : decode cX12_goes 78 = .ok (.iload_n 2, 1) := by decide +kernel
theorem dX12_goes_79 : decode cX12_goes 79 = .ok (.iload_n 3, 1) := by decide +kernel
theorem dX12_goes_80 : decode cX12_goes 80 = .ok (.invokevirtual 223, 3) := by decide +kernel
theorem dX12_goes_83 : decode cX12_goes 83 = .ok (.if_icmp .gt 103, 3) := by decide +kernel
theorem dX12_goes_86 : decode cX12_goes 86 = .ok (.aload_n 0, 1) := by decide +kernel
theorem dX12_goes_87 : decode cX12_goes 87 = .ok (.iload_n 1, 1) := by decide +kernel
theorem dX12_goes_88 : decode cX12_goes 88 = .ok (.iload 6, 2) := by decide +kernel
theorem dX12_goes_90 : decode cX12_goes 90 = .ok (.invokevirtual 274, 3) := by decide +kernel
theorem dX12_goes_93 : decode cX12_goes 93 = .ok (.aload_n 0, 1) := by decide +kernel
theorem dX12_goes_94 : decode cX12_goes 94 = .ok (.getfield 64, 3) := by decide +kernel
theorem dX12_goes_97 : decode cX12_goes 97 = .ok (.bipush 9, 2) := by decide +kernel
theorem dX12_goes_99 : decode cX12_goes 99 = .ok (.iload_n 1, 1) := by decide +kernel
theorem dX12_goes_100 : decode cX12_goes 100 = .ok (.imul, 1) := by decide +kernel
theorem dX12_goes_101 : decode cX12_goes 101 = .ok (.laload, 1) := by decide +kernel
theorem dX12_goes_102 : decode cX12_goes 102 = .ok (.lload 4, 2) := by decide +kernel
theorem dX12_goes_104 : decode cX12_goes 104 = .ok (.lsub, 1) := by decide +kernel
theorem dX12_goes_105 : decode cX12_goes 105 = .ok (.lcmp, 1) := by decide +kernel
theorem dX12_goes_106 : decode cX12_goes 106 = .ok (.ifCond .eq 6, 3) := by decide +kernel
theorem dX12_goes_109 : decode cX12_goes 109 = .ok (.goto 77, 3) := by decide +kernel
theorem dX12_goes_112 : decode cX12_goes 112 = .ok (.aload_n 0, 1) := by decide +kernel
theorem dX12_goes_113 : decode cX12_goes 113 = .ok (.getfield 58, 3) := by decide +kernel
theorem dX12_goes_116 : decode cX12_goes 116 = .ok (.iload_n 1, 1) := by decide +kernel
theorem dX12_goes_117 : decode cX12_goes 117 = .ok (.iaload, 1) := by decide +kernel
theorem dX12_goes_118 : decode cX12_goes 118 = .ok (.sipush 20000, 3) := by decide +kernel
theorem dX12_goes_121 : decode cX12_goes 121 = .ok (.if_icmp .ne 10, 3) := by decide +kernel
theorem dX12_goes_124 : decode cX12_goes 124 = .ok (.aload_n 0, 1) := by decide +kernel
theorem dX12_goes_125 : decode cX12_goes 125 = .ok (.iconst 1, 1) := by decide +kernel
theorem dX12_goes_126 : decode cX12_goes 126 = .ok (.putfield 267, 3) := by decide +kernel
theorem dX12_goes_129 : decode cX12_goes 129 = .ok (.iconst 0, 1) := by decide +kernel
theorem dX12_goes_130 : decode cX12_goes 130 = .ok (.ireturn, 1) := by decide +kernel
theorem dX12_goes_131 : decode cX12_goes 131 = .ok (.aload_n 0, 1) := by decide +kernel
theorem dX12_goes_132 : decode cX12_goes 132 = .ok (.getfield 58, 3) := by decide +kernel
theorem dX12_goes_135 : decode cX12_goes 135 = .ok (.iload_n 1, 1) := by decide +kernel
theorem dX12_goes_136 : decode cX12_goes 136 = .ok (.dup2, 1) := by decide +kernel
theorem dX12_goes_137 : decode cX12_goes 137 = .ok (.iaload, 1) := by decide +kernel
theorem dX12_goes_138 : decode cX12_goes 138 = .ok (.iconst 1, 1) := by decide +kernel
theorem dX12_goes_139 : decode cX12_goes 139 = .ok (.iadd, 1) := by decide +kernel
theorem dX12_goes_140 : decode cX12_goes 140 = .ok (.iastore, 1) := by decide +kernel
theorem dX12_goes_141 : decode cX12_goes 141 = .ok (.aload_n 0, 1) := by decide +kernel
theorem dX12_goes_142 : decode cX12_goes 142 = .ok (.getfield 82, 3) := by decide +kernel
theorem dX12_goes_145 : decode cX12_goes 145 = .ok (.iload 6, 2) := by decide +kernel
theorem dX12_goes_147 : decode cX12_goes 147 = .ok (.iconst 1, 1) := by decide +kernel
theorem dX12_goes_148 : decode cX12_goes 148 = .ok (.bastore, 1) := by decide +kernel
theorem dX12_goes_149 : decode cX12_goes 149 = .ok (.aload_n 0, 1) := by decide +kernel
theorem dX12_goes_150 : decode cX12_goes 150 = .ok (.iload_n 1, 1) := by decide +kernel
theorem dX12_goes_151 : decode cX12_goes 151 = .ok (.iload_n 2, 1) := by decide +kernel
theorem dX12_goes_152 : decode cX12_goes 152 = .ok (.iload_n 2, 1) := by decide +kernel
theorem dX12_goes_153 : decode cX12_goes 153 = .ok (.iload 7, 2) := by decide +kernel
theorem dX12_goes_155 : decode cX12_goes 155 = .ok (.invokevirtual 238, 3) := by decide +kernel
theorem dX12_goes_158 : decode cX12_goes 158 = .ok (.aload_n 0, 1) := by decide +kernel
theorem dX12_goes_159 : decode cX12_goes 159 = .ok (.iload_n 2, 1) := by decide +kernel
theorem dX12_goes_160 : decode cX12_goes 160 = .ok (.iload 7, 2) := by decide +kernel
theorem dX12_goes_162 : decode cX12_goes 162 = .ok (.invokevirtual 242, 3) := by decide +kernel
theorem dX12_goes_165 : decode cX12_goes 165 = .ok (.aload_n 0, 1) := by decide +kernel
theorem dX12_goes_166 : decode cX12_goes 166 = .ok (.iload_n 1, 1) := by decide +kernel
theorem dX12_goes_167 : decode cX12_goes 167 = .ok (.iload_n 2, 1) := by decide +kernel
theorem dX12_goes_168 : decode cX12_goes 168 = .ok (.iconst 1, 1) := by decide +kernel
theorem dX12_goes_169 : decode cX12_goes 169 = .ok (.iadd, 1) := by decide +kernel
theorem dX12_goes_170 : decode cX12_goes 170 = .ok (.invokevirtual 278, 3) := by decide +kernel
theorem dX12_goes_173 : decode cX12_goes 173 = .ok (.ifCond .eq 5, 3) := by decide +kernel
theorem dX12_goes_176 : decode cX12_goes 176 = .ok (.iconst 1, 1) := by decide +kernel
theorem dX12_goes_177 : decode cX12_goes 177 = .ok (.ireturn, 1) := by decide +kernel
theorem dX12_goes_178 : decode cX12_goes 178 = .ok (.aload_n 0, 1) := by decide +kernel
theorem dX12_goes_179 : decode cX12_goes 179 = .ok (.getfield 82, 3) := by decide +kernel
theorem dX12_goes_182 : decode cX12_goes 182 = .ok (.iload 6, 2) := by decide +kernel
theorem dX12_goes_184 : decode cX12_goes 184 = .ok (.iconst 0, 1) := by decide +kernel
theorem dX12_goes_185 : decode cX12_goes 185 = .ok (.bastore, 1) := by decide +kernel
theorem dX12_goes_186 : decode cX12_goes 186 = .ok (.iinc 6 1, 3) := by decide +kernel
theorem dX12_goes_189 : decode cX12_goes 189 = .ok (.goto (-156), 3) := by decide +kernel
theorem dX12_goes_192 : decode cX12_goes 192 = .ok (.iconst 0, 1) := by decide +kernel
theorem dX12_goes_193 : decode cX12_goes 193 = .ok (.ireturn, 1) := by decide +kernel
theorem dX12_nets_0 : decode cX12_nets 0 = .ok (.aload_n 0, 1) := by decide +kernel
theorem dX12_nets_1 : decode cX12_nets 1 = .ok (.iload_n 1, 1) := by decide +kernel
theorem dX12_nets_2 : decode cX12_nets 2 = .ok (.invokevirtual 282, 3) := by decide +kernel
theorem dX12_nets_5 : decode cX12_nets 5 = .ok (.aload_n 0, 1) := by decide +kernel
theorem dX12_nets_6 : decode cX12_nets 6 = .ok (.getfield 58, 3) := by decide +kernel
theorem dX12_nets_9 : decode cX12_nets 9 = .ok (.iload_n 1, 1) := by decide +kernel
theorem dX12_nets_10 : decode cX12_nets 10 = .ok (.iconst 0, 1) := by decide +kernel
theorem dX12_nets_11 : decode cX12_nets 11 = .ok (.iastore, 1) := by decide +kernel
theorem dX12_nets_12 : decode cX12_nets 12 = .ok (.aload_n 0, 1) := by decide +kernel
theorem dX12_nets_13 : decode cX12_nets 13 = .ok (.iconst 0, 1) := by decide +kernel
theorem dX12_nets_14 : decode cX12_nets 14 = .ok (.putfield 267, 3) := by decide +kernel
theorem dX12_nets_17 : decode cX12_nets 17 = .ok (.aload_n 0, 1) := by decide +kernel
theorem dX12_nets_18 : decode cX12_nets 18 = .ok (.iconst 0, 1) := by decide +kernel
theorem dX12_nets_19 : decode cX12_nets 19 = .ok (.putfield 264, 3) := by decide +kernel
theorem dX12_nets_22 : decode cX12_nets 22 = .ok (.iconst 0, 1) := by decide +kernel
theorem dX12_nets_23 : decode cX12_nets 23 = .ok (.istore_n 2, 1) := by decide +kernel
theorem dX12_nets_24 : decode cX12_nets 24 = .ok (.iload_n 2, 1) := by decide +kernel
theorem dX12_nets_25 : decode cX12_nets 25 = .ok (.bipush 14, 2) := by decide +kernel
theorem dX12_nets_27 : decode cX12_nets 27 = .ok (.if_icmp .ge 16, 3) := by decide +kernel
theorem dX12_nets_30 : decode cX12_nets 30 = .ok (.aload_n 0, 1) := by decide +kernel
theorem dX12_nets_31 : decode cX12_nets 31 = .ok (.getfield 82, 3) := by decide +kernel
theorem dX12_nets_34 : decode cX12_nets 34 = .ok (.iload_n 2, 1) := by decide +kernel
theorem dX12_nets_35 : decode cX12_nets 35 = .ok (.iconst 0, 1) := by decide +kernel
theorem dX12_nets_36 : decode cX12_nets 36 = .ok (.bastore, 1) := by decide +kernel
theorem dX12_nets_37 : decode cX12_nets 37 = .ok (.iinc 2 1, 3) := by decide +kernel
theorem dX12_nets_40 : decode cX12_nets 40 = .ok (.goto (-16), 3) := by decide +kernel
theorem dX12_nets_43 : decode cX12_nets 43 = .ok (.iconst 0, 1) := by decide +kernel
theorem dX12_nets_44 : decode cX12_nets 44 = .ok (.istore_n 2, 1) := by decide +kernel
theorem dX12_nets_45 : decode cX12_nets 45 = .ok (.iload_n 2, 1) := by decide +kernel
theorem dX12_nets_46 : decode cX12_nets 46 = .ok (.aload_n 0, 1) := by decide +kernel
theorem dX12_nets_47 : decode cX12_nets 47 = .ok (.getfield 49, 3) := by decide +kernel
theorem dX12_nets_50 : decode cX12_nets 50 = .ok (.iload_n 1, 1) := by decide +kernel
theorem dX12_nets_51 : decode cX12_nets 51 = .ok (.iaload, 1) := by decide +kernel
theorem dX12_nets_52 : decode cX12_nets 52 = .ok (.if_icmp .ge 39, 3) := by decide +kernel
theorem dX12_nets_55 : decode cX12_nets 55 = .ok (.aload_n 0, 1) := by decide +kernel
theorem dX12_nets_56 : decode cX12_nets 56 = .ok (.dup, 1) := by decide +kernel
theorem dX12_nets_57 : decode cX12_nets 57 = .ok (.getfield 264, 3) := by decide +kernel
theorem dX12_nets_60 : decode cX12_nets 60 = .ok (.aload_n 0, 1) := by decide +kernel
theorem dX12_nets_61 : decode cX12_nets 61 = .ok (.getfield 67, 3) := by decide +kernel
theorem dX12_nets_64 : decode cX12_nets 64 = .ok (.bipush 14, 2) := by decide +kernel
theorem dX12_nets_66 : decode cX12_nets 66 = .ok (.iload_n 1, 1) := by decide +kernel
theorem dX12_nets_67 : decode cX12_nets 67 = .ok (.imul, 1) := by decide +kernel
theorem dX12_nets_68 : decode cX12_nets 68 = .ok (.iload_n 2, 1) := by decide +kernel
theorem dX12_nets_69 : decode cX12_nets 69 = .ok (.iadd, 1) := by decide +kernel
theorem dX12_nets_70 : decode cX12_nets 70 = .ok (.laload, 1) := by decide +kernel
theorem dX12_nets_71 : decode cX12_nets 71 = .ok (.lconst 0, 1) := by decide +kernel
theorem dX12_nets_72 : decode cX12_nets 72 = .ok (.lcmp, 1) := by decide +kernel
theorem dX12_nets_73 : decode cX12_nets 73 = .ok (.ifCond .eq 7, 3) := by decide +kernel
theorem dX12_nets_76 : decode cX12_nets 76 = .ok (.iconst 1, 1) := by decide +kernel
theorem dX12_nets_77 : decode cX12_nets 77 = .ok (.goto 4, 3) := by decide +kernel
theorem dX12_nets_80 : decode cX12_nets 80 = .ok (.iconst 0, 1) := by decide +kernel
theorem dX12_nets_81 : decode cX12_nets 81 = .ok (.iadd, 1) := by decide +kernel
theorem dX12_nets_82 : decode cX12_nets 82 = .ok (.putfield 264, 3) := by decide +kernel
theorem dX12_nets_85 : decode cX12_nets 85 = .ok (.iinc 2 1, 3) := by decide +kernel
theorem dX12_nets_88 : decode cX12_nets 88 = .ok (.goto (-43), 3) := by decide +kernel
theorem dX12_nets_91 : decode cX12_nets 91 = .ok (.aload_n 0, 1) := by decide +kernel
theorem dX12_nets_92 : decode cX12_nets 92 = .ok (.getfield 61, 3) := by decide +kernel
theorem dX12_nets_95 : decode cX12_nets 95 = .ok (.iload_n 1, 1) := by decide +kernel
theorem dX12_nets_96 : decode cX12_nets 96 = .ok (.laload, 1) := by decide +kernel
theorem dX12_nets_97 : decode cX12_nets 97 = .ok (.lconst 0, 1) := by decide +kernel
theorem dX12_nets_98 : decode cX12_nets 98 = .ok (.lcmp, 1) := by decide +kernel
theorem dX12_nets_99 : decode cX12_nets 99 = .ok (.ifCond .eq 12, 3) := by decide +kernel
theorem dX12_nets_102 : decode cX12_nets 102 = .ok (.aload_n 0, 1) := by decide +kernel
theorem dX12_nets_103 : decode cX12_nets 103 = .ok (.iload_n 1, 1) := by decide +kernel
theorem dX12_nets_104 : decode cX12_nets 104 = .ok (.iconst 0, 1) := by decide +kernel
theorem dX12_nets_105 : decode cX12_nets 105 = .ok (.invokevirtual 278, 3) := by decide +kernel
theorem dX12_nets_108 : decode cX12_nets 108 = .ok (.ifCond .ne 9, 3) := by decide +kernel
theorem dX12_nets_111 : decode cX12_nets 111 = .ok (.aload_n 0, 1) := by decide +kernel
theorem dX12_nets_112 : decode cX12_nets 112 = .ok (.iload_n 1, 1) := by decide +kernel
theorem dX12_nets_113 : decode cX12_nets 113 = .ok (.invokevirtual 235, 3) := by decide +kernel
theorem dX12_nets_116 : decode cX12_nets 116 = .ok (.return_, 1) := by decide +kernel
theorem dX12_nets_117 : decode cX12_nets 117 = .ok (.aload_n 0, 1) := by decide +kernel
theorem dX12_nets_118 : decode cX12_nets 118 = .ok (.iload_n 1, 1) := by decide +kernel
theorem dX12_nets_119 : decode cX12_nets 119 = .ok (.iconst 0, 1) := by decide +kernel
theorem dX12_nets_120 : decode cX12_nets 120 = .ok (.aload_n 0, 1) := by decide +kernel
theorem dX12_nets_121 : decode cX12_nets 121 = .ok (.getfield 264, 3) := by decide +kernel
theorem dX12_nets_124 : decode cX12_nets 124 = .ok (.invokevirtual 226, 3) := by decide +kernel
theorem dX12_nets_127 : decode cX12_nets 127 = .ok (.aload_n 0, 1) := by decide +kernel
theorem dX12_nets_128 : decode cX12_nets 128 = .ok (.iload_n 1, 1) := by decide +kernel
theorem dX12_nets_129 : decode cX12_nets 129 = .ok (.iconst 1, 1) := by decide +kernel
theorem dX12_nets_130 : decode cX12_nets 130 = .ok (.aload_n 0, 1) := by decide +kernel
theorem dX12_nets_131 : decode cX12_nets 131 = .ok (.getfield 209, 3) := by decide +kernel
theorem dX12_nets_134 : decode cX12_nets 134 = .ok (.invokevirtual 226, 3) := by decide +kernel
theorem dX12_nets_137 : decode cX12_nets 137 = .ok (.aload_n 0, 1) := by decide +kernel
theorem dX12_nets_138 : decode cX12_nets 138 = .ok (.iload_n 1, 1) := by decide +kernel
theorem dX12_nets_139 : decode cX12_nets 139 = .ok (.iconst 2, 1) := by decide +kernel
theorem dX12_nets_140 : decode cX12_nets 140 = .ok (.aload_n 0, 1) := by decide +kernel
theorem dX12_nets_141 : decode cX12_nets 141 = .ok (.getfield 64, 3) := by decide +kernel
theorem dX12_nets_144 : decode cX12_nets 144 = .ok (.bipush 9, 2) := by decide +kernel
theorem dX12_nets_146 : decode cX12_nets 146 = .ok (.iload_n 1, 1) := by decide +kernel
theorem dX12_nets_147 : decode cX12_nets 147 = .ok (.imul, 1) := by decide +kernel
theorem dX12_nets_148 : decode cX12_nets 148 = .ok (.laload, 1) := by decide +kernel
theorem dX12_nets_149 : decode cX12_nets 149 = .ok (.l2i, 1) := by decide +kernel
theorem dX12_nets_150 : decode cX12_nets 150 = .ok (.invokevirtual 226, 3) := by decide +kernel
theorem dX12_nets_153 : decode cX12_nets 153 = .ok (.return_, 1) := by decide +kernel
theorem dX12_takesOver_0 : decode cX12_takesOver 0 = .ok (.aload_n 0, 1) := by decide +kernel
theorem dX12_takesOver_1 : decode cX12_takesOver 1 = .ok (.aload_n 0, 1) := by decide +kernel
theorem dX12_takesOver_2 : decode cX12_takesOver 2 = .ok (.getfield 179, 3) := by decide +kernel
theorem dX12_takesOver_5 : decode cX12_takesOver 5 = .ok (.putfield 285, 3) := by decide +kernel
theorem dX12_takesOver_8 : decode cX12_takesOver 8 = .ok (.aload_n 0, 1) := by decide +kernel
theorem dX12_takesOver_9 : decode cX12_takesOver 9 = .ok (.aload_n 0, 1) := by decide +kernel
theorem dX12_takesOver_10 : decode cX12_takesOver 10 = .ok (.getfield 179, 3) := by decide +kernel
theorem dX12_takesOver_13 : decode cX12_takesOver 13 = .ok (.putfield 288, 3) := by decide +kernel
theorem dX12_takesOver_16 : decode cX12_takesOver 16 = .ok (.iconst 0, 1) := by decide +kernel
theorem dX12_takesOver_17 : decode cX12_takesOver 17 = .ok (.istore_n 1, 1) := by decide +kernel
theorem dX12_takesOver_18 : decode cX12_takesOver 18 = .ok (.iload_n 1, 1) := by decide +kernel
theorem dX12_takesOver_19 : decode cX12_takesOver 19 = .ok (.aload_n 0, 1) := by decide +kernel
theorem dX12_takesOver_20 : decode cX12_takesOver 20 = .ok (.getfield 285, 3) := by decide +kernel
theorem dX12_takesOver_23 : decode cX12_takesOver 23 = .ok (.if_icmp .ge 175, 3) := by decide +kernel
theorem dX12_takesOver_26 : decode cX12_takesOver 26 = .ok (.iconst 0, 1) := by decide +kernel
theorem dX12_takesOver_27 : decode cX12_takesOver 27 = .ok (.istore_n 2, 1) := by decide +kernel
theorem dX12_takesOver_28 : decode cX12_takesOver 28 = .ok (.iload_n 2, 1) := by decide +kernel
theorem dX12_takesOver_29 : decode cX12_takesOver 29 = .ok (.bipush 124, 2) := by decide +kernel
theorem dX12_takesOver_31 : decode cX12_takesOver 31 = .ok (.if_icmp .ge 16, 3) := by decide +kernel
theorem dX12_takesOver_34 : decode cX12_takesOver 34 = .ok (.aload_n 0, 1) := by decide +kernel
theorem dX12_takesOver_35 : decode cX12_takesOver 35 = .ok (.iload_n 1, 1) := by decide +kernel
theorem dX12_takesOver_36 : decode cX12_takesOver 36 = .ok (.iload_n 2, 1) := by decide +kernel
theorem dX12_takesOver_37 : decode cX12_takesOver 37 = .ok (.iconst 0, 1) := by decide +kernel
theorem dX12_takesOver_38 : decode cX12_takesOver 38 = .ok (.invokevirtual 226, 3) := by decide +kernel
theorem dX12_takesOver_41 : decode cX12_takesOver 41 = .ok (.iinc 2 1, 3) := by decide +kernel
theorem dX12_takesOver_44 : decode cX12_takesOver 44 = .ok (.goto (-16), 3) := by decide +kernel
theorem dX12_takesOver_47 : decode cX12_takesOver 47 = .ok (.aload_n 0, 1) := by decide +kernel
theorem dX12_takesOver_48 : decode cX12_takesOver 48 = .ok (.getfield 43, 3) := by decide +kernel
theorem dX12_takesOver_51 : decode cX12_takesOver 51 = .ok (.iload_n 1, 1) := by decide +kernel
theorem dX12_takesOver_52 : decode cX12_takesOver 52 = .ok (.aload_n 0, 1) := by decide +kernel
theorem dX12_takesOver_53 : decode cX12_takesOver 53 = .ok (.getfield 17, 3) := by decide +kernel
theorem dX12_takesOver_56 : decode cX12_takesOver 56 = .ok (.iload_n 1, 1) := by decide +kernel
theorem dX12_takesOver_57 : decode cX12_takesOver 57 = .ok (.iaload, 1) := by decide +kernel
theorem dX12_takesOver_58 : decode cX12_takesOver 58 = .ok (.iastore, 1) := by decide +kernel
theorem dX12_takesOver_59 : decode cX12_takesOver 59 = .ok (.aload_n 0, 1) := by decide +kernel
theorem dX12_takesOver_60 : decode cX12_takesOver 60 = .ok (.getfield 46, 3) := by decide +kernel
theorem dX12_takesOver_63 : decode cX12_takesOver 63 = .ok (.iload_n 1, 1) := by decide +kernel
theorem dX12_takesOver_64 : decode cX12_takesOver 64 = .ok (.aload_n 0, 1) := by decide +kernel
theorem dX12_takesOver_65 : decode cX12_takesOver 65 = .ok (.getfield 17, 3) := by decide +kernel
theorem dX12_takesOver_68 : decode cX12_takesOver 68 = .ok (.iload_n 1, 1) := by decide +kernel
theorem dX12_takesOver_69 : decode cX12_takesOver 69 = .ok (.iaload, 1) := by decide +kernel
theorem dX12_takesOver_70 : decode cX12_takesOver 70 = .ok (.iconst 1, 1) := by decide +kernel
theorem dX12_takesOver_71 : decode cX12_takesOver 71 = .ok (.if_icmp .ne 12, 3) := by decide +kernel
theorem dX12_takesOver_74 : decode cX12_takesOver 74 = .ok (.aload_n 0, 1) := by decide +kernel
theorem dX12_takesOver_75 : decode cX12_takesOver 75 = .ok (.getfield 24, 3) := by decide +kernel
theorem dX12_takesOver_78 : decode cX12_takesOver 78 = .ok (.iload_n 1, 1) := by decide +kernel
theorem dX12_takesOver_79 : decode cX12_takesOver 79 = .ok (.iaload, 1) := by decide +kernel
theorem dX12_takesOver_80 : decode cX12_takesOver 80 = .ok (.goto 4, 3) := by decide +kernel
theorem dX12_takesOver_83 : decode cX12_takesOver 83 = .ok (.iconst 0, 1) := by decide +kernel
theorem dX12_takesOver_84 : decode cX12_takesOver 84 = .ok (.iastore, 1) := by decide +kernel
theorem dX12_takesOver_85 : decode cX12_takesOver 85 = .ok (.aload_n 0, 1) := by decide +kernel
theorem dX12_takesOver_86 : decode cX12_takesOver 86 = .ok (.getfield 49, 3) := by decide +kernel
theorem dX12_takesOver_89 : decode cX12_takesOver 89 = .ok (.iload_n 1, 1) := by decide +kernel
theorem dX12_takesOver_90 : decode cX12_takesOver 90 = .ok (.aload_n 0, 1) := by decide +kernel
theorem dX12_takesOver_91 : decode cX12_takesOver 91 = .ok (.getfield 17, 3) := by decide +kernel
theorem dX12_takesOver_94 : decode cX12_takesOver 94 = .ok (.iload_n 1, 1) := by decide +kernel
theorem dX12_takesOver_95 : decode cX12_takesOver 95 = .ok (.iaload, 1) := by decide +kernel
theorem dX12_takesOver_96 : decode cX12_takesOver 96 = .ok (.iconst 1, 1) := by decide +kernel
theorem dX12_takesOver_97 : decode cX12_takesOver 97 = .ok (.if_icmp .ne 14, 3) := by decide +kernel
theorem dX12_takesOver_100 : decode cX12_takesOver 100 = .ok (.aload_n 0, 1) := by decide +kernel
theorem dX12_takesOver_101 : decode cX12_takesOver 101 = .ok (.getfield 21, 3) := by decide +kernel
theorem dX12_takesOver_104 : decode cX12_takesOver 104 = .ok (.iload_n 1, 1) := by decide +kernel
theorem dX12_takesOver_105 : decode cX12_takesOver 105 = .ok (.iaload, 1) := by decide +kernel
theorem dX12_takesOver_106 : decode cX12_takesOver 106 = .ok (.iconst 2, 1) := by decide +kernel
theorem dX12_takesOver_107 : decode cX12_takesOver 107 = .ok (.idiv, 1) := by decide +kernel
theorem dX12_takesOver_108 : decode cX12_takesOver 108 = .ok (.goto 4, 3) := by decide +kernel
theorem dX12_takesOver_111 : decode cX12_takesOver 111 = .ok (.iconst 0, 1) := by decide +kernel
theorem dX12_takesOver_112 : decode cX12_takesOver 112 = .ok (.iastore, 1) := by decide +kernel
theorem dX12_takesOver_113 : decode cX12_takesOver 113 = .ok (.iconst 0, 1) := by decide +kernel
theorem dX12_takesOver_114 : decode cX12_takesOver 114 = .ok (.istore_n 2, 1) := by decide +kernel
theorem dX12_takesOver_115 : decode cX12_takesOver 115 = .ok (.iload_n 2, 1) := by decide +kernel
theorem dX12_takesOver_116 : decode cX12_takesOver 116 = .ok (.bipush 28, 2) := by decide +kernel
theorem dX12_takesOver_118 : decode cX12_takesOver 118 = .ok (.if_icmp .ge 31, 3) := by decide +kernel
theorem dX12_takesOver_121 : decode cX12_takesOver 121 = .ok (.aload_n 0, 1) := by decide +kernel
theorem dX12_takesOver_122 : decode cX12_takesOver 122 = .ok (.getfield 52, 3) := by decide +kernel
theorem dX12_takesOver_125 : decode cX12_takesOver 125 = .ok (.bipush 28, 2) := by decide +kernel
theorem dX12_takesOver_127 : decode cX12_takesOver 127 = .ok (.iload_n 1, 1) := by decide +kernel
theorem dX12_takesOver_128 : decode cX12_takesOver 128 = .ok (.imul, 1) := by decide +kernel
theorem dX12_takesOver_129 : decode cX12_takesOver 129 = .ok (.iload_n 2, 1) := by decide +kernel
theorem dX12_takesOver_130 : decode cX12_takesOver 130 = .ok (.iadd, 1) := by decide +kernel
theorem dX12_takesOver_131 : decode cX12_takesOver 131 = .ok (.aload_n 0, 1) := by decide +kernel
theorem dX12_takesOver_132 : decode cX12_takesOver 132 = .ok (.getfield 27, 3) := by decide +kernel
theorem dX12_takesOver_135 : decode cX12_takesOver 135 = .ok (.bipush 29, 2) := by decide +kernel
theorem dX12_takesOver_137 : decode cX12_takesOver 137 = .ok (.iload_n 1, 1) := by decide +kernel
theorem dX12_takesOver_138 : decode cX12_takesOver 138 = .ok (.imul, 1) := by decide +kernel
theorem dX12_takesOver_139 : decode cX12_takesOver 139 = .ok (.iload_n 2, 1) := by decide +kernel
theorem dX12_takesOver_140 : decode cX12_takesOver 140 = .ok (.iadd, 1) := by decide +kernel
theorem dX12_takesOver_141 : decode cX12_takesOver 141 = .ok (.iaload, 1) := by decide +kernel
theorem dX12_takesOver_142 : decode cX12_takesOver 142 = .ok (.iastore, 1) := by decide +kernel
theorem dX12_takesOver_143 : decode cX12_takesOver 143 = .ok (.iinc 2 1, 3) := by decide +kernel
theorem dX12_takesOver_146 : decode cX12_takesOver 146 = .ok (.goto (-31), 3) := by decide +kernel
theorem dX12_takesOver_149 : decode cX12_takesOver 149 = .ok (.aload_n 0, 1) := by decide +kernel
theorem dX12_takesOver_150 : decode cX12_takesOver 150 = .ok (.getfield 55, 3) := by decide +kernel
theorem dX12_takesOver_153 : decode cX12_takesOver 153 = .ok (.iload_n 1, 1) := by decide +kernel
theorem dX12_takesOver_154 : decode cX12_takesOver 154 = .ok (.iconst 0, 1) := by decide +kernel
theorem dX12_takesOver_155 : decode cX12_takesOver 155 = .ok (.iastore, 1) := by decide +kernel
theorem dX12_takesOver_156 : decode cX12_takesOver 156 = .ok (.aload_n 0, 1) := by decide +kernel
theorem dX12_takesOver_157 : decode cX12_takesOver 157 = .ok (.getfield 58, 3) := by decide +kernel
theorem dX12_takesOver_160 : decode cX12_takesOver 160 = .ok (.iload_n 1, 1) := by decide +kernel
theorem dX12_takesOver_161 : decode cX12_takesOver 161 = .ok (.iconst 0, 1) := by decide +kernel
theorem dX12_takesOver_162 : decode cX12_takesOver 162 = .ok (.iastore, 1) := by decide +kernel
theorem dX12_takesOver_163 : decode cX12_takesOver 163 = .ok (.aload_n 0, 1) := by decide +kernel
theorem dX12_takesOver_164 : decode cX12_takesOver 164 = .ok (.getfield 61, 3) := by decide +kernel
theorem dX12_takesOver_167 : decode cX12_takesOver 167 = .ok (.iload_n 1, 1) := by decide +kernel
theorem dX12_takesOver_168 : decode cX12_takesOver 168 = .ok (.lconst 0, 1) := by decide +kernel
theorem dX12_takesOver_169 : decode cX12_takesOver 169 = .ok (.lastore, 1) := by decide +kernel
theorem dX12_takesOver_170 : decode cX12_takesOver 170 = .ok (.aload_n 0, 1) := by decide +kernel
theorem dX12_takesOver_171 : decode cX12_takesOver 171 = .ok (.getfield 43, 3) := by decide +kernel
theorem dX12_takesOver_174 : decode cX12_takesOver 174 = .ok (.iload_n 1, 1) := by decide +kernel
theorem dX12_takesOver_175 : decode cX12_takesOver 175 = .ok (.iaload, 1) := by decide +kernel
theorem dX12_takesOver_176 : decode cX12_takesOver 176 = .ok (.ifCond .ne 11, 3) := by decide +kernel
theorem dX12_takesOver_179 : decode cX12_takesOver 179 = .ok (.aload_n 0, 1) := by decide +kernel
theorem dX12_takesOver_180 : decode cX12_takesOver 180 = .ok (.iload_n 1, 1) := by decide +kernel
theorem dX12_takesOver_181 : decode cX12_takesOver 181 = .ok (.invokevirtual 291, 3) := by decide +kernel
theorem dX12_takesOver_184 : decode cX12_takesOver 184 = .ok (.goto 8, 3) := by decide +kernel
theorem dX12_takesOver_187 : decode cX12_takesOver 187 = .ok (.aload_n 0, 1) := by decide +kernel
theorem dX12_takesOver_188 : decode cX12_takesOver 188 = .ok (.iload_n 1, 1) := by decide +kernel
theorem dX12_takesOver_189 : decode cX12_takesOver 189 = .ok (.invokevirtual 294, 3) := by decide +kernel
theorem dX12_takesOver_192 : decode cX12_takesOver 192 = .ok (.iinc 1 1, 3) := by decide +kernel
theorem dX12_takesOver_195 : decode cX12_takesOver 195 = .ok (.goto (-177), 3) := by decide +kernel
theorem dX12_takesOver_198 : decode cX12_takesOver 198 = .ok (.aload_n 0, 1) := by decide +kernel
theorem dX12_takesOver_199 : decode cX12_takesOver 199 = .ok (.iconst 0, 1) := by decide +kernel
theorem dX12_takesOver_200 : decode cX12_takesOver 200 = .ok (.putfield 297, 3) := by decide +kernel
theorem dX12_takesOver_203 : decode cX12_takesOver 203 = .ok (.aload_n 0, 1) := by decide +kernel
theorem dX12_takesOver_204 : decode cX12_takesOver 204 = .ok (.getfield 39, 3) := by decide +kernel
theorem dX12_takesOver_207 : decode cX12_takesOver 207 = .ok (.iconst 0, 1) := by decide +kernel
theorem dX12_takesOver_208 : decode cX12_takesOver 208 = .ok (.iconst 0, 1) := by decide +kernel
theorem dX12_takesOver_209 : decode cX12_takesOver 209 = .ok (.bastore, 1) := by decide +kernel
theorem dX12_takesOver_210 : decode cX12_takesOver 210 = .ok (.aload_n 0, 1) := by decide +kernel
theorem dX12_takesOver_211 : decode cX12_takesOver 211 = .ok (.getfield 39, 3) := by decide +kernel
theorem dX12_takesOver_214 : decode cX12_takesOver 214 = .ok (.iconst 1, 1) := by decide +kernel
theorem dX12_takesOver_215 : decode cX12_takesOver 215 = .ok (.iconst 0, 1) := by decide +kernel
theorem dX12_takesOver_216 : decode cX12_takesOver 216 = .ok (.bastore, 1) := by decide +kernel
theorem dX12_takesOver_217 : decode cX12_takesOver 217 = .ok (.return_, 1) := by decide +kernel
theorem dX12_text_0 : decode cX12_text 0 = .ok (.aload_n 0, 1) := by decide +kernel
theorem dX12_text_1 : decode cX12_text 1 = .ok (.iconst 0, 1) := by decide +kernel
theorem dX12_text_2 : decode cX12_text 2 = .ok (.putfield 103, 3) := by decide +kernel
theorem dX12_text_5 : decode cX12_text 5 = .ok (.iload_n 1, 1) := by decide +kernel
theorem dX12_text_6 : decode cX12_text 6 = .ok (.i2l, 1) := by decide +kernel
theorem dX12_text_7 : decode cX12_text 7 = .ok (.lconst 0, 1) := by decide +kernel
theorem dX12_text_8 : decode cX12_text 8 = .ok (.aload_n 0, 1) := by decide +kernel
theorem dX12_text_9 : decode cX12_text 9 = .ok (.getfield 107, 3) := by decide +kernel
theorem dX12_text_12 : decode cX12_text 12 = .ok (.i2l, 1) := by decide +kernel
theorem dX12_text_13 : decode cX12_text 13 = .ok (.invokestatic 141, 3) := by decide +kernel
theorem dX12_text_16 : decode cX12_text 16 = .ok (.ifCond .ne 5, 3) := by decide +kernel
theorem dX12_text_19 : decode cX12_text 19 = .ok (.iconst (-1), 1) := by decide +kernel
theorem dX12_text_20 : decode cX12_text 20 = .ok (.ireturn, 1) := by decide +kernel
theorem dX12_text_21 : decode cX12_text 21 = .ok (.aload_n 0, 1) := by decide +kernel
theorem dX12_text_22 : decode cX12_text 22 = .ok (.iconst 0, 1) := by decide +kernel
theorem dX12_text_23 : decode cX12_text 23 = .ok (.putfield 107, 3) := by decide +kernel
theorem dX12_text_26 : decode cX12_text 26 = .ok (.aload_n 0, 1) := by decide +kernel
theorem dX12_text_27 : decode cX12_text 27 = .ok (.iload_n 1, 1) := by decide +kernel
theorem dX12_text_28 : decode cX12_text 28 = .ok (.putfield 114, 3) := by decide +kernel
theorem dX12_text_31 : decode cX12_text 31 = .ok (.aload_n 0, 1) := by decide +kernel
theorem dX12_text_32 : decode cX12_text 32 = .ok (.iconst 0, 1) := by decide +kernel
theorem dX12_text_33 : decode cX12_text 33 = .ok (.putfield 117, 3) := by decide +kernel
theorem dX12_text_36 : decode cX12_text 36 = .ok (.aload_n 0, 1) := by decide +kernel
theorem dX12_text_37 : decode cX12_text 37 = .ok (.iconst 0, 1) := by decide +kernel
theorem dX12_text_38 : decode cX12_text 38 = .ok (.putfield 151, 3) := by decide +kernel
theorem dX12_text_41 : decode cX12_text 41 = .ok (.aload_n 0, 1) := by decide +kernel
theorem dX12_text_42 : decode cX12_text 42 = .ok (.iconst 0, 1) := by decide +kernel
theorem dX12_text_43 : decode cX12_text 43 = .ok (.putfield 179, 3) := by decide +kernel
theorem dX12_text_46 : decode cX12_text 46 = .ok (.aload_n 0, 1) := by decide +kernel
theorem dX12_text_47 : decode cX12_text 47 = .ok (.invokevirtual 190, 3) := by decide +kernel
theorem dX12_text_50 : decode cX12_text 50 = .ok (.iconst 1, 1) := by decide +kernel
theorem dX12_text_51 : decode cX12_text 51 = .ok (.istore_n 2, 1) := by decide +kernel
theorem dX12_text_52 : decode cX12_text 52 = .ok (.iload_n 2, 1) := by decide +kernel
theorem dX12_text_53 : decode cX12_text 53 = .ok (.ifCond .eq 18, 3) := by decide +kernel
theorem dX12_text_56 : decode cX12_text 56 = .ok (.aload_n 0, 1) := by decide +kernel
theorem dX12_text_57 : decode cX12_text 57 = .ok (.getfield 127, 3) := by decide +kernel
theorem dX12_text_60 : decode cX12_text 60 = .ok (.ifCond .eq 11, 3) := by decide +kernel
theorem dX12_text_63 : decode cX12_text 63 = .ok (.aload_n 0, 1) := by decide +kernel
theorem dX12_text_64 : decode cX12_text 64 = .ok (.invokevirtual 300, 3) := by decide +kernel
theorem dX12_text_67 : decode cX12_text 67 = .ok (.istore_n 2, 1) := by decide +kernel
theorem dX12_text_68 : decode cX12_text 68 = .ok (.goto (-16), 3) := by decide +kernel
theorem dX12_text_71 : decode cX12_text 71 = .ok (.iload_n 2, 1) := by decide +kernel
theorem dX12_text_72 : decode cX12_text 72 = .ok (.ifCond .ne 19, 3) := by decide +kernel
theorem dX12_text_75 : decode cX12_text 75 = .ok (.bipush (-2), 2) := by decide +kernel
theorem dX12_text_77 : decode cX12_text 77 = .ok (.bipush 8, 2) := by decide +kernel
theorem dX12_text_79 : decode cX12_text 79 = .ok (.aload_n 0, 1) := by decide +kernel
theorem dX12_text_80 : decode cX12_text 80 = .ok (.getfield 154, 3) := by decide +kernel
theorem dX12_text_83 : decode cX12_text 83 = .ok (.imul, 1) := by decide +kernel
theorem dX12_text_84 : decode cX12_text 84 = .ok (.aload_n 0, 1) := by decide +kernel
theorem dX12_text_85 : decode cX12_text 85 = .ok (.getfield 151, 3) := by decide +kernel
theorem dX12_text_88 : decode cX12_text 88 = .ok (.iadd, 1) := by decide +kernel
theorem dX12_text_89 : decode cX12_text 89 = .ok (.isub, 1) := by decide +kernel
theorem dX12_text_90 : decode cX12_text 90 = .ok (.ireturn, 1) := by decide +kernel
theorem dX12_text_91 : decode cX12_text 91 = .ok (.aload_n 0, 1) := by decide +kernel
theorem dX12_text_92 : decode cX12_text 92 = .ok (.invokevirtual 303, 3) := by decide +kernel
theorem dX12_text_95 : decode cX12_text 95 = .ok (.aload_n 0, 1) := by decide +kernel
theorem dX12_text_96 : decode cX12_text 96 = .ok (.getfield 285, 3) := by decide +kernel
theorem dX12_text_99 : decode cX12_text 99 = .ok (.ireturn, 1) := by decide +kernel
theorem dX12_isRect_0 : decode cX12_isRect 0 = .ok (.iload_n 1, 1) := by decide +kernel
theorem dX12_isRect_1 : decode cX12_isRect 1 = .ok (.i2l, 1) := by decide +kernel
theorem dX12_isRect_2 : decode cX12_isRect 2 = .ok (.lconst 0, 1) := by decide +kernel
theorem dX12_isRect_3 : decode cX12_isRect 3 = .ok (.aload_n 0, 1) := by decide +kernel
theorem dX12_isRect_4 : decode cX12_isRect 4 = .ok (.getfield 285, 3) := by decide +kernel
theorem dX12_isRect_7 : decode cX12_isRect 7 = .ok (.iconst 1, 1) := by decide +kernel
theorem dX12_isRect_8 : decode cX12_isRect 8 = .ok (.isub, 1) := by decide +kernel
theorem dX12_isRect_9 : decode cX12_isRect 9 = .ok (.i2l, 1) := by decide +kernel
theorem dX12_isRect_10 : decode cX12_isRect 10 = .ok (.invokestatic 141, 3) := by decide +kernel
theorem dX12_isRect_13 : decode cX12_isRect 13 = .ok (.ireturn, 1) := by decide +kernel
theorem dX12_doesFail_0 : decode cX12_doesFail 0 = .ok (.aload_n 0, 1) := by decide +kernel
theorem dX12_doesFail_1 : decode cX12_doesFail 1 = .ok (.iload_n 1, 1) := by decide +kernel
theorem dX12_doesFail_2 : decode cX12_doesFail 2 = .ok (.iconst 3, 1) := by decide +kernel
theorem dX12_doesFail_3 : decode cX12_doesFail 3 = .ok (.invokevirtual 306, 3) := by decide +kernel
theorem dX12_doesFail_6 : decode cX12_doesFail 6 = .ok (.iconst 1, 1) := by decide +kernel
theorem dX12_doesFail_7 : decode cX12_doesFail 7 = .ok (.if_icmp .ne 7, 3) := by decide +kernel
theorem dX12_doesFail_10 : decode cX12_doesFail 10 = .ok (.iconst 1, 1) := by decide +kernel
theorem dX12_doesFail_11 : decode cX12_doesFail 11 = .ok (.goto 4, 3) := by decide +kernel
theorem dX12_doesFail_14 : decode cX12_doesFail 14 = .ok (.iconst 0, 1) := by decide +kernel
theorem dX12_doesFail_15 : decode cX12_doesFail 15 = .ok (.ireturn, 1) := by decide +kernel
theorem dX12_kindOf_0 : decode cX12_kindOf 0 = .ok (.iload_n 1, 1) := by decide +kernel
theorem dX12_kindOf_1 : decode cX12_kindOf 1 = .ok (.aload_n 0, 1) := by decide +kernel
theorem dX12_kindOf_2 : decode cX12_kindOf 2 = .ok (.getfield 288, 3) := by decide +kernel
theorem dX12_kindOf_5 : decode cX12_kindOf 5 = .ok (.if_icmp .ge 12, 3) := by decide +kernel
theorem dX12_kindOf_8 : decode cX12_kindOf 8 = .ok (.aload_n 0, 1) := by decide +kernel
theorem dX12_kindOf_9 : decode cX12_kindOf 9 = .ok (.getfield 43, 3) := by decide +kernel
theorem dX12_kindOf_12 : decode cX12_kindOf 12 = .ok (.iload_n 1, 1) := by decide +kernel
theorem dX12_kindOf_13 : decode cX12_kindOf 13 = .ok (.iaload, 1) := by decide +kernel
theorem dX12_kindOf_14 : decode cX12_kindOf 14 = .ok (.goto 4, 3) := by decide +kernel
theorem dX12_kindOf_17 : decode cX12_kindOf 17 = .ok (.iconst 2, 1) := by decide +kernel
theorem dX12_kindOf_18 : decode cX12_kindOf 18 = .ok (.ireturn, 1) := by decide +kernel
theorem dX12_arePerfect_0 : decode cX12_arePerfect 0 = .ok (.aload_n 0, 1) := by decide +kernel
theorem dX12_arePerfect_1 : decode cX12_arePerfect 1 = .ok (.iload_n 1, 1) := by decide +kernel
theorem dX12_arePerfect_2 : decode cX12_arePerfect 2 = .ok (.iconst 0, 1) := by decide +kernel
theorem dX12_arePerfect_3 : decode cX12_arePerfect 3 = .ok (.invokevirtual 306, 3) := by decide +kernel
theorem dX12_arePerfect_6 : decode cX12_arePerfect 6 = .ok (.istore_n 2, 1) := by decide +kernel
theorem dX12_arePerfect_7 : decode cX12_arePerfect 7 = .ok (.iconst 0, 1) := by decide +kernel
theorem dX12_arePerfect_8 : decode cX12_arePerfect 8 = .ok (.istore_n 3, 1) := by decide +kernel
theorem dX12_arePerfect_9 : decode cX12_arePerfect 9 = .ok (.iload_n 3, 1) := by decide +kernel
theorem dX12_arePerfect_10 : decode cX12_arePerfect 10 = .ok (.iload_n 2, 1) := by decide +kernel
theorem dX12_arePerfect_11 : decode cX12_arePerfect 11 = .ok (.if_icmp .ge 48, 3) := by decide +kernel
theorem dX12_arePerfect_14 : decode cX12_arePerfect 14 = .ok (.iconst 0, 1) := by decide +kernel
theorem dX12_arePerfect_15 : decode cX12_arePerfect 15 = .ok (.istore 4, 2) := by decide +kernel
theorem dX12_arePerfect_17 : decode cX12_arePerfect 17 = .ok (.iload 4, 2) := by decide +kernel
theorem dX12_arePerfect_19 : decode cX12_arePerfect 19 = .ok (.iload_n 3, 1) := by decide +kernel
theorem dX12_arePerfect_20 : decode cX12_arePerfect 20 = .ok (.if_icmp .ge 33, 3) := by decide +kernel
theorem dX12_arePerfect_23 : decode cX12_arePerfect 23 = .ok (.aload_n 0, 1) := by decide +kernel
theorem dX12_arePerfect_24 : decode cX12_arePerfect 24 = .ok (.iload_n 1, 1) := by decide +kernel
theorem dX12_arePerfect_25 : decode cX12_arePerfect 25 = .ok (.bipush 84, 2) := by decide +kernel
theorem dX12_arePerfect_27 : decode cX12_arePerfect 27 = .ok (.iload_n 3, 1) := by decide +kernel
theorem dX12_arePerfect_28 : decode cX12_arePerfect 28 = .ok (.iadd, 1) := by decide +kernel
theorem dX12_arePerfect_29 : decode cX12_arePerfect 29 = .ok (.invokevirtual 306, 3) := by decide +kernel
theorem dX12_arePerfect_32 : decode cX12_arePerfect 32 = .ok (.aload_n 0, 1) := by decide +kernel
theorem dX12_arePerfect_33 : decode cX12_arePerfect 33 = .ok (.iload_n 1, 1) := by decide +kernel
theorem dX12_arePerfect_34 : decode cX12_arePerfect 34 = .ok (.bipush 84, 2) := by decide +kernel
theorem dX12_arePerfect_36 : decode cX12_arePerfect 36 = .ok (.iload 4, 2) := by decide +kernel
theorem dX12_arePerfect_38 : decode cX12_arePerfect 38 = .ok (.iadd, 1) := by decide +kernel
theorem dX12_arePerfect_39 : decode cX12_arePerfect 39 = .ok (.invokevirtual 306, 3) := by decide +kernel
theorem dX12_arePerfect_42 : decode cX12_arePerfect 42 = .ok (.if_icmp .ne 5, 3) := by decide +kernel
theorem dX12_arePerfect_45 : decode cX12_arePerfect 45 = .ok (.iconst 0, 1) := by decide +kernel
