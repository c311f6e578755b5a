theorem dX4_takeSizes_21 : decode cX4_takeSizes 21 = .ok (.getfield 66, 3) := by decide +kernel
theorem dX4_takeSizes_24 : decode cX4_takeSizes 24 = .ok (.iload_n 2, 1) := by decide +kernel
theorem dX4_takeSizes_25 : decode cX4_takeSizes 25 = .ok (.iaload, 1) := by decide +kernel
theorem dX4_takeSizes_26 : decode cX4_takeSizes 26 = .ok (.invokestatic 69, 3) := by decide +kernel
theorem dX4_takeSizes_29 : decode cX4_takeSizes 29 = .ok (.iastore, 1) := by decide +kernel
theorem dX4_takeSizes_30 : decode cX4_takeSizes 30 = .ok (.aload_n 0, 1) := by decide +kernel
theorem dX4_takeSizes_31 : decode cX4_takeSizes 31 = .ok (.getfield 24, 3) := by decide +kernel
theorem dX4_takeSizes_34 : decode cX4_takeSizes 34 = .ok (.iload_n 2, 1) := by decide +kernel
theorem dX4_takeSizes_35 : decode cX4_takeSizes 35 = .ok (.iconst 0, 1) := by decide +kernel
theorem dX4_takeSizes_36 : decode cX4_takeSizes 36 = .ok (.bastore, 1) := by decide +kernel
theorem dX4_takeSizes_37 : decode cX4_takeSizes 37 = .ok (.aload_n 0, 1) := by decide +kernel
theorem dX4_takeSizes_38 : decode cX4_takeSizes 38 = .ok (.dup, 1) := by decide +kernel
theorem dX4_takeSizes_39 : decode cX4_takeSizes 39 = .ok (.getfield 45, 3) := by decide +kernel
theorem dX4_takeSizes_42 : decode cX4_takeSizes 42 = .ok (.aload_n 0, 1) := by decide +kernel
theorem dX4_takeSizes_43 : decode cX4_takeSizes 43 = .ok (.getfield 17, 3) := by decide +kernel
theorem dX4_takeSizes_46 : decode cX4_takeSizes 46 = .ok (.iload_n 2, 1) := by decide +kernel
theorem dX4_takeSizes_47 : decode cX4_takeSizes 47 = .ok (.iaload, 1) := by decide +kernel
theorem dX4_takeSizes_48 : decode cX4_takeSizes 48 = .ok (.ifCond .le 7, 3) := by decide +kernel
theorem dX4_takeSizes_51 : decode cX4_takeSizes 51 = .ok (.iconst 1, 1) := by decide +kernel
theorem dX4_takeSizes_52 : decode cX4_takeSizes 52 = .ok (.goto 4, 3) := by decide +kernel
theorem dX4_takeSizes_55 : decode cX4_takeSizes 55 = .ok (.iconst 0, 1) := by decide +kernel
theorem dX4_takeSizes_56 : decode cX4_takeSizes 56 = .ok (.iadd, 1) := by decide +kernel
theorem dX4_takeSizes_57 : decode cX4_takeSizes 57 = .ok (.putfield 45, 3) := by decide +kernel
theorem dX4_takeSizes_60 : decode cX4_takeSizes 60 = .ok (.iinc 2 1, 3) := by decide +kernel
theorem dX4_takeSizes_63 : decode cX4_takeSizes 63 = .ok (.goto (-56), 3) := by decide +kernel
theorem dX4_takeSizes_66 : decode cX4_takeSizes 66 = .ok (.return_, 1) := by decide +kernel
theorem dX4_nextFitting_0 : decode cX4_nextFitting 0 = .ok (.aload_n 0, 1) := by decide +kernel
theorem dX4_nextFitting_1 : decode cX4_nextFitting 1 = .ok (.getfield 11, 3) := by decide +kernel
theorem dX4_nextFitting_4 : decode cX4_nextFitting 4 = .ok (.iload_n 3, 1) := by decide +kernel
theorem dX4_nextFitting_5 : decode cX4_nextFitting 5 = .ok (.aaload, 1) := by decide +kernel
theorem dX4_nextFitting_6 : decode cX4_nextFitting 6 = .ok (.astore 5, 2) := by decide +kernel
theorem dX4_nextFitting_8 : decode cX4_nextFitting 8 = .ok (.aload_n 1, 1) := by decide +kernel
theorem dX4_nextFitting_9 : decode cX4_nextFitting 9 = .ok (.getfield 75, 3) := by decide +kernel
theorem dX4_nextFitting_12 : decode cX4_nextFitting 12 = .ok (.aload 5, 2) := by decide +kernel
theorem dX4_nextFitting_14 : decode cX4_nextFitting 14 = .ok (.invokevirtual 78, 3) := by decide +kernel
theorem dX4_nextFitting_17 : decode cX4_nextFitting 17 = .ok (.isub, 1) := by decide +kernel
theorem dX4_nextFitting_18 : decode cX4_nextFitting 18 = .ok (.istore 6, 2) := by decide +kernel
theorem dX4_nextFitting_20 : decode cX4_nextFitting 20 = .ok (.aload 5, 2) := by decide +kernel
theorem dX4_nextFitting_22 : decode cX4_nextFitting 22 = .ok (.invokevirtual 82, 3) := by decide +kernel
theorem dX4_nextFitting_25 : decode cX4_nextFitting 25 = .ok (.istore 7, 2) := by decide +kernel
theorem dX4_nextFitting_27 : decode cX4_nextFitting 27 = .ok (.iload 4, 2) := by decide +kernel
theorem dX4_nextFitting_29 : decode cX4_nextFitting 29 = .ok (.istore 8, 2) := by decide +kernel
theorem dX4_nextFitting_31 : decode cX4_nextFitting 31 = .ok (.iload 8, 2) := by decide +kernel
theorem dX4_nextFitting_33 : decode cX4_nextFitting 33 = .ok (.aload_n 1, 1) := by decide +kernel
theorem dX4_nextFitting_34 : decode cX4_nextFitting 34 = .ok (.getfield 63, 3) := by decide +kernel
theorem dX4_nextFitting_37 : decode cX4_nextFitting 37 = .ok (.if_icmp .ge 53, 3) := by decide +kernel
theorem dX4_nextFitting_40 : decode cX4_nextFitting 40 = .ok (.aload_n 0, 1) := by decide +kernel
theorem dX4_nextFitting_41 : decode cX4_nextFitting 41 = .ok (.getfield 24, 3) := by decide +kernel
theorem dX4_nextFitting_44 : decode cX4_nextFitting 44 = .ok (.iload 8, 2) := by decide +kernel
theorem dX4_nextFitting_46 : decode cX4_nextFitting 46 = .ok (.baload, 1) := by decide +kernel
theorem dX4_nextFitting_47 : decode cX4_nextFitting 47 = .ok (.ifCond .ne 37, 3) := by decide +kernel
theorem dX4_nextFitting_50 : decode cX4_nextFitting 50 = .ok (.aload_n 0, 1) := by decide +kernel
theorem dX4_nextFitting_51 : decode cX4_nextFitting 51 = .ok (.getfield 17, 3) := by decide +kernel
theorem dX4_nextFitting_54 : decode cX4_nextFitting 54 = .ok (.iload 8, 2) := by decide +kernel
theorem dX4_nextFitting_56 : decode cX4_nextFitting 56 = .ok (.iaload, 1) := by decide +kernel
theorem dX4_nextFitting_57 : decode cX4_nextFitting 57 = .ok (.ifCond .le 27, 3) := by decide +kernel
theorem dX4_nextFitting_60 : decode cX4_nextFitting 60 = .ok (.aload_n 0, 1) := by decide +kernel
theorem dX4_nextFitting_61 : decode cX4_nextFitting 61 = .ok (.getfield 17, 3) := by decide +kernel
theorem dX4_nextFitting_64 : decode cX4_nextFitting 64 = .ok (.iload 8, 2) := by decide +kernel
theorem dX4_nextFitting_66 : decode cX4_nextFitting 66 = .ok (.iaload, 1) := by decide +kernel
theorem dX4_nextFitting_67 : decode cX4_nextFitting 67 = .ok (.iload 7, 2) := by decide +kernel
theorem dX4_nextFitting_69 : decode cX4_nextFitting 69 = .ok (.if_icmp .gt 15, 3) := by decide +kernel
theorem dX4_nextFitting_72 : decode cX4_nextFitting 72 = .ok (.aload_n 2, 1) := by decide +kernel
theorem dX4_nextFitting_73 : decode cX4_nextFitting 73 = .ok (.iload 8, 2) := by decide +kernel
theorem dX4_nextFitting_75 : decode cX4_nextFitting 75 = .ok (.iaload, 1) := by decide +kernel
theorem dX4_nextFitting_76 : decode cX4_nextFitting 76 = .ok (.iload 6, 2) := by decide +kernel
theorem dX4_nextFitting_78 : decode cX4_nextFitting 78 = .ok (.if_icmp .ne 6, 3) := by decide +kernel
theorem dX4_nextFitting_81 : decode cX4_nextFitting 81 = .ok (.iload 8, 2) := by decide +kernel
theorem dX4_nextFitting_83 : decode cX4_nextFitting 83 = .ok (.ireturn, 1) := by decide +kernel
theorem dX4_nextFitting_84 : decode cX4_nextFitting 84 = .ok (.iinc 8 1, 3) := by decide +kernel
theorem dX4_nextFitting_87 : decode cX4_nextFitting 87 = .ok (.goto (-56), 3) := by decide +kernel
theorem dX4_nextFitting_90 : decode cX4_nextFitting 90 = .ok (.iconst (-1), 1) := by decide +kernel
theorem dX4_nextFitting_91 : decode cX4_nextFitting 91 = .ok (.ireturn, 1) := by decide +kernel
theorem dX4_layWire_0 : decode cX4_layWire 0 = .ok (.aload_n 0, 1) := by decide +kernel
theorem dX4_layWire_1 : decode cX4_layWire 1 = .ok (.getfield 21, 3) := by decide +kernel
theorem dX4_layWire_4 : decode cX4_layWire 4 = .ok (.iload_n 2, 1) := by decide +kernel
theorem dX4_layWire_5 : decode cX4_layWire 5 = .ok (.iload_n 1, 1) := by decide +kernel
theorem dX4_layWire_6 : decode cX4_layWire 6 = .ok (.iastore, 1) := by decide +kernel
theorem dX4_layWire_7 : decode cX4_layWire 7 = .ok (.aload_n 0, 1) := by decide +kernel
theorem dX4_layWire_8 : decode cX4_layWire 8 = .ok (.getfield 24, 3) := by decide +kernel
theorem dX4_layWire_11 : decode cX4_layWire 11 = .ok (.iload_n 1, 1) := by decide +kernel
theorem dX4_layWire_12 : decode cX4_layWire 12 = .ok (.iconst 1, 1) := by decide +kernel
theorem dX4_layWire_13 : decode cX4_layWire 13 = .ok (.bastore, 1) := by decide +kernel
theorem dX4_layWire_14 : decode cX4_layWire 14 = .ok (.aload_n 0, 1) := by decide +kernel
theorem dX4_layWire_15 : decode cX4_layWire 15 = .ok (.getfield 11, 3) := by decide +kernel
theorem dX4_layWire_18 : decode cX4_layWire 18 = .ok (.iload_n 2, 1) := by decide +kernel
theorem dX4_layWire_19 : decode cX4_layWire 19 = .ok (.iconst 1, 1) := by decide +kernel
theorem dX4_layWire_20 : decode cX4_layWire 20 = .ok (.iadd, 1) := by decide +kernel
theorem dX4_layWire_21 : decode cX4_layWire 21 = .ok (.aaload, 1) := by decide +kernel
theorem dX4_layWire_22 : decode cX4_layWire 22 = .ok (.aload_n 0, 1) := by decide +kernel
theorem dX4_layWire_23 : decode cX4_layWire 23 = .ok (.getfield 11, 3) := by decide +kernel
theorem dX4_layWire_26 : decode cX4_layWire 26 = .ok (.iload_n 2, 1) := by decide +kernel
theorem dX4_layWire_27 : decode cX4_layWire 27 = .ok (.aaload, 1) := by decide +kernel
theorem dX4_layWire_28 : decode cX4_layWire 28 = .ok (.invokevirtual 85, 3) := by decide +kernel
theorem dX4_layWire_31 : decode cX4_layWire 31 = .ok (.aload_n 0, 1) := by decide +kernel
theorem dX4_layWire_32 : decode cX4_layWire 32 = .ok (.getfield 11, 3) := by decide +kernel
theorem dX4_layWire_35 : decode cX4_layWire 35 = .ok (.iload_n 2, 1) := by decide +kernel
theorem dX4_layWire_36 : decode cX4_layWire 36 = .ok (.iconst 1, 1) := by decide +kernel
theorem dX4_layWire_37 : decode cX4_layWire 37 = .ok (.iadd, 1) := by decide +kernel
theorem dX4_layWire_38 : decode cX4_layWire 38 = .ok (.aaload, 1) := by decide +kernel
theorem dX4_layWire_39 : decode cX4_layWire 39 = .ok (.aload_n 0, 1) := by decide +kernel
theorem dX4_layWire_40 : decode cX4_layWire 40 = .ok (.getfield 17, 3) := by decide +kernel
theorem dX4_layWire_43 : decode cX4_layWire 43 = .ok (.iload_n 1, 1) := by decide +kernel
theorem dX4_layWire_44 : decode cX4_layWire 44 = .ok (.iaload, 1) := by decide +kernel
theorem dX4_layWire_45 : decode cX4_layWire 45 = .ok (.invokevirtual 89, 3) := by decide +kernel
theorem dX4_layWire_48 : decode cX4_layWire 48 = .ok (.return_, 1) := by decide +kernel
theorem dX4_fillDraft_0 : decode cX4_fillDraft 0 = .ok (.aload_n 2, 1) := by decide +kernel
theorem dX4_fillDraft_1 : decode cX4_fillDraft 1 = .ok (.aload_n 1, 1) := by decide +kernel
theorem dX4_fillDraft_2 : decode cX4_fillDraft 2 = .ok (.getfield 35, 3) := by decide +kernel
theorem dX4_fillDraft_5 : decode cX4_fillDraft 5 = .ok (.aload_n 1, 1) := by decide +kernel
theorem dX4_fillDraft_6 : decode cX4_fillDraft 6 = .ok (.getfield 75, 3) := by decide +kernel
theorem dX4_fillDraft_9 : decode cX4_fillDraft 9 = .ok (.invokevirtual 92, 3) := by decide +kernel
theorem dX4_fillDraft_12 : decode cX4_fillDraft 12 = .ok (.iconst 0, 1) := by decide +kernel
theorem dX4_fillDraft_13 : decode cX4_fillDraft 13 = .ok (.istore_n 3, 1) := by decide +kernel
theorem dX4_fillDraft_14 : decode cX4_fillDraft 14 = .ok (.iload_n 3, 1) := by decide +kernel
theorem dX4_fillDraft_15 : decode cX4_fillDraft 15 = .ok (.aload_n 0, 1) := by decide +kernel
theorem dX4_fillDraft_16 : decode cX4_fillDraft 16 = .ok (.getfield 45, 3) := by decide +kernel
theorem dX4_fillDraft_19 : decode cX4_fillDraft 19 = .ok (.if_icmp .ge 42, 3) := by decide +kernel
theorem dX4_fillDraft_22 : decode cX4_fillDraft 22 = .ok (.aload_n 2, 1) := by decide +kernel
theorem dX4_fillDraft_23 : decode cX4_fillDraft 23 = .ok (.aload_n 0, 1) := by decide +kernel
theorem dX4_fillDraft_24 : decode cX4_fillDraft 24 = .ok (.getfield 11, 3) := by decide +kernel
theorem dX4_fillDraft_27 : decode cX4_fillDraft 27 = .ok (.iload_n 3, 1) := by decide +kernel
theorem dX4_fillDraft_28 : decode cX4_fillDraft 28 = .ok (.aaload, 1) := by decide +kernel
theorem dX4_fillDraft_29 : decode cX4_fillDraft 29 = .ok (.invokevirtual 97, 3) := by decide +kernel
theorem dX4_fillDraft_32 : decode cX4_fillDraft 32 = .ok (.aload_n 0, 1) := by decide +kernel
theorem dX4_fillDraft_33 : decode cX4_fillDraft 33 = .ok (.getfield 11, 3) := by decide +kernel
theorem dX4_fillDraft_36 : decode cX4_fillDraft 36 = .ok (.iload_n 3, 1) := by decide +kernel
theorem dX4_fillDraft_37 : decode cX4_fillDraft 37 = .ok (.aaload, 1) := by decide +kernel
theorem dX4_fillDraft_38 : decode cX4_fillDraft 38 = .ok (.invokevirtual 78, 3) := by decide +kernel
theorem dX4_fillDraft_41 : decode cX4_fillDraft 41 = .ok (.aload_n 0, 1) := by decide +kernel
theorem dX4_fillDraft_42 : decode cX4_fillDraft 42 = .ok (.getfield 17, 3) := by decide +kernel
theorem dX4_fillDraft_45 : decode cX4_fillDraft 45 = .ok (.aload_n 0, 1) := by decide +kernel
theorem dX4_fillDraft_46 : decode cX4_fillDraft 46 = .ok (.getfield 21, 3) := by decide +kernel
theorem dX4_fillDraft_49 : decode cX4_fillDraft 49 = .ok (.iload_n 3, 1) := by decide +kernel
theorem dX4_fillDraft_50 : decode cX4_fillDraft 50 = .ok (.iaload, 1) := by decide +kernel
theorem dX4_fillDraft_51 : decode cX4_fillDraft 51 = .ok (.iaload, 1) := by decide +kernel
theorem dX4_fillDraft_52 : decode cX4_fillDraft 52 = .ok (.invokevirtual 100, 3) := by decide +kernel
theorem dX4_fillDraft_55 : decode cX4_fillDraft 55 = .ok (.iinc 3 1, 3) := by decide +kernel
theorem dX4_fillDraft_58 : decode cX4_fillDraft 58 = .ok (.goto (-44), 3) := by decide +kernel
theorem dX4_fillDraft_61 : decode cX4_fillDraft 61 = .ok (.return_, 1) := by decide +kernel
theorem dX5_init_0 : decode cX5_init 0 = .ok (.aload_n 0, 1) := by decide +kernel
theorem dX5_init_1 : decode cX5_init 1 = .ok (.invokespecial 3, 3) := by decide +kernel
theorem dX5_init_4 : decode cX5_init 4 = .ok (.aload_n 0, 1) := by decide +kernel
theorem dX5_init_5 : decode cX5_init 5 = .ok (.bipush 9, 2) := by decide +kernel
theorem dX5_init_7 : decode cX5_init 7 = .ok (.bipush 10, 2) := by decide +kernel
theorem dX5_init_9 : decode cX5_init 9 = .ok (.multianewarray 9 2, 4) := by decide +kernel
theorem dX5_init_13 : decode cX5_init 13 = .ok (.putfield 11, 3) := by decide +kernel
theorem dX5_init_16 : decode cX5_init 16 = .ok (.aload_n 0, 1) := by decide +kernel
theorem dX5_init_17 : decode cX5_init 17 = .ok (.bipush 14, 2) := by decide +kernel
theorem dX5_init_19 : decode cX5_init 19 = .ok (.newarray .int, 2) := by decide +kernel
theorem dX5_init_21 : decode cX5_init 21 = .ok (.putfield 16, 3) := by decide +kernel
theorem dX5_init_24 : decode cX5_init 24 = .ok (.aload_n 0, 1) := by decide +kernel
theorem dX5_init_25 : decode cX5_init 25 = .ok (.bipush 14, 2) := by decide +kernel
theorem dX5_init_27 : decode cX5_init 27 = .ok (.newarray .int, 2) := by decide +kernel
theorem dX5_init_29 : decode cX5_init 29 = .ok (.putfield 20, 3) := by decide +kernel
theorem dX5_init_32 : decode cX5_init 32 = .ok (.aload_n 0, 1) := by decide +kernel
theorem dX5_init_33 : decode cX5_init 33 = .ok (.bipush 14, 2) := by decide +kernel
theorem dX5_init_35 : decode cX5_init 35 = .ok (.newarray .int, 2) := by decide +kernel
theorem dX5_init_37 : decode cX5_init 37 = .ok (.putfield 23, 3) := by decide +kernel
theorem dX5_init_40 : decode cX5_init 40 = .ok (.return_, 1) := by decide +kernel
theorem dX5_solve_0 : decode cX5_solve 0 = .ok (.iconst 2, 1) := by decide +kernel
theorem dX5_solve_1 : decode cX5_solve 1 = .ok (.aload_n 1, 1) := by decide +kernel
theorem dX5_solve_2 : decode cX5_solve 2 = .ok (.iconst 0, 1) := by decide +kernel
theorem dX5_solve_3 : decode cX5_solve 3 = .ok (.iaload, 1) := by decide +kernel
theorem dX5_solve_4 : decode cX5_solve 4 = .ok (.bipush 9, 2) := by decide +kernel
theorem dX5_solve_6 : decode cX5_solve 6 = .ok (.invokestatic 26, 3) := by decide +kernel
theorem dX5_solve_9 : decode cX5_solve 9 = .ok (.invokestatic 32, 3) := by decide +kernel
theorem dX5_solve_12 : decode cX5_solve 12 = .ok (.istore_n 3, 1) := by decide +kernel
theorem dX5_solve_13 : decode cX5_solve 13 = .ok (.iconst 0, 1) := by decide +kernel
theorem dX5_solve_14 : decode cX5_solve 14 = .ok (.iload_n 2, 1) := by decide +kernel
theorem dX5_solve_15 : decode cX5_solve 15 = .ok (.iconst 1, 1) := by decide +kernel
theorem dX5_solve_16 : decode cX5_solve 16 = .ok (.isub, 1) := by decide +kernel
theorem dX5_solve_17 : decode cX5_solve 17 = .ok (.iconst 2, 1) := by decide +kernel
theorem dX5_solve_18 : decode cX5_solve 18 = .ok (.idiv, 1) := by decide +kernel
theorem dX5_solve_19 : decode cX5_solve 19 = .ok (.bipush 14, 2) := by decide +kernel
theorem dX5_solve_21 : decode cX5_solve 21 = .ok (.invokestatic 26, 3) := by decide +kernel
theorem dX5_solve_24 : decode cX5_solve 24 = .ok (.invokestatic 32, 3) := by decide +kernel
theorem dX5_solve_27 : decode cX5_solve 27 = .ok (.istore 4, 2) := by decide +kernel
theorem dX5_solve_29 : decode cX5_solve 29 = .ok (.iconst 0, 1) := by decide +kernel
theorem dX5_solve_30 : decode cX5_solve 30 = .ok (.istore 5, 2) := by decide +kernel
theorem dX5_solve_32 : decode cX5_solve 32 = .ok (.iload 5, 2) := by decide +kernel
theorem dX5_solve_34 : decode cX5_solve 34 = .ok (.iload 4, 2) := by decide +kernel
theorem dX5_solve_36 : decode cX5_solve 36 = .ok (.if_icmp .ge 39, 3) := by decide +kernel
theorem dX5_solve_39 : decode cX5_solve 39 = .ok (.aload_n 0, 1) := by decide +kernel
theorem dX5_solve_40 : decode cX5_solve 40 = .ok (.getfield 16, 3) := by decide +kernel
theorem dX5_solve_43 : decode cX5_solve 43 = .ok (.iload 5, 2) := by decide +kernel
theorem dX5_solve_45 : decode cX5_solve 45 = .ok (.aload_n 1, 1) := by decide +kernel
theorem dX5_solve_46 : decode cX5_solve 46 = .ok (.iconst 1, 1) := by decide +kernel
theorem dX5_solve_47 : decode cX5_solve 47 = .ok (.iconst 2, 1) := by decide +kernel
theorem dX5_solve_48 : decode cX5_solve 48 = .ok (.iload 5, 2) := by decide +kernel
theorem dX5_solve_50 : decode cX5_solve 50 = .ok (.imul, 1) := by decide +kernel
theorem dX5_solve_51 : decode cX5_solve 51 = .ok (.iadd, 1) := by decide +kernel
theorem dX5_solve_52 : decode cX5_solve 52 = .ok (.iaload, 1) := by decide +kernel
theorem dX5_solve_53 : decode cX5_solve 53 = .ok (.iastore, 1) := by decide +kernel
theorem dX5_solve_54 : decode cX5_solve 54 = .ok (.aload_n 0, 1) := by decide +kernel
theorem dX5_solve_55 : decode cX5_solve 55 = .ok (.getfield 20, 3) := by decide +kernel
theorem dX5_solve_58 : decode cX5_solve 58 = .ok (.iload 5, 2) := by decide +kernel
theorem dX5_solve_60 : decode cX5_solve 60 = .ok (.aload_n 1, 1) := by decide +kernel
theorem dX5_solve_61 : decode cX5_solve 61 = .ok (.iconst 2, 1) := by decide +kernel
theorem dX5_solve_62 : decode cX5_solve 62 = .ok (.iconst 2, 1) := by decide +kernel
theorem dX5_solve_63 : decode cX5_solve 63 = .ok (.iload 5, 2) := by decide +kernel
theorem dX5_solve_65 : decode cX5_solve 65 = .ok (.imul, 1) := by decide +kernel
theorem dX5_solve_66 : decode cX5_solve 66 = .ok (.iadd, 1) := by decide +kernel
theorem dX5_solve_67 : decode cX5_solve 67 = .ok (.iaload, 1) := by decide +kernel
theorem dX5_solve_68 : decode cX5_solve 68 = .ok (.iastore, 1) := by decide +kernel
theorem dX5_solve_69 : decode cX5_solve 69 = .ok (.iinc 5 1, 3) := by decide +kernel
theorem dX5_solve_72 : decode cX5_solve 72 = .ok (.goto (-40), 3) := by decide +kernel
theorem dX5_solve_75 : decode cX5_solve 75 = .ok (.new 35, 3) := by decide +kernel
theorem dX5_solve_78 : decode cX5_solve 78 = .ok (.dup, 1) := by decide +kernel
theorem dX5_solve_79 : decode cX5_solve 79 = .ok (.iload_n 3, 1) := by decide +kernel
theorem dX5_solve_80 : decode cX5_solve 80 = .ok (.iload 4, 2) := by decide +kernel
theorem dX5_solve_82 : decode cX5_solve 82 = .ok (.invokespecial 37, 3) := by decide +kernel
theorem dX5_solve_85 : decode cX5_solve 85 = .ok (.astore 5, 2) := by decide +kernel
theorem dX5_solve_87 : decode cX5_solve 87 = .ok (.aload_n 0, 1) := by decide +kernel
theorem dX5_solve_88 : decode cX5_solve 88 = .ok (.iload_n 3, 1) := by decide +kernel
theorem dX5_solve_89 : decode cX5_solve 89 = .ok (.iload 4, 2) := by decide +kernel
theorem dX5_solve_91 : decode cX5_solve 91 = .ok (.invokevirtual 40, 3) := by decide +kernel
theorem dX5_solve_94 : decode cX5_solve 94 = .ok (.aload 5, 2) := by decide +kernel
theorem dX5_solve_96 : decode cX5_solve 96 = .ok (.aload_n 0, 1) := by decide +kernel
theorem dX5_solve_97 : decode cX5_solve 97 = .ok (.iload_n 3, 1) := by decide +kernel
theorem dX5_solve_98 : decode cX5_solve 98 = .ok (.iconst 1, 1) := by decide +kernel
theorem dX5_solve_99 : decode cX5_solve 99 = .ok (.isub, 1) := by decide +kernel
theorem dX5_solve_100 : decode cX5_solve 100 = .ok (.invokevirtual 43, 3) := by decide +kernel
theorem dX5_solve_103 : decode cX5_solve 103 = .ok (.putfield 47, 3) := by decide +kernel
theorem dX5_solve_106 : decode cX5_solve 106 = .ok (.aload 5, 2) := by decide +kernel
theorem dX5_solve_108 : decode cX5_solve 108 = .ok (.getfield 47, 3) := by decide +kernel
theorem dX5_solve_111 : decode cX5_solve 111 = .ok (.lconst 0, 1) := by decide +kernel
theorem dX5_solve_112 : decode cX5_solve 112 = .ok (.lcmp, 1) := by decide +kernel
theorem dX5_solve_113 : decode cX5_solve 113 = .ok (.ifCond .le 9, 3) := by decide +kernel
theorem dX5_solve_116 : decode cX5_solve 116 = .ok (.aload_n 0, 1) := by decide +kernel
theorem dX5_solve_117 : decode cX5_solve 117 = .ok (.aload 5, 2) := by decide +kernel
theorem dX5_solve_119 : decode cX5_solve 119 = .ok (.invokevirtual 51, 3) := by decide +kernel
theorem dX5_solve_122 : decode cX5_solve 122 = .ok (.aload 5, 2) := by decide +kernel
theorem dX5_solve_124 : decode cX5_solve 124 = .ok (.areturn, 1) := by decide +kernel
theorem dX5_fillMatrix_0 : decode cX5_fillMatrix 0 = .ok (.iconst 0, 1) := by decide +kernel
theorem dX5_fillMatrix_1 : decode cX5_fillMatrix 1 = .ok (.istore_n 3, 1) := by decide +kernel
theorem dX5_fillMatrix_2 : decode cX5_fillMatrix 2 = .ok (.iload_n 3, 1) := by decide +kernel
theorem dX5_fillMatrix_3 : decode cX5_fillMatrix 3 = .ok (.iload_n 1, 1) := by decide +kernel
theorem dX5_fillMatrix_4 : decode cX5_fillMatrix 4 = .ok (.if_icmp .ge 19, 3) := by decide +kernel
theorem dX5_fillMatrix_7 : decode cX5_fillMatrix 7 = .ok (.aload_n 0, 1) := by decide +kernel
theorem dX5_fillMatrix_8 : decode cX5_fillMatrix 8 = .ok (.getfield 11, 3) := by decide +kernel
theorem dX5_fillMatrix_11 : decode cX5_fillMatrix 11 = .ok (.iload_n 3, 1) := by decide +kernel
theorem dX5_fillMatrix_12 : decode cX5_fillMatrix 12 = .ok (.aaload, 1) := by decide +kernel
theorem dX5_fillMatrix_13 : decode cX5_fillMatrix 13 = .ok (.lconst 0, 1) := by decide +kernel
theorem dX5_fillMatrix_14 : decode cX5_fillMatrix 14 = .ok (.invokestatic 55, 3) := by decide +kernel
theorem dX5_fillMatrix_17 : decode cX5_fillMatrix 17 = .ok (.iinc 3 1, 3) := by decide +kernel
theorem dX5_fillMatrix_20 : decode cX5_fillMatrix 20 = .ok (.goto (-18), 3) := by decide +kernel
theorem dX5_fillMatrix_23 : decode cX5_fillMatrix 23 = .ok (.iconst 0, 1) := by decide +kernel
theorem dX5_fillMatrix_24 : decode cX5_fillMatrix 24 = .ok (.istore_n 3, 1) := by decide +kernel
theorem dX5_fillMatrix_25 : decode cX5_fillMatrix 25 = .ok (.iload_n 3, 1) := by decide +kernel
theorem dX5_fillMatrix_26 : decode cX5_fillMatrix 26 = .ok (.iload_n 2, 1) := by decide +kernel
theorem dX5_fillMatrix_27 : decode cX5_fillMatrix 27 = .ok (.if_icmp .ge 81, 3) := by decide +kernel
theorem dX5_fillMatrix_30 : decode cX5_fillMatrix 30 = .ok (.aload_n 0, 1) := by decide +kernel
theorem dX5_fillMatrix_31 : decode cX5_fillMatrix 31 = .ok (.getfield 16, 3) := by decide +kernel
theorem dX5_fillMatrix_34 : decode cX5_fillMatrix 34 = .ok (.iload_n 3, 1) := by decide +kernel
theorem dX5_fillMatrix_35 : decode cX5_fillMatrix 35 = .ok (.iaload, 1) := by decide +kernel
theorem dX5_fillMatrix_36 : decode cX5_fillMatrix 36 = .ok (.istore 4, 2) := by decide +kernel
theorem dX5_fillMatrix_38 : decode cX5_fillMatrix 38 = .ok (.aload_n 0, 1) := by decide +kernel
theorem dX5_fillMatrix_39 : decode cX5_fillMatrix 39 = .ok (.getfield 20, 3) := by decide +kernel
theorem dX5_fillMatrix_42 : decode cX5_fillMatrix 42 = .ok (.iload_n 3, 1) := by decide +kernel
theorem dX5_fillMatrix_43 : decode cX5_fillMatrix 43 = .ok (.iaload, 1) := by decide +kernel
theorem dX5_fillMatrix_44 : decode cX5_fillMatrix 44 = .ok (.istore 5, 2) := by decide +kernel
theorem dX5_fillMatrix_46 : decode cX5_fillMatrix 46 = .ok (.aload_n 0, 1) := by decide +kernel
theorem dX5_fillMatrix_47 : decode cX5_fillMatrix 47 = .ok (.getfield 11, 3) := by decide +kernel
theorem dX5_fillMatrix_50 : decode cX5_fillMatrix 50 = .ok (.iload 4, 2) := by decide +kernel
theorem dX5_fillMatrix_52 : decode cX5_fillMatrix 52 = .ok (.aaload, 1) := by decide +kernel
theorem dX5_fillMatrix_53 : decode cX5_fillMatrix 53 = .ok (.iload 4, 2) := by decide +kernel
theorem dX5_fillMatrix_55 : decode cX5_fillMatrix 55 = .ok (.dup2, 1) := by decide +kernel
theorem dX5_fillMatrix_56 : decode cX5_fillMatrix 56 = .ok (.laload, 1) := by decide +kernel
theorem dX5_fillMatrix_57 : decode cX5_fillMatrix 57 = .ok (.lconst 1, 1) := by decide +kernel
theorem dX5_fillMatrix_58 : decode cX5_fillMatrix 58 = .ok (.ladd, 1) := by decide +kernel
theorem dX5_fillMatrix_59 : decode cX5_fillMatrix 59 = .ok (.lastore, 1) := by decide +kernel
theorem dX5_fillMatrix_60 : decode cX5_fillMatrix 60 = .ok (.aload_n 0, 1) := by decide +kernel
theorem dX5_fillMatrix_61 : decode cX5_fillMatrix 61 = .ok (.getfield 11, 3) := by decide +kernel
theorem dX5_fillMatrix_64 : decode cX5_fillMatrix 64 = .ok (.iload 5, 2) := by decide +kernel
theorem dX5_fillMatrix_66 : decode cX5_fillMatrix 66 = .ok (.aaload, 1) := by decide +kernel
theorem dX5_fillMatrix_67 : decode cX5_fillMatrix 67 = .ok (.iload 5, 2) := by decide +kernel
theorem dX5_fillMatrix_69 : decode cX5_fillMatrix 69 = .ok (.dup2, 1) := by decide +kernel
theorem dX5_fillMatrix_70 : decode cX5_fillMatrix 70 = .ok (.laload, 1) := by decide +kernel
theorem dX5_fillMatrix_71 : decode cX5_fillMatrix 71 = .ok (.lconst 1, 1) := by decide +kernel
theorem dX5_fillMatrix_72 : decode cX5_fillMatrix 72 = .ok (.ladd, 1) := by decide +kernel
theorem dX5_fillMatrix_73 : decode cX5_fillMatrix 73 = .ok (.lastore, 1) := by decide +kernel
theorem dX5_fillMatrix_74 : decode cX5_fillMatrix 74 = .ok (.aload_n 0, 1) := by decide +kernel
theorem dX5_fillMatrix_75 : decode cX5_fillMatrix 75 = .ok (.getfield 11, 3) := by decide +kernel
theorem dX5_fillMatrix_78 : decode cX5_fillMatrix 78 = .ok (.iload 4, 2) := by decide +kernel
theorem dX5_fillMatrix_80 : decode cX5_fillMatrix 80 = .ok (.aaload, 1) := by decide +kernel
theorem dX5_fillMatrix_81 : decode cX5_fillMatrix 81 = .ok (.iload 5, 2) := by decide +kernel
theorem dX5_fillMatrix_83 : decode cX5_fillMatrix 83 = .ok (.dup2, 1) := by decide +kernel
theorem dX5_fillMatrix_84 : decode cX5_fillMatrix 84 = .ok (.laload, 1) := by decide +kernel
theorem dX5_fillMatrix_85 : decode cX5_fillMatrix 85 = .ok (.lconst 1, 1) := by decide +kernel
theorem dX5_fillMatrix_86 : decode cX5_fillMatrix 86 = .ok (.lsub, 1) := by decide +kernel
theorem dX5_fillMatrix_87 : decode cX5_fillMatrix 87 = .ok (.lastore, 1) := by decide +kernel
theorem dX5_fillMatrix_88 : decode cX5_fillMatrix 88 = .ok (.aload_n 0, 1) := by decide +kernel
theorem dX5_fillMatrix_89 : decode cX5_fillMatrix 89 = .ok (.getfield 11, 3) := by decide +kernel
theorem dX5_fillMatrix_92 : decode cX5_fillMatrix 92 = .ok (.iload 5, 2) := by decide +kernel
theorem dX5_fillMatrix_94 : decode cX5_fillMatrix 94 = .ok (.aaload, 1) := by decide +kernel
theorem dX5_fillMatrix_95 : decode cX5_fillMatrix 95 = .ok (.iload 4, 2) := by decide +kernel
theorem dX5_fillMatrix_97 : decode cX5_fillMatrix 97 = .ok (.dup2, 1) := by decide +kernel
theorem dX5_fillMatrix_98 : decode cX5_fillMatrix 98 = .ok (.laload, 1) := by decide +kernel
theorem dX5_fillMatrix_99 : decode cX5_fillMatrix 99 = .ok (.lconst 1, 1) := by decide +kernel
theorem dX5_fillMatrix_100 : decode cX5_fillMatrix 100 = .ok (.lsub, 1) := by decide +kernel
theorem dX5_fillMatrix_101 : decode cX5_fillMatrix 101 = .ok (.lastore, 1) := by decide +kernel
theorem dX5_fillMatrix_102 : decode cX5_fillMatrix 102 = .ok (.iinc 3 1, 3) := by decide +kernel
theorem dX5_fillMatrix_105 : decode cX5_fillMatrix 105 = .ok (.goto (-80), 3) := by decide +kernel
theorem dX5_fillMatrix_108 : decode cX5_fillMatrix 108 = .ok (.iload_n 1, 1) := by decide +kernel
theorem dX5_fillMatrix_109 : decode cX5_fillMatrix 109 = .ok (.iconst 1, 1) := by decide +kernel
theorem dX5_fillMatrix_110 : decode cX5_fillMatrix 110 = .ok (.isub, 1) := by decide +kernel
theorem dX5_fillMatrix_111 : decode cX5_fillMatrix 111 = .ok (.istore_n 3, 1) := by decide +kernel
theorem dX5_fillMatrix_112 : decode cX5_fillMatrix 112 = .ok (.iconst 0, 1) := by decide +kernel
theorem dX5_fillMatrix_113 : decode cX5_fillMatrix 113 = .ok (.istore 4, 2) := by decide +kernel
theorem dX5_fillMatrix_115 : decode cX5_fillMatrix 115 = .ok (.iload 4, 2) := by decide +kernel
theorem dX5_fillMatrix_117 : decode cX5_fillMatrix 117 = .ok (.iload_n 3, 1) := by decide +kernel
theorem dX5_fillMatrix_118 : decode cX5_fillMatrix 118 = .ok (.if_icmp .ge 28, 3) := by decide +kernel
theorem dX5_fillMatrix_121 : decode cX5_fillMatrix 121 = .ok (.aload_n 0, 1) := by decide +kernel
theorem dX5_fillMatrix_122 : decode cX5_fillMatrix 122 = .ok (.getfield 11, 3) := by decide +kernel
theorem dX5_fillMatrix_125 : decode cX5_fillMatrix 125 = .ok (.iload 4, 2) := by decide +kernel
theorem dX5_fillMatrix_127 : decode cX5_fillMatrix 127 = .ok (.aaload, 1) := by decide +kernel
theorem dX5_fillMatrix_128 : decode cX5_fillMatrix 128 = .ok (.iload_n 3, 1) := by decide +kernel
theorem dX5_fillMatrix_129 : decode cX5_fillMatrix 129 = .ok (.iload 4, 2) := by decide +kernel
theorem dX5_fillMatrix_131 : decode cX5_fillMatrix 131 = .ok (.ifCond .ne 7, 3) := by decide +kernel
theorem dX5_fillMatrix_134 : decode cX5_fillMatrix 134 = .ok (.lconst 1, 1) := by decide +kernel
theorem dX5_fillMatrix_135 : decode cX5_fillMatrix 135 = .ok (.goto 4, 3) := by decide +kernel
theorem dX5_fillMatrix_138 : decode cX5_fillMatrix 138 = .ok (.lconst 0, 1) := by decide +kernel
theorem dX5_fillMatrix_139 : decode cX5_fillMatrix 139 = .ok (.lastore, 1) := by decide +kernel
theorem dX5_fillMatrix_140 : decode cX5_fillMatrix 140 = .ok (.iinc 4 1, 3) := by decide +kernel
theorem dX5_fillMatrix_143 : decode cX5_fillMatrix 143 = .ok (.goto (-28), 3) := by decide +kernel
theorem dX5_fillMatrix_146 : decode cX5_fillMatrix 146 = .ok (.return_, 1) := by decide +kernel
theorem dX5_eliminate_0 : decode cX5_eliminate 0 = .ok (.lconst 1, 1) := by decide +kernel
theorem dX5_eliminate_1 : decode cX5_eliminate 1 = .ok (.lstore_n 2, 1) := by decide +kernel
theorem dX5_eliminate_2 : decode cX5_eliminate 2 = .ok (.iconst 0, 1) := by decide +kernel
theorem dX5_eliminate_3 : decode cX5_eliminate 3 = .ok (.istore 4, 2) := by decide +kernel
theorem dX5_eliminate_5 : decode cX5_eliminate 5 = .ok (.iload 4, 2) := by decide +kernel
theorem dX5_eliminate_7 : decode cX5_eliminate 7 = .ok (.iload_n 1, 1) := by decide +kernel
theorem dX5_eliminate_8 : decode cX5_eliminate 8 = .ok (.if_icmp .ge 65, 3) := by decide +kernel
theorem dX5_eliminate_11 : decode cX5_eliminate 11 = .ok (.aload_n 0, 1) := by decide +kernel
theorem dX5_eliminate_12 : decode cX5_eliminate 12 = .ok (.getfield 11, 3) := by decide +kernel
theorem dX5_eliminate_15 : decode cX5_eliminate 15 = .ok (.iload 4, 2) := by decide +kernel
theorem dX5_eliminate_17 : decode cX5_eliminate 17 = .ok (.aaload, 1) := by decide +kernel
theorem dX5_eliminate_18 : decode cX5_eliminate 18 = .ok (.iload 4, 2) := by decide +kernel
theorem dX5_eliminate_20 : decode cX5_eliminate 20 = .ok (.laload, 1) := by decide +kernel
theorem dX5_eliminate_21 : decode cX5_eliminate 21 = .ok (.lstore 5, 2) := by decide +kernel
theorem dX5_eliminate_23 : decode cX5_eliminate 23 = .ok (.lload 5, 2) := by decide +kernel
theorem dX5_eliminate_25 : decode cX5_eliminate 25 = .ok (.lconst 0, 1) := by decide +kernel
theorem dX5_eliminate_26 : decode cX5_eliminate 26 = .ok (.lcmp, 1) := by decide +kernel
theorem dX5_eliminate_27 : decode cX5_eliminate 27 = .ok (.ifCond .ne 5, 3) := by decide +kernel
theorem dX5_eliminate_30 : decode cX5_eliminate 30 = .ok (.lconst 0, 1) := by decide +kernel
theorem dX5_eliminate_31 : decode cX5_eliminate 31 = .ok (.lreturn, 1) := by decide +kernel
theorem dX5_eliminate_32 : decode cX5_eliminate 32 = .ok (.iconst 0, 1) := by decide +kernel
theorem dX5_eliminate_33 : decode cX5_eliminate 33 = .ok (.istore 7, 2) := by decide +kernel
theorem dX5_eliminate_35 : decode cX5_eliminate 35 = .ok (.iload 7, 2) := by decide +kernel
theorem dX5_eliminate_37 : decode cX5_eliminate 37 = .ok (.iload_n 1, 1) := by decide +kernel
theorem dX5_eliminate_38 : decode cX5_eliminate 38 = .ok (.if_icmp .ge 26, 3) := by decide +kernel
theorem dX5_eliminate_41 : decode cX5_eliminate 41 = .ok (.iload 7, 2) := by decide +kernel
theorem dX5_eliminate_43 : decode cX5_eliminate 43 = .ok (.iload 4, 2) := by decide +kernel
theorem dX5_eliminate_45 : decode cX5_eliminate 45 = .ok (.if_icmp .eq 13, 3) := by decide +kernel
theorem dX5_eliminate_48 : decode cX5_eliminate 48 = .ok (.aload_n 0, 1) := by decide +kernel
theorem dX5_eliminate_49 : decode cX5_eliminate 49 = .ok (.iload 7, 2) := by decide +kernel
theorem dX5_eliminate_51 : decode cX5_eliminate 51 = .ok (.iload 4, 2) := by decide +kernel
theorem dX5_eliminate_53 : decode cX5_eliminate 53 = .ok (.iload_n 1, 1) := by decide +kernel
theorem dX5_eliminate_54 : decode cX5_eliminate 54 = .ok (.lload_n 2, 1) := by decide +kernel
theorem dX5_eliminate_55 : decode cX5_eliminate 55 = .ok (.invokevirtual 61, 3) := by decide +kernel
theorem dX5_eliminate_58 : decode cX5_eliminate 58 = .ok (.iinc 7 1, 3) := by decide +kernel
theorem dX5_eliminate_61 : decode cX5_eliminate 61 = .ok (.goto (-26), 3) := by decide +kernel
theorem dX5_eliminate_64 : decode cX5_eliminate 64 = .ok (.lload 5, 2) := by decide +kernel
theorem dX5_eliminate_66 : decode cX5_eliminate 66 = .ok (.lstore_n 2, 1) := by decide +kernel
theorem dX5_eliminate_67 : decode cX5_eliminate 67 = .ok (.iinc 4 1, 3) := by decide +kernel
theorem dX5_eliminate_70 : decode cX5_eliminate 70 = .ok (.goto (-65), 3) := by decide +kernel
theorem dX5_eliminate_73 : decode cX5_eliminate 73 = .ok (.lload_n 2, 1) := by decide +kernel
theorem dX5_eliminate_74 : decode cX5_eliminate 74 = .ok (.lreturn, 1) := by decide +kernel
theorem dX5_reduceRow_0 : decode cX5_reduceRow 0 = .ok (.lload 4, 2) := by decide +kernel
theorem dX5_reduceRow_2 : decode cX5_reduceRow 2 = .ok (.lconst 0, 1) := by decide +kernel
theorem dX5_reduceRow_3 : decode cX5_reduceRow 3 = .ok (.lcmp, 1) := by decide +kernel
theorem dX5_reduceRow_4 : decode cX5_reduceRow 4 = .ok (.ifCond .ne 4, 3) := by decide +kernel
theorem dX5_reduceRow_7 : decode cX5_reduceRow 7 = .ok (.return_, 1) := by decide +kernel
theorem dX5_reduceRow_8 : decode cX5_reduceRow 8 = .ok (.aload_n 0, 1) := by decide +kernel
theorem dX5_reduceRow_9 : decode cX5_reduceRow 9 = .ok (.getfield 11, 3) := by decide +kernel
theorem dX5_reduceRow_12 : decode cX5_reduceRow 12 = .ok (.iload_n 2, 1) := by decide +kernel
theorem dX5_reduceRow_13 : decode cX5_reduceRow 13 = .ok (.aaload, 1) := by decide +kernel
theorem dX5_reduceRow_14 : decode cX5_reduceRow 14 = .ok (.iload_n 2, 1) := by decide +kernel
theorem dX5_reduceRow_15 : decode cX5_reduceRow 15 = .ok (.laload, 1) := by decide +kernel
theorem dX5_reduceRow_16 : decode cX5_reduceRow 16 = .ok (.lstore 6, 2) := by decide +kernel
theorem dX5_reduceRow_18 : decode cX5_reduceRow 18 = .ok (.aload_n 0, 1) := by decide +kernel
theorem dX5_reduceRow_19 : decode cX5_reduceRow 19 = .ok (.getfield 11, 3) := by decide +kernel
theorem dX5_reduceRow_22 : decode cX5_reduceRow 22 = .ok (.iload_n 1, 1) := by decide +kernel
theorem dX5_reduceRow_23 : decode cX5_reduceRow 23 = .ok (.aaload, 1) := by decide +kernel
theorem dX5_reduceRow_24 : decode cX5_reduceRow 24 = .ok (.iload_n 2, 1) := by decide +kernel
theorem dX5_reduceRow_25 : decode cX5_reduceRow 25 = .ok (.laload, 1) := by decide +kernel
theorem dX5_reduceRow_26 : decode cX5_reduceRow 26 = .ok (.lstore 8, 2) := by decide +kernel
theorem dX5_reduceRow_28 : decode cX5_reduceRow 28 = .ok (.iconst 0, 1) := by decide +kernel
theorem dX5_reduceRow_29 : decode cX5_reduceRow 29 = .ok (.istore 10, 2) := by decide +kernel
theorem dX5_reduceRow_31 : decode cX5_reduceRow 31 = .ok (.iload 10, 2) := by decide +kernel
theorem dX5_reduceRow_33 : decode cX5_reduceRow 33 = .ok (.iload_n 3, 1) := by decide +kernel
theorem dX5_reduceRow_34 : decode cX5_reduceRow 34 = .ok (.if_icmp .gt 46, 3) := by decide +kernel
theorem dX5_reduceRow_37 : decode cX5_reduceRow 37 = .ok (.aload_n 0, 1) := by decide +kernel
theorem dX5_reduceRow_38 : decode cX5_reduceRow 38 = .ok (.getfield 11, 3) := by decide +kernel
theorem dX5_reduceRow_41 : decode cX5_reduceRow 41 = .ok (.iload_n 1, 1) := by decide +kernel
theorem dX5_reduceRow_42 : decode cX5_reduceRow 42 = .ok (.aaload, 1) := by decide +kernel
theorem dX5_reduceRow_43 : decode cX5_reduceRow 43 = .ok (.iload 10, 2) := by decide +kernel
theorem dX5_reduceRow_45 : decode cX5_reduceRow 45 = .ok (.lload 6, 2) := by decide +kernel
theorem dX5_reduceRow_47 : decode cX5_reduceRow 47 = .ok (.aload_n 0, 1) := by decide +kernel
theorem dX5_reduceRow_48 : decode cX5_reduceRow 48 = .ok (.getfield 11, 3) := by decide +kernel
theorem dX5_reduceRow_51 : decode cX5_reduceRow 51 = .ok (.iload_n 1, 1) := by decide +kernel
theorem dX5_reduceRow_52 : decode cX5_reduceRow 52 = .ok (.aaload, 1) := by decide +kernel
theorem dX5_reduceRow_53 : decode cX5_reduceRow 53 = .ok (.iload 10, 2) := by decide +kernel
theorem dX5_reduceRow_55 : decode cX5_reduceRow 55 = .ok (.laload, 1) := by decide +kernel
theorem dX5_reduceRow_56 : decode cX5_reduceRow 56 = .ok (.lmul, 1) := by decide +kernel
theorem dX5_reduceRow_57 : decode cX5_reduceRow 57 = .ok (.lload 8, 2) := by decide +kernel
theorem dX5_reduceRow_59 : decode cX5_reduceRow 59 = .ok (.aload_n 0, 1) := by decide +kernel
theorem dX5_reduceRow_60 : decode cX5_reduceRow 60 = .ok (.getfield 11, 3) := by decide +kernel
theorem dX5_reduceRow_63 : decode cX5_reduceRow 63 = .ok (.iload_n 2, 1) := by decide +kernel
theorem dX5_reduceRow_64 : decode cX5_reduceRow 64 = .ok (.aaload, 1) := by decide +kernel
theorem dX5_reduceRow_65 : decode cX5_reduceRow 65 = .ok (.iload 10, 2) := by decide +kernel
theorem dX5_reduceRow_67 : decode cX5_reduceRow 67 = .ok (.laload, 1) := by decide +kernel
theorem dX5_reduceRow_68 : decode cX5_reduceRow 68 = .ok (.lmul, 1) := by decide +kernel
theorem dX5_reduceRow_69 : decode cX5_reduceRow 69 = .ok (.lsub, 1) := by decide +kernel
theorem dX5_reduceRow_70 : decode cX5_reduceRow 70 = .ok (.lload 4, 2) := by decide +kernel
theorem dX5_reduceRow_72 : decode cX5_reduceRow 72 = .ok (.ldiv, 1) := by decide +kernel
theorem dX5_reduceRow_73 : decode cX5_reduceRow 73 = .ok (.lastore, 1) := by decide +kernel
theorem dX5_reduceRow_74 : decode cX5_reduceRow 74 = .ok (.iinc 10 1, 3) := by decide +kernel
theorem dX5_reduceRow_77 : decode cX5_reduceRow 77 = .ok (.goto (-46), 3) := by decide +kernel
theorem dX5_reduceRow_80 : decode cX5_reduceRow 80 = .ok (.return_, 1) := by decide +kernel
theorem dX5_setFlow_0 : decode cX5_setFlow 0 = .ok (.aload_n 1, 1) := by decide +kernel
theorem dX5_setFlow_1 : decode cX5_setFlow 1 = .ok (.getfield 65, 3) := by decide +kernel
theorem dX5_setFlow_4 : decode cX5_setFlow 4 = .ok (.iconst 1, 1) := by decide +kernel
theorem dX5_setFlow_5 : decode cX5_setFlow 5 = .ok (.isub, 1) := by decide +kernel
theorem dX5_setFlow_6 : decode cX5_setFlow 6 = .ok (.istore_n 2, 1) := by decide +kernel
theorem dX5_setFlow_7 : decode cX5_setFlow 7 = .ok (.iconst 0, 1) := by decide +kernel
theorem dX5_setFlow_8 : decode cX5_setFlow 8 = .ok (.istore_n 3, 1) := by decide +kernel
theorem dX5_setFlow_9 : decode cX5_setFlow 9 = .ok (.iload_n 3, 1) := by decide +kernel
theorem dX5_setFlow_10 : decode cX5_setFlow 10 = .ok (.iload_n 2, 1) := by decide +kernel
theorem dX5_setFlow_11 : decode cX5_setFlow 11 = .ok (.if_icmp .ge 24, 3) := by decide +kernel
theorem dX5_setFlow_14 : decode cX5_setFlow 14 = .ok (.aload_n 1, 1) := by decide +kernel
theorem dX5_setFlow_15 : decode cX5_setFlow 15 = .ok (.getfield 69, 3) := by decide +kernel
theorem dX5_setFlow_18 : decode cX5_setFlow 18 = .ok (.iload_n 3, 1) := by decide +kernel
theorem dX5_setFlow_19 : decode cX5_setFlow 19 = .ok (.aload_n 0, 1) := by decide +kernel
theorem dX5_setFlow_20 : decode cX5_setFlow 20 = .ok (.getfield 11, 3) := by decide +kernel
theorem dX5_setFlow_23 : decode cX5_setFlow 23 = .ok (.iload_n 3, 1) := by decide +kernel
theorem dX5_setFlow_24 : decode cX5_setFlow 24 = .ok (.aaload, 1) := by decide +kernel
theorem dX5_setFlow_25 : decode cX5_setFlow 25 = .ok (.iload_n 2, 1) := by decide +kernel
theorem dX5_setFlow_26 : decode cX5_setFlow 26 = .ok (.laload, 1) := by decide +kernel
theorem dX5_setFlow_27 : decode cX5_setFlow 27 = .ok (.l2i, 1) := by decide +kernel
theorem dX5_setFlow_28 : decode cX5_setFlow 28 = .ok (.iastore, 1) := by decide +kernel
theorem dX5_setFlow_29 : decode cX5_setFlow 29 = .ok (.iinc 3 1, 3) := by decide +kernel
theorem dX5_setFlow_32 : decode cX5_setFlow 32 = .ok (.goto (-23), 3) := by decide +kernel
theorem dX5_setFlow_35 : decode cX5_setFlow 35 = .ok (.iconst 0, 1) := by decide +kernel
theorem dX5_setFlow_36 : decode cX5_setFlow 36 = .ok (.istore_n 3, 1) := by decide +kernel
theorem dX5_setFlow_37 : decode cX5_setFlow 37 = .ok (.iconst 0, 1) := by decide +kernel
theorem dX5_setFlow_38 : decode cX5_setFlow 38 = .ok (.istore 4, 2) := by decide +kernel
theorem dX5_setFlow_40 : decode cX5_setFlow 40 = .ok (.iload 4, 2) := by decide +kernel
theorem dX5_setFlow_42 : decode cX5_setFlow 42 = .ok (.aload_n 1, 1) := by decide +kernel
theorem dX5_setFlow_43 : decode cX5_setFlow 43 = .ok (.getfield 72, 3) := by decide +kernel
theorem dX5_setFlow_46 : decode cX5_setFlow 46 = .ok (.if_icmp .ge 56, 3) := by decide +kernel
theorem dX5_setFlow_49 : decode cX5_setFlow 49 = .ok (.aload_n 1, 1) := by decide +kernel
theorem dX5_setFlow_50 : decode cX5_setFlow 50 = .ok (.getfield 75, 3) := by decide +kernel
theorem dX5_setFlow_53 : decode cX5_setFlow 53 = .ok (.iload 4, 2) := by decide +kernel
theorem dX5_setFlow_55 : decode cX5_setFlow 55 = .ok (.aload_n 1, 1) := by decide +kernel
theorem dX5_setFlow_56 : decode cX5_setFlow 56 = .ok (.getfield 69, 3) := by decide +kernel
theorem dX5_setFlow_59 : decode cX5_setFlow 59 = .ok (.aload_n 0, 1) := by decide +kernel
theorem dX5_setFlow_60 : decode cX5_setFlow 60 = .ok (.getfield 16, 3) := by decide +kernel
theorem dX5_setFlow_63 : decode cX5_setFlow 63 = .ok (.iload 4, 2) := by decide +kernel
theorem dX5_setFlow_65 : decode cX5_setFlow 65 = .ok (.iaload, 1) := by decide +kernel
theorem dX5_setFlow_66 : decode cX5_setFlow 66 = .ok (.iaload, 1) := by decide +kernel
theorem dX5_setFlow_67 : decode cX5_setFlow 67 = .ok (.aload_n 1, 1) := by decide +kernel
theorem dX5_setFlow_68 : decode cX5_setFlow 68 = .ok (.getfield 69, 3) := by decide +kernel
theorem dX5_setFlow_71 : decode cX5_setFlow 71 = .ok (.aload_n 0, 1) := by decide +kernel
theorem dX5_setFlow_72 : decode cX5_setFlow 72 = .ok (.getfield 20, 3) := by decide +kernel
theorem dX5_setFlow_75 : decode cX5_setFlow 75 = .ok (.iload 4, 2) := by decide +kernel
theorem dX5_setFlow_77 : decode cX5_setFlow 77 = .ok (.iaload, 1) := by decide +kernel
theorem dX5_setFlow_78 : decode cX5_setFlow 78 = .ok (.iaload, 1) := by decide +kernel
theorem dX5_setFlow_79 : decode cX5_setFlow 79 = .ok (.isub, 1) := by decide +kernel
theorem dX5_setFlow_80 : decode cX5_setFlow 80 = .ok (.iastore, 1) := by decide +kernel
theorem dX5_setFlow_81 : decode cX5_setFlow 81 = .ok (.iload_n 3, 1) := by decide +kernel
theorem dX5_setFlow_82 : decode cX5_setFlow 82 = .ok (.aload_n 1, 1) := by decide +kernel
theorem dX5_setFlow_83 : decode cX5_setFlow 83 = .ok (.getfield 75, 3) := by decide +kernel
theorem dX5_setFlow_86 : decode cX5_setFlow 86 = .ok (.iload 4, 2) := by decide +kernel
theorem dX5_setFlow_88 : decode cX5_setFlow 88 = .ok (.iaload, 1) := by decide +kernel
theorem dX5_setFlow_89 : decode cX5_setFlow 89 = .ok (.invokestatic 78, 3) := by decide +kernel
theorem dX5_setFlow_92 : decode cX5_setFlow 92 = .ok (.invokestatic 82, 3) := by decide +kernel
theorem dX5_setFlow_95 : decode cX5_setFlow 95 = .ok (.istore_n 3, 1) := by decide +kernel
theorem dX5_setFlow_96 : decode cX5_setFlow 96 = .ok (.iinc 4 1, 3) := by decide +kernel
theorem dX5_setFlow_99 : decode cX5_setFlow 99 = .ok (.goto (-59), 3) := by decide +kernel
theorem dX5_setFlow_102 : decode cX5_setFlow 102 = .ok (.iload_n 3, 1) := by decide +kernel
theorem dX5_setFlow_103 : decode cX5_setFlow 103 = .ok (.ifCond .ne 4, 3) := by decide +kernel
theorem dX5_setFlow_106 : decode cX5_setFlow 106 = .ok (.return_, 1) := by decide +kernel
theorem dX5_setFlow_107 : decode cX5_setFlow 107 = .ok (.iconst 0, 1) := by decide +kernel
theorem dX5_setFlow_108 : decode cX5_setFlow 108 = .ok (.istore 4, 2) := by decide +kernel
theorem dX5_setFlow_110 : decode cX5_setFlow 110 = .ok (.iload 4, 2) := by decide +kernel
theorem dX5_setFlow_112 : decode cX5_setFlow 112 = .ok (.aload_n 1, 1) := by decide +kernel
theorem dX5_setFlow_113 : decode cX5_setFlow 113 = .ok (.getfield 65, 3) := by decide +kernel
theorem dX5_setFlow_116 : decode cX5_setFlow 116 = .ok (.if_icmp .ge 20, 3) := by decide +kernel
theorem dX5_setFlow_119 : decode cX5_setFlow 119 = .ok (.aload_n 1, 1) := by decide +kernel
theorem dX5_setFlow_120 : decode cX5_setFlow 120 = .ok (.getfield 69, 3) := by decide +kernel
theorem dX5_setFlow_123 : decode cX5_setFlow 123 = .ok (.iload 4, 2) := by decide +kernel
theorem dX5_setFlow_125 : decode cX5_setFlow 125 = .ok (.dup2, 1) := by decide +kernel
theorem dX5_setFlow_126 : decode cX5_setFlow 126 = .ok (.iaload, 1) := by decide +kernel
theorem dX5_setFlow_127 : decode cX5_setFlow 127 = .ok (.iload_n 3, 1) := by decide +kernel
theorem dX5_setFlow_128 : decode cX5_setFlow 128 = .ok (.idiv, 1) := by decide +kernel
theorem dX5_setFlow_129 : decode cX5_setFlow 129 = .ok (.iastore, 1) := by decide +kernel
theorem dX5_setFlow_130 : decode cX5_setFlow 130 = .ok (.iinc 4 1, 3) := by decide +kernel
theorem dX5_setFlow_133 : decode cX5_setFlow 133 = .ok (.goto (-23), 3) := by decide +kernel
theorem dX5_setFlow_136 : decode cX5_setFlow 136 = .ok (.iconst 0, 1) := by decide +kernel
theorem dX5_setFlow_137 : decode cX5_setFlow 137 = .ok (.istore 4, 2) := by decide +kernel
theorem dX5_setFlow_139 : decode cX5_setFlow 139 = .ok (.iload 4, 2) := by decide +kernel
theorem dX5_setFlow_141 : decode cX5_setFlow 141 = .ok (.aload_n 1, 1) := by decide +kernel
theorem dX5_setFlow_142 : decode cX5_setFlow 142 = .ok (.getfield 72, 3) := by decide +kernel
theorem dX5_setFlow_145 : decode cX5_setFlow 145 = .ok (.if_icmp .ge 54, 3) := by decide +kernel
theorem dX5_setFlow_148 : decode cX5_setFlow 148 = .ok (.aload_n 1, 1) := by decide +kernel
theorem dX5_setFlow_149 : decode cX5_setFlow 149 = .ok (.getfield 75, 3) := by decide +kernel
theorem dX5_setFlow_152 : decode cX5_setFlow 152 = .ok (.iload 4, 2) := by decide +kernel
theorem dX5_setFlow_154 : decode cX5_setFlow 154 = .ok (.dup2, 1) := by decide +kernel
theorem dX5_setFlow_155 : decode cX5_setFlow 155 = .ok (.iaload, 1) := by decide +kernel
theorem dX5_setFlow_156 : decode cX5_setFlow 156 = .ok (.iload_n 3, 1) := by decide +kernel
theorem dX5_setFlow_157 : decode cX5_setFlow 157 = .ok (.idiv, 1) := by decide +kernel
theorem dX5_setFlow_158 : decode cX5_setFlow 158 = .ok (.iastore, 1) := by decide +kernel
theorem dX5_setFlow_159 : decode cX5_setFlow 159 = .ok (.aload_n 0, 1) := by decide +kernel
theorem dX5_setFlow_160 : decode cX5_setFlow 160 = .ok (.getfield 23, 3) := by decide +kernel
theorem dX5_setFlow_163 : decode cX5_setFlow 163 = .ok (.iload 4, 2) := by decide +kernel
theorem dX5_setFlow_165 : decode cX5_setFlow 165 = .ok (.aload_n 1, 1) := by decide +kernel
theorem dX5_setFlow_166 : decode cX5_setFlow 166 = .ok (.getfield 69, 3) := by decide +kernel
theorem dX5_setFlow_169 : decode cX5_setFlow 169 = .ok (.aload_n 0, 1) := by decide +kernel
theorem dX5_setFlow_170 : decode cX5_setFlow 170 = .ok (.getfield 16, 3) := by decide +kernel
theorem dX5_setFlow_173 : decode cX5_setFlow 173 = .ok (.iload 4, 2) := by decide +kernel
theorem dX5_setFlow_175 : decode cX5_setFlow 175 = .ok (.iaload, 1) := by decide +kernel
theorem dX5_setFlow_176 : decode cX5_setFlow 176 = .ok (.iaload, 1) := by decide +kernel
theorem dX5_setFlow_177 : decode cX5_setFlow 177 = .ok (.aload_n 1, 1) := by decide +kernel
theorem dX5_setFlow_178 : decode cX5_setFlow 178 = .ok (.getfield 69, 3) := by decide +kernel
theorem dX5_setFlow_181 : decode cX5_setFlow 181 = .ok (.aload_n 0, 1) := by decide +kernel
theorem dX5_setFlow_182 : decode cX5_setFlow 182 = .ok (.getfield 20, 3) := by decide +kernel
theorem dX5_setFlow_185 : decode cX5_setFlow 185 = .ok (.iload 4, 2) := by decide +kernel
theorem dX5_setFlow_187 : decode cX5_setFlow 187 = .ok (.iaload, 1) := by decide +kernel
theorem dX5_setFlow_188 : decode cX5_setFlow 188 = .ok (.iaload, 1) := by decide +kernel
theorem dX5_setFlow_189 : decode cX5_setFlow 189 = .ok (.invokestatic 32, 3) := by decide +kernel
theorem dX5_setFlow_192 : decode cX5_setFlow 192 = .ok (.iastore, 1) := by decide +kernel
theorem dX5_setFlow_193 : decode cX5_setFlow 193 = .ok (.iinc 4 1, 3) := by decide +kernel
theorem dX5_setFlow_196 : decode cX5_setFlow 196 = .ok (.goto (-57), 3) := by decide +kernel
theorem dX5_setFlow_199 : decode cX5_setFlow 199 = .ok (.aload_n 1, 1) := by decide +kernel
theorem dX5_setFlow_200 : decode cX5_setFlow 200 = .ok (.aload_n 1, 1) := by decide +kernel
theorem dX5_setFlow_201 : decode cX5_setFlow 201 = .ok (.getfield 47, 3) := by decide +kernel
theorem dX5_setFlow_204 : decode cX5_setFlow 204 = .ok (.iload_n 3, 1) := by decide +kernel
theorem dX5_setFlow_205 : decode cX5_setFlow 205 = .ok (.i2l, 1) := by decide +kernel
theorem dX5_setFlow_206 : decode cX5_setFlow 206 = .ok (.ldiv, 1) := by decide +kernel
theorem dX5_setFlow_207 : decode cX5_setFlow 207 = .ok (.l2i, 1) := by decide +kernel
theorem dX5_setFlow_208 : decode cX5_setFlow 208 = .ok (.putfield 85, 3) := by decide +kernel
theorem dX5_setFlow_211 : decode cX5_setFlow 211 = .ok (.aload_n 1, 1) := by decide +kernel
theorem dX5_setFlow_212 : decode cX5_setFlow 212 = .ok (.aload_n 1, 1) := by decide +kernel
theorem dX5_setFlow_213 : decode cX5_setFlow 213 = .ok (.getfield 69, 3) := by decide +kernel
theorem dX5_setFlow_216 : decode cX5_setFlow 216 = .ok (.iconst 0, 1) := by decide +kernel
theorem dX5_setFlow_217 : decode cX5_setFlow 217 = .ok (.iaload, 1) := by decide +kernel
theorem dX5_setFlow_218 : decode cX5_setFlow 218 = .ok (.putfield 88, 3) := by decide +kernel
theorem dX5_setFlow_221 : decode cX5_setFlow 221 = .ok (.return_, 1) := by decide +kernel
theorem dX6_init_0 : decode cX6_init 0 = .ok (.aload_n 0, 1) := by decide +kernel
theorem dX6_init_1 : decode cX6_init 1 = .ok (.invokespecial 1, 3) := by decide +kernel
theorem dX6_init_4 : decode cX6_init 4 = .ok (.aload_n 0, 1) := by decide +kernel
theorem dX6_init_5 : decode cX6_init 5 = .ok (.iload_n 1, 1) := by decide +kernel
theorem dX6_init_6 : decode cX6_init 6 = .ok (.iconst 1, 1) := by decide +kernel
theorem dX6_init_7 : decode cX6_init 7 = .ok (.iadd, 1) := by decide +kernel
theorem dX6_init_8 : decode cX6_init 8 = .ok (.newarray .int, 2) := by decide +kernel
theorem dX6_init_10 : decode cX6_init 10 = .ok (.putfield 7, 3) := by decide +kernel
theorem dX6_init_13 : decode cX6_init 13 = .ok (.aload_n 0, 1) := by decide +kernel
theorem dX6_init_14 : decode cX6_init 14 = .ok (.iload_n 1, 1) := by decide +kernel
theorem dX6_init_15 : decode cX6_init 15 = .ok (.iconst 1, 1) := by decide +kernel
theorem dX6_init_16 : decode cX6_init 16 = .ok (.iadd, 1) := by decide +kernel
theorem dX6_init_17 : decode cX6_init 17 = .ok (.newarray .int, 2) := by decide +kernel
theorem dX6_init_19 : decode cX6_init 19 = .ok (.putfield 13, 3) := by decide +kernel
theorem dX6_init_22 : decode cX6_init 22 = .ok (.return_, 1) := by decide +kernel
theorem dX6_open_0 : decode cX6_open 0 = .ok (.aload_n 0, 1) := by decide +kernel
theorem dX6_open_1 : decode cX6_open 1 = .ok (.getfield 7, 3) := by decide +kernel
theorem dX6_open_4 : decode cX6_open 4 = .ok (.iconst 0, 1) := by decide +kernel
theorem dX6_open_5 : decode cX6_open 5 = .ok (.iload_n 1, 1) := by decide +kernel
theorem dX6_open_6 : decode cX6_open 6 = .ok (.iastore, 1) := by decide +kernel
theorem dX6_open_7 : decode cX6_open 7 = .ok (.aload_n 0, 1) := by decide +kernel
theorem dX6_open_8 : decode cX6_open 8 = .ok (.getfield 13, 3) := by decide +kernel
theorem dX6_open_11 : decode cX6_open 11 = .ok (.iconst 0, 1) := by decide +kernel
theorem dX6_open_12 : decode cX6_open 12 = .ok (.iconst 0, 1) := by decide +kernel
theorem dX6_open_13 : decode cX6_open 13 = .ok (.iastore, 1) := by decide +kernel
theorem dX6_open_14 : decode cX6_open 14 = .ok (.aload_n 0, 1) := by decide +kernel
theorem dX6_open_15 : decode cX6_open 15 = .ok (.iconst 1, 1) := by decide +kernel
theorem dX6_open_16 : decode cX6_open 16 = .ok (.putfield 16, 3) := by decide +kernel
theorem dX6_open_19 : decode cX6_open 19 = .ok (.aload_n 0, 1) := by decide +kernel
theorem dX6_open_20 : decode cX6_open 20 = .ok (.iconst 0, 1) := by decide +kernel
theorem dX6_open_21 : decode cX6_open 21 = .ok (.putfield 20, 3) := by decide +kernel
theorem dX6_open_24 : decode cX6_open 24 = .ok (.return_, 1) := by decide +kernel
theorem dX6_copyFrom_0 : decode cX6_copyFrom 0 = .ok (.aload_n 0, 1) := by decide +kernel
theorem dX6_copyFrom_1 : decode cX6_copyFrom 1 = .ok (.aload_n 1, 1) := by decide +kernel
theorem dX6_copyFrom_2 : decode cX6_copyFrom 2 = .ok (.getfield 16, 3) := by decide +kernel
theorem dX6_copyFrom_5 : decode cX6_copyFrom 5 = .ok (.aload_n 0, 1) := by decide +kernel
theorem dX6_copyFrom_6 : decode cX6_copyFrom 6 = .ok (.getfield 7, 3) := by decide +kernel
theorem dX6_copyFrom_9 : decode cX6_copyFrom 9 = .ok (.arraylength, 1) := by decide +kernel
theorem dX6_copyFrom_10 : decode cX6_copyFrom 10 = .ok (.invokestatic 23, 3) := by decide +kernel
theorem dX6_copyFrom_13 : decode cX6_copyFrom 13 = .ok (.putfield 16, 3) := by decide +kernel
theorem dX6_copyFrom_16 : decode cX6_copyFrom 16 = .ok (.aload_n 0, 1) := by decide +kernel
theorem dX6_copyFrom_17 : decode cX6_copyFrom 17 = .ok (.aload_n 1, 1) := by decide +kernel
theorem dX6_copyFrom_18 : decode cX6_copyFrom 18 = .ok (.getfield 20, 3) := by decide +kernel
theorem dX6_copyFrom_21 : decode cX6_copyFrom 21 = .ok (.putfield 20, 3) := by decide +kernel
theorem dX6_copyFrom_24 : decode cX6_copyFrom 24 = .ok (.aload_n 1, 1) := by decide +kernel
theorem dX6_copyFrom_25 : decode cX6_copyFrom 25 = .ok (.getfield 7, 3) := by decide +kernel
theorem dX6_copyFrom_28 : decode cX6_copyFrom 28 = .ok (.iconst 0, 1) := by decide +kernel
theorem dX6_copyFrom_29 : decode cX6_copyFrom 29 = .ok (.aload_n 0, 1) := by decide +kernel
theorem dX6_copyFrom_30 : decode cX6_copyFrom 30 = .ok (.getfield 7, 3) := by decide +kernel
theorem dX6_copyFrom_33 : decode cX6_copyFrom 33 = .ok (.iconst 0, 1) := by decide +kernel
theorem dX6_copyFrom_34 : decode cX6_copyFrom 34 = .ok (.aload_n 0, 1) := by decide +kernel
theorem dX6_copyFrom_35 : decode cX6_copyFrom 35 = .ok (.getfield 16, 3) := by decide +kernel
theorem dX6_copyFrom_38 : decode cX6_copyFrom 38 = .ok (.invokestatic 29, 3) := by decide +kernel
theorem dX6_copyFrom_41 : decode cX6_copyFrom 41 = .ok (.aload_n 1, 1) := by decide +kernel
theorem dX6_copyFrom_42 : decode cX6_copyFrom 42 = .ok (.getfield 13, 3) := by decide +kernel
theorem dX6_copyFrom_45 : decode cX6_copyFrom 45 = .ok (.iconst 0, 1) := by decide +kernel
theorem dX6_copyFrom_46 : decode cX6_copyFrom 46 = .ok (.aload_n 0, 1) := by decide +kernel
theorem dX6_copyFrom_47 : decode cX6_copyFrom 47 = .ok (.getfield 13, 3) := by decide +kernel
theorem dX6_copyFrom_50 : decode cX6_copyFrom 50 = .ok (.iconst 0, 1) := by decide +kernel
theorem dX6_copyFrom_51 : decode cX6_copyFrom 51 = .ok (.aload_n 0, 1) := by decide +kernel
theorem dX6_copyFrom_52 : decode cX6_copyFrom 52 = .ok (.getfield 16, 3) := by decide +kernel
theorem dX6_copyFrom_55 : decode cX6_copyFrom 55 = .ok (.invokestatic 29, 3) := by decide +kernel
theorem dX6_copyFrom_58 : decode cX6_copyFrom 58 = .ok (.return_, 1) := by decide +kernel
theorem dX6_notchLeft_0 : decode cX6_notchLeft 0 = .ok (.aload_n 0, 1) := by decide +kernel
theorem dX6_notchLeft_1 : decode cX6_notchLeft 1 = .ok (.getfield 20, 3) := by decide +kernel
theorem dX6_notchLeft_4 : decode cX6_notchLeft 4 = .ok (.ifCond .ne 7, 3) := by decide +kernel
theorem dX6_notchLeft_7 : decode cX6_notchLeft 7 = .ok (.iconst 0, 1) := by decide +kernel
theorem dX6_notchLeft_8 : decode cX6_notchLeft 8 = .ok (.goto 14, 3) := by decide +kernel
theorem dX6_notchLeft_11 : decode cX6_notchLeft 11 = .ok (.aload_n 0, 1) := by decide +kernel
theorem dX6_notchLeft_12 : decode cX6_notchLeft 12 = .ok (.getfield 7, 3) := by decide +kernel
theorem dX6_notchLeft_15 : decode cX6_notchLeft 15 = .ok (.aload_n 0, 1) := by decide +kernel
theorem dX6_notchLeft_16 : decode cX6_notchLeft 16 = .ok (.getfield 20, 3) := by decide +kernel
theorem dX6_notchLeft_19 : decode cX6_notchLeft 19 = .ok (.iconst 1, 1) := by decide +kernel
theorem dX6_notchLeft_20 : decode cX6_notchLeft 20 = .ok (.isub, 1) := by decide +kernel
theorem dX6_notchLeft_21 : decode cX6_notchLeft 21 = .ok (.iaload, 1) := by decide +kernel
theorem dX6_notchLeft_22 : decode cX6_notchLeft 22 = .ok (.ireturn, 1) := by decide +kernel
theorem dX6_notchWidth_0 : decode cX6_notchWidth 0 = .ok (.aload_n 0, 1) := by decide +kernel
theorem dX6_notchWidth_1 : decode cX6_notchWidth 1 = .ok (.getfield 7, 3) := by decide +kernel
theorem dX6_notchWidth_4 : decode cX6_notchWidth 4 = .ok (.aload_n 0, 1) := by decide +kernel
theorem dX6_notchWidth_5 : decode cX6_notchWidth 5 = .ok (.getfield 20, 3) := by decide +kernel
theorem dX6_notchWidth_8 : decode cX6_notchWidth 8 = .ok (.iaload, 1) := by decide +kernel
theorem dX6_notchWidth_9 : decode cX6_notchWidth 9 = .ok (.aload_n 0, 1) := by decide +kernel
theorem dX6_notchWidth_10 : decode cX6_notchWidth 10 = .ok (.invokevirtual 35, 3) := by decide +kernel
theorem dX6_notchWidth_13 : decode cX6_notchWidth 13 = .ok (.isub, 1) := by decide +kernel
theorem dX6_notchWidth_14 : decode cX6_notchWidth 14 = .ok (.ireturn, 1) := by decide +kernel
theorem dX6_notchDepth_0 : decode cX6_notchDepth 0 = .ok (.aload_n 0, 1) := by decide +kernel
theorem dX6_notchDepth_1 : decode cX6_notchDepth 1 = .ok (.getfield 13, 3) := by decide +kernel
theorem dX6_notchDepth_4 : decode cX6_notchDepth 4 = .ok (.aload_n 0, 1) := by decide +kernel
theorem dX6_notchDepth_5 : decode cX6_notchDepth 5 = .ok (.getfield 20, 3) := by decide +kernel
theorem dX6_notchDepth_8 : decode cX6_notchDepth 8 = .ok (.iaload, 1) := by decide +kernel
theorem dX6_notchDepth_9 : decode cX6_notchDepth 9 = .ok (.ireturn, 1) := by decide +kernel
theorem dX6_lay_0 : decode cX6_lay 0 = .ok (.aload_n 0, 1) := by decide +kernel
theorem dX6_lay_1 : decode cX6_lay 1 = .ok (.invokevirtual 35, 3) := by decide +kernel
theorem dX6_lay_4 : decode cX6_lay 4 = .ok (.iload_n 1, 1) := by decide +kernel
theorem dX6_lay_5 : decode cX6_lay 5 = .ok (.iadd, 1) := by decide +kernel
theorem dX6_lay_6 : decode cX6_lay 6 = .ok (.istore_n 2, 1) := by decide +kernel
theorem dX6_lay_7 : decode cX6_lay 7 = .ok (.iload_n 2, 1) := by decide +kernel
theorem dX6_lay_8 : decode cX6_lay 8 = .ok (.aload_n 0, 1) := by decide +kernel
theorem dX6_lay_9 : decode cX6_lay 9 = .ok (.getfield 7, 3) := by decide +kernel
theorem dX6_lay_12 : decode cX6_lay 12 = .ok (.aload_n 0, 1) := by decide +kernel
theorem dX6_lay_13 : decode cX6_lay 13 = .ok (.getfield 20, 3) := by decide +kernel
theorem dX6_lay_16 : decode cX6_lay 16 = .ok (.iaload, 1) := by decide +kernel
theorem dX6_lay_17 : decode cX6_lay 17 = .ok (.if_icmp .ge 22, 3) := by decide +kernel
theorem dX6_lay_20 : decode cX6_lay 20 = .ok (.aload_n 0, 1) := by decide +kernel
theorem dX6_lay_21 : decode cX6_lay 21 = .ok (.iload_n 2, 1) := by decide +kernel
theorem dX6_lay_22 : decode cX6_lay 22 = .ok (.aload_n 0, 1) := by decide +kernel
theorem dX6_lay_23 : decode cX6_lay 23 = .ok (.getfield 13, 3) := by decide +kernel
theorem dX6_lay_26 : decode cX6_lay 26 = .ok (.aload_n 0, 1) := by decide +kernel
theorem dX6_lay_27 : decode cX6_lay 27 = .ok (.getfield 20, 3) := by decide +kernel
theorem dX6_lay_30 : decode cX6_lay 30 = .ok (.iaload, 1) := by decide +kernel
theorem dX6_lay_31 : decode cX6_lay 31 = .ok (.iload_n 1, 1) := by decide +kernel
theorem dX6_lay_32 : decode cX6_lay 32 = .ok (.iadd, 1) := by decide +kernel
theorem dX6_lay_33 : decode cX6_lay 33 = .ok (.invokevirtual 39, 3) := by decide +kernel
theorem dX6_lay_36 : decode cX6_lay 36 = .ok (.goto 24, 3) := by decide +kernel
theorem dX6_lay_39 : decode cX6_lay 39 = .ok (.aload_n 0, 1) := by decide +kernel
theorem dX6_lay_40 : decode cX6_lay 40 = .ok (.getfield 13, 3) := by decide +kernel
theorem dX6_lay_43 : decode cX6_lay 43 = .ok (.aload_n 0, 1) := by decide +kernel
theorem dX6_lay_44 : decode cX6_lay 44 = .ok (.getfield 20, 3) := by decide +kernel
theorem dX6_lay_47 : decode cX6_lay 47 = .ok (.dup2, 1) := by decide +kernel
theorem dX6_lay_48 : decode cX6_lay 48 = .ok (.iaload, 1) := by decide +kernel
theorem dX6_lay_49 : decode cX6_lay 49 = .ok (.iload_n 1, 1) := by decide +kernel
theorem dX6_lay_50 : decode cX6_lay 50 = .ok (.iadd, 1) := by decide +kernel
theorem dX6_lay_51 : decode cX6_lay 51 = .ok (.iastore, 1) := by decide +kernel
theorem dX6_lay_52 : decode cX6_lay 52 = .ok (.aload_n 0, 1) := by decide +kernel
theorem dX6_lay_53 : decode cX6_lay 53 = .ok (.invokevirtual 43, 3) := by decide +kernel
theorem dX6_lay_56 : decode cX6_lay 56 = .ok (.aload_n 0, 1) := by decide +kernel
theorem dX6_lay_57 : decode cX6_lay 57 = .ok (.invokevirtual 46, 3) := by decide +kernel
theorem dX6_lay_60 : decode cX6_lay 60 = .ok (.return_, 1) := by decide +kernel
theorem dX6_splitNotch_0 : decode cX6_splitNotch 0 = .ok (.aload_n 0, 1) := by decide +kernel
theorem dX6_splitNotch_1 : decode cX6_splitNotch 1 = .ok (.getfield 20, 3) := by decide +kernel
theorem dX6_splitNotch_4 : decode cX6_splitNotch 4 = .ok (.ifCond .le 31, 3) := by decide +kernel
theorem dX6_splitNotch_7 : decode cX6_splitNotch 7 = .ok (.aload_n 0, 1) := by decide +kernel
theorem dX6_splitNotch_8 : decode cX6_splitNotch 8 = .ok (.getfield 13, 3) := by decide +kernel
theorem dX6_splitNotch_11 : decode cX6_splitNotch 11 = .ok (.aload_n 0, 1) := by decide +kernel
theorem dX6_splitNotch_12 : decode cX6_splitNotch 12 = .ok (.getfield 20, 3) := by decide +kernel
theorem dX6_splitNotch_15 : decode cX6_splitNotch 15 = .ok (.iconst 1, 1) := by decide +kernel
theorem dX6_splitNotch_16 : decode cX6_splitNotch 16 = .ok (.isub, 1) := by decide +kernel
theorem dX6_splitNotch_17 : decode cX6_splitNotch 17 = .ok (.iaload, 1) := by decide +kernel
theorem dX6_splitNotch_18 : decode cX6_splitNotch 18 = .ok (.iload_n 2, 1) := by decide +kernel
theorem dX6_splitNotch_19 : decode cX6_splitNotch 19 = .ok (.if_icmp .ne 16, 3) := by decide +kernel
theorem dX6_splitNotch_22 : decode cX6_splitNotch 22 = .ok (.aload_n 0, 1) := by decide +kernel
theorem dX6_splitNotch_23 : decode cX6_splitNotch 23 = .ok (.getfield 7, 3) := by decide +kernel
theorem dX6_splitNotch_26 : decode cX6_splitNotch 26 = .ok (.aload_n 0, 1) := by decide +kernel
theorem dX6_splitNotch_27 : decode cX6_splitNotch 27 = .ok (.getfield 20, 3) := by decide +kernel
theorem dX6_splitNotch_30 : decode cX6_splitNotch 30 = .ok (.iconst 1, 1) := by decide +kernel
theorem dX6_splitNotch_31 : decode cX6_splitNotch 31 = .ok (.isub, 1) := by decide +kernel
theorem dX6_splitNotch_32 : decode cX6_splitNotch 32 = .ok (.iload_n 1, 1) := by decide +kernel
theorem dX6_splitNotch_33 : decode cX6_splitNotch 33 = .ok (.iastore, 1) := by decide +kernel
theorem dX6_splitNotch_34 : decode cX6_splitNotch 34 = .ok (.return_, 1) := by decide +kernel
theorem dX6_splitNotch_35 : decode cX6_splitNotch 35 = .ok (.aload_n 0, 1) := by decide +kernel
theorem dX6_splitNotch_36 : decode cX6_splitNotch 36 = .ok (.getfield 16, 3) := by decide +kernel
theorem dX6_splitNotch_39 : decode cX6_splitNotch 39 = .ok (.aload_n 0, 1) := by decide +kernel
theorem dX6_splitNotch_40 : decode cX6_splitNotch 40 = .ok (.getfield 7, 3) := by decide +kernel
theorem dX6_splitNotch_43 : decode cX6_splitNotch 43 = .ok (.arraylength, 1) := by decide +kernel
theorem dX6_splitNotch_44 : decode cX6_splitNotch 44 = .ok (.if_icmp .lt 4, 3) := by decide +kernel
theorem dX6_splitNotch_47 : decode cX6_splitNotch 47 = .ok (.return_, 1) := by decide +kernel
theorem dX6_splitNotch_48 : decode cX6_splitNotch 48 = .ok (.aload_n 0, 1) := by decide +kernel
theorem dX6_splitNotch_49 : decode cX6_splitNotch 49 = .ok (.getfield 16, 3) := by decide +kernel
theorem dX6_splitNotch_52 : decode cX6_splitNotch 52 = .ok (.istore_n 3, 1) := by decide +kernel
theorem dX6_splitNotch_53 : decode cX6_splitNotch 53 = .ok (.iload_n 3, 1) := by decide +kernel
theorem dX6_splitNotch_54 : decode cX6_splitNotch 54 = .ok (.aload_n 0, 1) := by decide +kernel
theorem dX6_splitNotch_55 : decode cX6_splitNotch 55 = .ok (.getfield 20, 3) := by decide +kernel
theorem dX6_splitNotch_58 : decode cX6_splitNotch 58 = .ok (.if_icmp .le 37, 3) := by decide +kernel
theorem dX6_splitNotch_61 : decode cX6_splitNotch 61 = .ok (.aload_n 0, 1) := by decide +kernel
theorem dX6_splitNotch_62 : decode cX6_splitNotch 62 = .ok (.getfield 7, 3) := by decide +kernel
theorem dX6_splitNotch_65 : decode cX6_splitNotch 65 = .ok (.iload_n 3, 1) := by decide +kernel
theorem dX6_splitNotch_66 : decode cX6_splitNotch 66 = .ok (.aload_n 0, 1) := by decide +kernel
theorem dX6_splitNotch_67 : decode cX6_splitNotch 67 = .ok (.getfield 7, 3) := by decide +kernel
theorem dX6_splitNotch_70 : decode cX6_splitNotch 70 = .ok (.iload_n 3, 1) := by decide +kernel
theorem dX6_splitNotch_71 : decode cX6_splitNotch 71 = .ok (.iconst 1, 1) := by decide +kernel
theorem dX6_splitNotch_72 : decode cX6_splitNotch 72 = .ok (.isub, 1) := by decide +kernel
theorem dX6_splitNotch_73 : decode cX6_splitNotch 73 = .ok (.iaload, 1) := by decide +kernel
theorem dX6_splitNotch_74 : decode cX6_splitNotch 74 = .ok (.iastore, 1) := by decide +kernel
theorem dX6_splitNotch_75 : decode cX6_splitNotch 75 = .ok (.aload_n 0, 1) := by decide +kernel
theorem dX6_splitNotch_76 : decode cX6_splitNotch 76 = .ok (.getfield 13, 3) := by decide +kernel
theorem dX6_splitNotch_79 : decode cX6_splitNotch 79 = .ok (.iload_n 3, 1) := by decide +kernel
theorem dX6_splitNotch_80 : decode cX6_splitNotch 80 = .ok (.aload_n 0, 1) := by decide +kernel
theorem dX6_splitNotch_81 : decode cX6_splitNotch 81 = .ok (.getfield 13, 3) := by decide +kernel
theorem dX6_splitNotch_84 : decode cX6_splitNotch 84 = .ok (.iload_n 3, 1) := by decide +kernel
theorem dX6_splitNotch_85 : decode cX6_splitNotch 85 = .ok (.iconst 1, 1) := by decide +kernel
theorem dX6_splitNotch_86 : decode cX6_splitNotch 86 = .ok (.isub, 1) := by decide +kernel
theorem dX6_splitNotch_87 : decode cX6_splitNotch 87 = .ok (.iaload, 1) := by decide +kernel
theorem dX6_splitNotch_88 : decode cX6_splitNotch 88 = .ok (.iastore, 1) := by decide +kernel
theorem dX6_splitNotch_89 : decode cX6_splitNotch 89 = .ok (.iinc 3 (-1), 3) := by decide +kernel
theorem dX6_splitNotch_92 : decode cX6_splitNotch 92 = .ok (.goto (-39), 3) := by decide +kernel
theorem dX6_splitNotch_95 : decode cX6_splitNotch 95 = .ok (.aload_n 0, 1) := by decide +kernel
theorem dX6_splitNotch_96 : decode cX6_splitNotch 96 = .ok (.dup, 1) := by decide +kernel
theorem dX6_splitNotch_97 : decode cX6_splitNotch 97 = .ok (.getfield 16, 3) := by decide +kernel
theorem dX6_splitNotch_100 : decode cX6_splitNotch 100 = .ok (.iconst 1, 1) := by decide +kernel
theorem dX6_splitNotch_101 : decode cX6_splitNotch 101 = .ok (.iadd, 1) := by decide +kernel
theorem dX6_splitNotch_102 : decode cX6_splitNotch 102 = .ok (.putfield 16, 3) := by decide +kernel
theorem dX6_splitNotch_105 : decode cX6_splitNotch 105 = .ok (.aload_n 0, 1) := by decide +kernel
theorem dX6_splitNotch_106 : decode cX6_splitNotch 106 = .ok (.getfield 7, 3) := by decide +kernel
theorem dX6_splitNotch_109 : decode cX6_splitNotch 109 = .ok (.aload_n 0, 1) := by decide +kernel
theorem dX6_splitNotch_110 : decode cX6_splitNotch 110 = .ok (.getfield 20, 3) := by decide +kernel
theorem dX6_splitNotch_113 : decode cX6_splitNotch 113 = .ok (.iload_n 1, 1) := by decide +kernel
theorem dX6_splitNotch_114 : decode cX6_splitNotch 114 = .ok (.iastore, 1) := by decide +kernel
theorem dX6_splitNotch_115 : decode cX6_splitNotch 115 = .ok (.aload_n 0, 1) := by decide +kernel
theorem dX6_splitNotch_116 : decode cX6_splitNotch 116 = .ok (.getfield 13, 3) := by decide +kernel
theorem dX6_splitNotch_119 : decode cX6_splitNotch 119 = .ok (.aload_n 0, 1) := by decide +kernel
theorem dX6_splitNotch_120 : decode cX6_splitNotch 120 = .ok (.getfield 20, 3) := by decide +kernel
theorem dX6_splitNotch_123 : decode cX6_splitNotch 123 = .ok (.iload_n 2, 1) := by decide +kernel
theorem dX6_splitNotch_124 : decode cX6_splitNotch 124 = .ok (.iastore, 1) := by decide +kernel
theorem dX6_splitNotch_125 : decode cX6_splitNotch 125 = .ok (.aload_n 0, 1) := by decide +kernel
theorem dX6_splitNotch_126 : decode cX6_splitNotch 126 = .ok (.dup, 1) := by decide +kernel
theorem dX6_splitNotch_127 : decode cX6_splitNotch 127 = .ok (.getfield 20, 3) := by decide +kernel
theorem dX6_splitNotch_130 : decode cX6_splitNotch 130 = .ok (.iconst 1, 1) := by decide +kernel
theorem dX6_splitNotch_131 : decode cX6_splitNotch 131 = .ok (.iadd, 1) := by decide +kernel
theorem dX6_splitNotch_132 : decode cX6_splitNotch 132 = .ok (.putfield 20, 3) := by decide +kernel
theorem dX6_splitNotch_135 : decode cX6_splitNotch 135 = .ok (.return_, 1) := by decide +kernel
theorem dX6_mergePieces_0 : decode cX6_mergePieces 0 = .ok (.iconst 0, 1) := by decide +kernel
theorem dX6_mergePieces_1 : decode cX6_mergePieces 1 = .ok (.istore_n 1, 1) := by decide +kernel
theorem dX6_mergePieces_2 : decode cX6_mergePieces 2 = .ok (.iconst 1, 1) := by decide +kernel
theorem dX6_mergePieces_3 : decode cX6_mergePieces 3 = .ok (.istore_n 2, 1) := by decide +kernel
theorem dX6_mergePieces_4 : decode cX6_mergePieces 4 = .ok (.iload_n 2, 1) := by decide +kernel
theorem dX6_mergePieces_5 : decode cX6_mergePieces 5 = .ok (.aload_n 0, 1) := by decide +kernel
theorem dX6_mergePieces_6 : decode cX6_mergePieces 6 = .ok (.getfield 16, 3) := by decide +kernel
theorem dX6_mergePieces_9 : decode cX6_mergePieces 9 = .ok (.if_icmp .ge 51, 3) := by decide +kernel
theorem dX6_mergePieces_12 : decode cX6_mergePieces 12 = .ok (.aload_n 0, 1) := by decide +kernel
theorem dX6_mergePieces_13 : decode cX6_mergePieces 13 = .ok (.getfield 13, 3) := by decide +kernel
theorem dX6_mergePieces_16 : decode cX6_mergePieces 16 = .ok (.iload_n 2, 1) := by decide +kernel
theorem dX6_mergePieces_17 : decode cX6_mergePieces 17 = .ok (.iaload, 1) := by decide +kernel
theorem dX6_mergePieces_18 : decode cX6_mergePieces 18 = .ok (.aload_n 0, 1) := by decide +kernel
theorem dX6_mergePieces_19 : decode cX6_mergePieces 19 = .ok (.getfield 13, 3) := by decide +kernel
theorem dX6_mergePieces_22 : decode cX6_mergePieces 22 = .ok (.iload_n 1, 1) := by decide +kernel
theorem dX6_mergePieces_23 : decode cX6_mergePieces 23 = .ok (.iaload, 1) := by decide +kernel
theorem dX6_mergePieces_24 : decode cX6_mergePieces 24 = .ok (.if_icmp .eq 18, 3) := by decide +kernel
theorem dX6_mergePieces_27 : decode cX6_mergePieces 27 = .ok (.iinc 1 1, 3) := by decide +kernel
theorem dX6_mergePieces_30 : decode cX6_mergePieces 30 = .ok (.aload_n 0, 1) := by decide +kernel
theorem dX6_mergePieces_31 : decode cX6_mergePieces 31 = .ok (.getfield 13, 3) := by decide +kernel
theorem dX6_mergePieces_34 : decode cX6_mergePieces 34 = .ok (.iload_n 1, 1) := by decide +kernel
theorem dX6_mergePieces_35 : decode cX6_mergePieces 35 = .ok (.aload_n 0, 1) := by decide +kernel
theorem dX6_mergePieces_36 : decode cX6_mergePieces 36 = .ok (.getfield 13, 3) := by decide +kernel
theorem dX6_mergePieces_39 : decode cX6_mergePieces 39 = .ok (.iload_n 2, 1) := by decide +kernel
theorem dX6_mergePieces_40 : decode cX6_mergePieces 40 = .ok (.iaload, 1) := by decide +kernel
theorem dX6_mergePieces_41 : decode cX6_mergePieces 41 = .ok (.iastore, 1) := by decide +kernel
theorem dX6_mergePieces_42 : decode cX6_mergePieces 42 = .ok (.aload_n 0, 1) := by decide +kernel
theorem dX6_mergePieces_43 : decode cX6_mergePieces 43 = .ok (.getfield 7, 3) := by decide +kernel
theorem dX6_mergePieces_46 : decode cX6_mergePieces 46 = .ok (.iload_n 1, 1) := by decide +kernel
theorem dX6_mergePieces_47 : decode cX6_mergePieces 47 = .ok (.aload_n 0, 1) := by decide +kernel
theorem dX6_mergePieces_48 : decode cX6_mergePieces 48 = .ok (.getfield 7, 3) := by decide +kernel
theorem dX6_mergePieces_51 : decode cX6_mergePieces 51 = .ok (.iload_n 2, 1) := by decide +kernel
theorem dX6_mergePieces_52 : decode cX6_mergePieces 52 = .ok (.iaload, 1) := by decide +kernel
theorem dX6_mergePieces_53 : decode cX6_mergePieces 53 = .ok (.iastore, 1) := by decide +kernel
theorem dX6_mergePieces_54 : decode cX6_mergePieces 54 = .ok (.iinc 2 1, 3) := by decide +kernel
theorem dX6_mergePieces_57 : decode cX6_mergePieces 57 = .ok (.goto (-53), 3) := by decide +kernel
theorem dX6_mergePieces_60 : decode cX6_mergePieces 60 = .ok (.aload_n 0, 1) := by decide +kernel
theorem dX6_mergePieces_61 : decode cX6_mergePieces 61 = .ok (.iload_n 1, 1) := by decide +kernel
theorem dX6_mergePieces_62 : decode cX6_mergePieces 62 = .ok (.iconst 1, 1) := by decide +kernel
theorem dX6_mergePieces_63 : decode cX6_mergePieces 63 = .ok (.iadd, 1) := by decide +kernel
theorem dX6_mergePieces_64 : decode cX6_mergePieces 64 = .ok (.putfield 16, 3) := by decide +kernel
theorem dX6_mergePieces_67 : decode cX6_mergePieces 67 = .ok (.return_, 1) := by decide +kernel
theorem dX6_findNotch_0 : decode cX6_findNotch 0 = .ok (.aload_n 0, 1) := by decide +kernel
theorem dX6_findNotch_1 : decode cX6_findNotch 1 = .ok (.iconst 0, 1) := by decide +kernel
theorem dX6_findNotch_2 : decode cX6_findNotch 2 = .ok (.putfield 20, 3) := by decide +kernel
theorem dX6_findNotch_5 : decode cX6_findNotch 5 = .ok (.iconst 1, 1) := by decide +kernel
theorem dX6_findNotch_6 : decode cX6_findNotch 6 = .ok (.istore_n 1, 1) := by decide +kernel
theorem dX6_findNotch_7 : decode cX6_findNotch 7 = .ok (.iload_n 1, 1) := by decide +kernel
theorem dX6_findNotch_8 : decode cX6_findNotch 8 = .ok (.aload_n 0, 1) := by decide +kernel
theorem dX6_findNotch_9 : decode cX6_findNotch 9 = .ok (.getfield 16, 3) := by decide +kernel
theorem dX6_findNotch_12 : decode cX6_findNotch 12 = .ok (.if_icmp .ge 32, 3) := by decide +kernel
theorem dX6_findNotch_15 : decode cX6_findNotch 15 = .ok (.aload_n 0, 1) := by decide +kernel
theorem dX6_findNotch_16 : decode cX6_findNotch 16 = .ok (.getfield 13, 3) := by decide +kernel
theorem dX6_findNotch_19 : decode cX6_findNotch 19 = .ok (.iload_n 1, 1) := by decide +kernel
theorem dX6_findNotch_20 : decode cX6_findNotch 20 = .ok (.iaload, 1) := by decide +kernel
theorem dX6_findNotch_21 : decode cX6_findNotch 21 = .ok (.aload_n 0, 1) := by decide +kernel
theorem dX6_findNotch_22 : decode cX6_findNotch 22 = .ok (.getfield 13, 3) := by decide +kernel
theorem dX6_findNotch_25 : decode cX6_findNotch 25 = .ok (.aload_n 0, 1) := by decide +kernel
theorem dX6_findNotch_26 : decode cX6_findNotch 26 = .ok (.getfield 20, 3) := by decide +kernel
theorem dX6_findNotch_29 : decode cX6_findNotch 29 = .ok (.iaload, 1) := by decide +kernel
theorem dX6_findNotch_30 : decode cX6_findNotch 30 = .ok (.if_icmp .ge 8, 3) := by decide +kernel
theorem dX6_findNotch_33 : decode cX6_findNotch 33 = .ok (.aload_n 0, 1) := by decide +kernel
theorem dX6_findNotch_34 : decode cX6_findNotch 34 = .ok (.iload_n 1, 1) := by decide +kernel
theorem dX6_findNotch_35 : decode cX6_findNotch 35 = .ok (.putfield 20, 3) := by decide +kernel
theorem dX6_findNotch_38 : decode cX6_findNotch 38 = .ok (.iinc 1 1, 3) := by decide +kernel
theorem dX6_findNotch_41 : decode cX6_findNotch 41 = .ok (.goto (-34), 3) := by decide +kernel
theorem dX6_findNotch_44 : decode cX6_findNotch 44 = .ok (.return_, 1) := by decide +kernel
theorem dX7_init_0 : decode cX7_init 0 = .ok (.aload_n 0, 1) := by decide +kernel
theorem dX7_init_1 : decode cX7_init 1 = .ok (.invokespecial 3, 3) := by decide +kernel
theorem dX7_init_4 : decode cX7_init 4 = .ok (.aload_n 0, 1) := by decide +kernel
theorem dX7_init_5 : decode cX7_init 5 = .ok (.sipush 480, 3) := by decide +kernel
theorem dX7_init_8 : decode cX7_init 8 = .ok (.newarray .byte, 2) := by decide +kernel
theorem dX7_init_10 : decode cX7_init 10 = .ok (.putfield 11, 3) := by decide +kernel
theorem dX7_init_13 : decode cX7_init 13 = .ok (.return_, 1) := by decide +kernel
theorem dX7_write_0 : decode cX7_write 0 = .ok (.aload_n 0, 1) := by decide +kernel
theorem dX7_write_1 : decode cX7_write 1 = .ok (.iconst 0, 1) := by decide +kernel
theorem dX7_write_2 : decode cX7_write 2 = .ok (.putfield 15, 3) := by decide +kernel
theorem dX7_write_5 : decode cX7_write 5 = .ok (.iconst 0, 1) := by decide +kernel
theorem dX7_write_6 : decode cX7_write 6 = .ok (.istore_n 2, 1) := by decide +kernel
theorem dX7_write_7 : decode cX7_write 7 = .ok (.iload_n 2, 1) := by decide +kernel
theorem dX7_write_8 : decode cX7_write 8 = .ok (.aload_n 1, 1) := by decide +kernel
theorem dX7_write_9 : decode cX7_write 9 = .ok (.getfield 19, 3) := by decide +kernel
theorem dX7_write_12 : decode cX7_write 12 = .ok (.if_icmp .ge 52, 3) := by decide +kernel
theorem dX7_write_15 : decode cX7_write 15 = .ok (.aload_n 1, 1) := by decide +kernel
theorem dX7_write_16 : decode cX7_write 16 = .ok (.iload_n 2, 1) := by decide +kernel
theorem dX7_write_17 : decode cX7_write 17 = .ok (.invokevirtual 24, 3) := by decide +kernel
theorem dX7_write_20 : decode cX7_write 20 = .ok (.ifCond .ne 12, 3) := by decide +kernel
theorem dX7_write_23 : decode cX7_write 23 = .ok (.aload_n 0, 1) := by decide +kernel
theorem dX7_write_24 : decode cX7_write 24 = .ok (.bipush 32, 2) := by decide +kernel
theorem dX7_write_26 : decode cX7_write 26 = .ok (.invokevirtual 28, 3) := by decide +kernel
theorem dX7_write_29 : decode cX7_write 29 = .ok (.goto 19, 3) := by decide +kernel
theorem dX7_write_32 : decode cX7_write 32 = .ok (.iload_n 2, 1) := by decide +kernel
theorem dX7_write_33 : decode cX7_write 33 = .ok (.ifCond .le 9, 3) := by decide +kernel
theorem dX7_write_36 : decode cX7_write 36 = .ok (.aload_n 0, 1) := by decide +kernel
theorem dX7_write_37 : decode cX7_write 37 = .ok (.bipush 41, 2) := by decide +kernel
theorem dX7_write_39 : decode cX7_write 39 = .ok (.invokevirtual 28, 3) := by decide +kernel
theorem dX7_write_42 : decode cX7_write 42 = .ok (.aload_n 0, 1) := by decide +kernel
theorem dX7_write_43 : decode cX7_write 43 = .ok (.bipush 40, 2) := by decide +kernel
theorem dX7_write_45 : decode cX7_write 45 = .ok (.invokevirtual 28, 3) := by decide +kernel
theorem dX7_write_48 : decode cX7_write 48 = .ok (.aload_n 0, 1) := by decide +kernel
theorem dX7_write_49 : decode cX7_write 49 = .ok (.aload_n 1, 1) := by decide +kernel
theorem dX7_write_50 : decode cX7_write 50 = .ok (.getfield 32, 3) := by decide +kernel
theorem dX7_write_53 : decode cX7_write 53 = .ok (.iload_n 2, 1) := by decide +kernel
theorem dX7_write_54 : decode cX7_write 54 = .ok (.iaload, 1) := by decide +kernel
theorem dX7_write_55 : decode cX7_write 55 = .ok (.invokevirtual 36, 3) := by decide +kernel
theorem dX7_write_58 : decode cX7_write 58 = .ok (.iinc 2 1, 3) := by decide +kernel
theorem dX7_write_61 : decode cX7_write 61 = .ok (.goto (-54), 3) := by decide +kernel
theorem dX7_write_64 : decode cX7_write 64 = .ok (.aload_n 0, 1) := by decide +kernel
theorem dX7_write_65 : decode cX7_write 65 = .ok (.bipush 41, 2) := by decide +kernel
theorem dX7_write_67 : decode cX7_write 67 = .ok (.invokevirtual 28, 3) := by decide +kernel
theorem dX7_write_70 : decode cX7_write 70 = .ok (.return_, 1) := by decide +kernel
theorem dX7_putNumber_0 : decode cX7_putNumber 0 = .ok (.ldc 39, 2) := by decide +kernel
theorem dX7_putNumber_2 : decode cX7_putNumber 2 = .ok (.istore_n 2, 1) := by decide +kernel
theorem dX7_putNumber_3 : decode cX7_putNumber 3 = .ok (.iload_n 2, 1) := by decide +kernel
theorem dX7_putNumber_4 : decode cX7_putNumber 4 = .ok (.ifCond .le 34, 3) := by decide +kernel
theorem dX7_putNumber_7 : decode cX7_putNumber 7 = .ok (.iload_n 2, 1) := by decide +kernel
theorem dX7_putNumber_8 : decode cX7_putNumber 8 = .ok (.iload_n 1, 1) := by decide +kernel
theorem dX7_putNumber_9 : decode cX7_putNumber 9 = .ok (.if_icmp .le 8, 3) := by decide +kernel
theorem dX7_putNumber_12 : decode cX7_putNumber 12 = .ok (.iload_n 2, 1) := by decide +kernel
theorem dX7_putNumber_13 : decode cX7_putNumber 13 = .ok (.iconst 1, 1) := by decide +kernel
theorem dX7_putNumber_14 : decode cX7_putNumber 14 = .ok (.if_icmp .ne 16, 3) := by decide +kernel
theorem dX7_putNumber_17 : decode cX7_putNumber 17 = .ok (.aload_n 0, 1) := by decide +kernel
theorem dX7_putNumber_18 : decode cX7_putNumber 18 = .ok (.bipush 48, 2) := by decide +kernel
theorem dX7_putNumber_20 : decode cX7_putNumber 20 = .ok (.iload_n 1, 1) := by decide +kernel
theorem dX7_putNumber_21 : decode cX7_putNumber 21 = .ok (.iload_n 2, 1) := by decide +kernel
theorem dX7_putNumber_22 : decode cX7_putNumber 22 = .ok (.idiv, 1) := by decide +kernel
theorem dX7_putNumber_23 : decode cX7_putNumber 23 = .ok (.bipush 10, 2) := by decide +kernel
theorem dX7_putNumber_25 : decode cX7_putNumber 25 = .ok (.irem, 1) := by decide +kernel
theorem dX7_putNumber_26 : decode cX7_putNumber 26 = .ok (.iadd, 1) := by decide +kernel
theorem dX7_putNumber_27 : decode cX7_putNumber 27 = .ok (.invokevirtual 28, 3) := by decide +kernel
theorem dX7_putNumber_30 : decode cX7_putNumber 30 = .ok (.iload_n 2, 1) := by decide +kernel
theorem dX7_putNumber_31 : decode cX7_putNumber 31 = .ok (.bipush 10, 2) := by decide +kernel
theorem dX7_putNumber_33 : decode cX7_putNumber 33 = .ok (.idiv, 1) := by decide +kernel
theorem dX7_putNumber_34 : decode cX7_putNumber 34 = .ok (.istore_n 2, 1) := by decide +kernel
theorem dX7_putNumber_35 : decode cX7_putNumber 35 = .ok (.goto (-32), 3) := by decide +kernel
theorem dX7_putNumber_38 : decode cX7_putNumber 38 = .ok (.return_, 1) := by decide +kernel
theorem dX7_put_0 : decode cX7_put 0 = .ok (.aload_n 0, 1) := by decide +kernel
theorem dX7_put_1 : decode cX7_put 1 = .ok (.getfield 15, 3) := by decide +kernel
theorem dX7_put_4 : decode cX7_put 4 = .ok (.sipush 480, 3) := by decide +kernel
theorem dX7_put_7 : decode cX7_put 7 = .ok (.if_icmp .ge 24, 3) := by decide +kernel
theorem dX7_put_10 : decode cX7_put 10 = .ok (.aload_n 0, 1) := by decide +kernel
theorem dX7_put_11 : decode cX7_put 11 = .ok (.getfield 11, 3) := by decide +kernel
theorem dX7_put_14 : decode cX7_put 14 = .ok (.aload_n 0, 1) := by decide +kernel
theorem dX7_put_15 : decode cX7_put 15 = .ok (.getfield 15, 3) := by decide +kernel
theorem dX7_put_18 : decode cX7_put 18 = .ok (.iload_n 1, 1) := by decide +kernel
theorem dX7_put_19 : decode cX7_put 19 = .ok (.i2b, 1) := by decide +kernel
theorem dX7_put_20 : decode cX7_put 20 = .ok (.bastore, 1) := by decide +kernel
theorem dX7_put_21 : decode cX7_put 21 = .ok (.aload_n 0, 1) := by decide +kernel
theorem dX7_put_22 : decode cX7_put 22 = .ok (.dup, 1) := by decide +kernel
theorem dX7_put_23 : decode cX7_put 23 = .ok (.getfield 15, 3) := by decide +kernel
theorem dX7_put_26 : decode cX7_put 26 = .ok (.iconst 1, 1) := by decide +kernel
theorem dX7_put_27 : decode cX7_put 27 = .ok (.iadd, 1) := by decide +kernel
theorem dX7_put_28 : decode cX7_put 28 = .ok (.putfield 15, 3) := by decide +kernel
theorem dX7_put_31 : decode cX7_put 31 = .ok (.return_, 1) := by decide +kernel
theorem dX8_init_0 : decode cX8_init 0 = .ok (.aload_n 0, 1) := by decide +kernel
theorem dX8_init_1 : decode cX8_init 1 = .ok (.invokespecial 3, 3) := by decide +kernel
theorem dX8_init_4 : decode cX8_init 4 = .ok (.aload_n 0, 1) := by decide +kernel
theorem dX8_init_5 : decode cX8_init 5 = .ok (.sipush 600, 3) := by decide +kernel
theorem dX8_init_8 : decode cX8_init 8 = .ok (.newarray .byte, 2) := by decide +kernel
theorem dX8_init_10 : decode cX8_init 10 = .ok (.putfield 9, 3) := by decide +kernel
theorem dX8_init_13 : decode cX8_init 13 = .ok (.aload_n 0, 1) := by decide +kernel
theorem dX8_init_14 : decode cX8_init 14 = .ok (.bipush 6, 2) := by decide +kernel
theorem dX8_init_16 : decode cX8_init 16 = .ok (.newarray .long, 2) := by decide +kernel
theorem dX8_init_18 : decode cX8_init 18 = .ok (.putfield 15, 3) := by decide +kernel
theorem dX8_init_21 : decode cX8_init 21 = .ok (.aload_n 0, 1) := by decide +kernel
theorem dX8_init_22 : decode cX8_init 22 = .ok (.bipush 6, 2) := by decide +kernel
theorem dX8_init_24 : decode cX8_init 24 = .ok (.newarray .boolean, 2) := by decide +kernel
theorem dX8_init_26 : decode cX8_init 26 = .ok (.putfield 19, 3) := by decide +kernel
theorem dX8_init_29 : decode cX8_init 29 = .ok (.aload_n 0, 1) := by decide +kernel
theorem dX8_init_30 : decode cX8_init 30 = .ok (.bipush 6, 2) := by decide +kernel
theorem dX8_init_32 : decode cX8_init 32 = .ok (.newarray .int, 2) := by decide +kernel
theorem dX8_init_34 : decode cX8_init 34 = .ok (.putfield 23, 3) := by decide +kernel
theorem dX8_init_37 : decode cX8_init 37 = .ok (.aload_n 0, 1) := by decide +kernel
theorem dX8_init_38 : decode cX8_init 38 = .ok (.bipush 6, 2) := by decide +kernel
theorem dX8_init_40 : decode cX8_init 40 = .ok (.bipush 29, 2) := by decide +kernel
theorem dX8_init_42 : decode cX8_init 42 = .ok (.multianewarray 27 2, 4) := by decide +kernel
theorem dX8_init_46 : decode cX8_init 46 = .ok (.putfield 29, 3) := by decide +kernel
theorem dX8_init_49 : decode cX8_init 49 = .ok (.aload_n 0, 1) := by decide +kernel
theorem dX8_init_50 : decode cX8_init 50 = .ok (.bipush 6, 2) := by decide +kernel
theorem dX8_init_52 : decode cX8_init 52 = .ok (.bipush 29, 2) := by decide +kernel
theorem dX8_init_54 : decode cX8_init 54 = .ok (.multianewarray 27 2, 4) := by decide +kernel
theorem dX8_init_58 : decode cX8_init 58 = .ok (.putfield 32, 3) := by decide +kernel
theorem dX8_init_61 : decode cX8_init 61 = .ok (.return_, 1) := by decide +kernel
theorem dX8_takeFourBytes_0 : decode cX8_takeFourBytes 0 = .ok (.bipush 24, 2) := by decide +kernel
theorem dX8_takeFourBytes_2 : decode cX8_takeFourBytes 2 = .ok (.istore_n 2, 1) := by decide +kernel
theorem dX8_takeFourBytes_3 : decode cX8_takeFourBytes 3 = .ok (.iload_n 2, 1) := by decide +kernel
theorem dX8_takeFourBytes_4 : decode cX8_takeFourBytes 4 = .ok (.ifCond .lt 42, 3) := by decide +kernel
theorem dX8_takeFourBytes_7 : decode cX8_takeFourBytes 7 = .ok (.aload_n 0, 1) := by decide +kernel
theorem dX8_takeFourBytes_8 : decode cX8_takeFourBytes 8 = .ok (.getfield 35, 3) := by decide +kernel
theorem dX8_takeFourBytes_11 : decode cX8_takeFourBytes 11 = .ok (.sipush 600, 3) := by decide +kernel
theorem dX8_takeFourBytes_14 : decode cX8_takeFourBytes 14 = .ok (.if_icmp .ge 32, 3) := by decide +kernel
theorem dX8_takeFourBytes_17 : decode cX8_takeFourBytes 17 = .ok (.aload_n 0, 1) := by decide +kernel
theorem dX8_takeFourBytes_18 : decode cX8_takeFourBytes 18 = .ok (.getfield 9, 3) := by decide +kernel
theorem dX8_takeFourBytes_21 : decode cX8_takeFourBytes 21 = .ok (.aload_n 0, 1) := by decide +kernel
theorem dX8_takeFourBytes_22 : decode cX8_takeFourBytes 22 = .ok (.getfield 35, 3) := by decide +kernel
theorem dX8_takeFourBytes_25 : decode cX8_takeFourBytes 25 = .ok (.iload_n 1, 1) := by decide +kernel
theorem dX8_takeFourBytes_26 : decode cX8_takeFourBytes 26 = .ok (.iload_n 2, 1) := by decide +kernel
theorem dX8_takeFourBytes_27 : decode cX8_takeFourBytes 27 = .ok (.ishr, 1) := by decide +kernel
theorem dX8_takeFourBytes_28 : decode cX8_takeFourBytes 28 = .ok (.i2b, 1) := by decide +kernel
theorem dX8_takeFourBytes_29 : decode cX8_takeFourBytes 29 = .ok (.bastore, 1) := by decide +kernel
theorem dX8_takeFourBytes_30 : decode cX8_takeFourBytes 30 = .ok (.aload_n 0, 1) := by decide +kernel
theorem dX8_takeFourBytes_31 : decode cX8_takeFourBytes 31 = .ok (.dup, 1) := by decide +kernel
theorem dX8_takeFourBytes_32 : decode cX8_takeFourBytes 32 = .ok (.getfield 35, 3) := by decide +kernel
theorem dX8_takeFourBytes_35 : decode cX8_takeFourBytes 35 = .ok (.iconst 1, 1) := by decide +kernel
theorem dX8_takeFourBytes_36 : decode cX8_takeFourBytes 36 = .ok (.iadd, 1) := by decide +kernel
theorem dX8_takeFourBytes_37 : decode cX8_takeFourBytes 37 = .ok (.putfield 35, 3) := by decide +kernel
theorem dX8_takeFourBytes_40 : decode cX8_takeFourBytes 40 = .ok (.iinc 2 (-8), 3) := by decide +kernel
theorem dX8_takeFourBytes_43 : decode cX8_takeFourBytes 43 = .ok (.goto (-40), 3) := by decide +kernel
theorem dX8_takeFourBytes_46 : decode cX8_takeFourBytes 46 = .ok (.return_, 1) := by decide +kernel
theorem dX8_read_0 : decode cX8_read 0 = .ok (.aload_n 0, 1) := by decide +kernel
theorem dX8_read_1 : decode cX8_read 1 = .ok (.iload_n 1, 1) := by decide +kernel
theorem dX8_read_2 : decode cX8_read 2 = .ok (.aload_n 0, 1) := by decide +kernel
theorem dX8_read_3 : decode cX8_read 3 = .ok (.getfield 35, 3) := by decide +kernel
theorem dX8_read_6 : decode cX8_read 6 = .ok (.invokestatic 39, 3) := by decide +kernel
theorem dX8_read_9 : decode cX8_read 9 = .ok (.putfield 45, 3) := by decide +kernel
theorem dX8_read_12 : decode cX8_read 12 = .ok (.aload_n 0, 1) := by decide +kernel
theorem dX8_read_13 : decode cX8_read 13 = .ok (.iconst 0, 1) := by decide +kernel
theorem dX8_read_14 : decode cX8_read 14 = .ok (.putfield 35, 3) := by decide +kernel
theorem dX8_read_17 : decode cX8_read 17 = .ok (.aload_n 0, 1) := by decide +kernel
theorem dX8_read_18 : decode cX8_read 18 = .ok (.iconst 0, 1) := by decide +kernel
theorem dX8_read_19 : decode cX8_read 19 = .ok (.putfield 48, 3) := by decide +kernel
theorem dX8_read_22 : decode cX8_read 22 = .ok (.aload_n 0, 1) := by decide +kernel
theorem dX8_read_23 : decode cX8_read 23 = .ok (.iconst 0, 1) := by decide +kernel
theorem dX8_read_24 : decode cX8_read 24 = .ok (.putfield 51, 3) := by decide +kernel
theorem dX8_read_27 : decode cX8_read 27 = .ok (.aload_n 0, 1) := by decide +kernel
theorem dX8_read_28 : decode cX8_read 28 = .ok (.invokevirtual 54, 3) := by decide +kernel
theorem dX8_read_31 : decode cX8_read 31 = .ok (.iconst 0, 1) := by decide +kernel
theorem dX8_read_32 : decode cX8_read 32 = .ok (.istore_n 2, 1) := by decide +kernel
theorem dX8_read_33 : decode cX8_read 33 = .ok (.iload_n 2, 1) := by decide +kernel
theorem dX8_read_34 : decode cX8_read 34 = .ok (.bipush 6, 2) := by decide +kernel
theorem dX8_read_36 : decode cX8_read 36 = .ok (.if_icmp .gt 27, 3) := by decide +kernel
theorem dX8_read_39 : decode cX8_read 39 = .ok (.aload_n 0, 1) := by decide +kernel
theorem dX8_read_40 : decode cX8_read 40 = .ok (.getfield 57, 3) := by decide +kernel
theorem dX8_read_43 : decode cX8_read 43 = .ok (.ifCond .eq 20, 3) := by decide +kernel
theorem dX8_read_46 : decode cX8_read 46 = .ok (.aload_n 0, 1) := by decide +kernel
theorem dX8_read_47 : decode cX8_read 47 = .ok (.invokevirtual 60, 3) := by decide +kernel
theorem dX8_read_50 : decode cX8_read 50 = .ok (.istore_n 3, 1) := by decide +kernel
theorem dX8_read_51 : decode cX8_read 51 = .ok (.iload_n 3, 1) := by decide +kernel
theorem dX8_read_52 : decode cX8_read 52 = .ok (.ifCond .eq 5, 3) := by decide +kernel
theorem dX8_read_55 : decode cX8_read 55 = .ok (.iload_n 3, 1) := by decide +kernel
theorem dX8_read_56 : decode cX8_read 56 = .ok (.ireturn, 1) := by decide +kernel
theorem dX8_read_57 : decode cX8_read 57 = .ok (.iinc 2 1, 3) := by decide +kernel
theorem dX8_read_60 : decode cX8_read 60 = .ok (.goto (-27), 3) := by decide +kernel
theorem dX8_read_63 : decode cX8_read 63 = .ok (.iconst 0, 1) := by decide +kernel
theorem dX8_read_64 : decode cX8_read 64 = .ok (.ireturn, 1) := by decide +kernel
theorem dX8_readLine_0 : decode cX8_readLine 0 = .ok (.aload_n 0, 1) := by decide +kernel
theorem dX8_readLine_1 : decode cX8_readLine 1 = .ok (.ldc2_w 64, 3) := by decide +kernel
theorem dX8_readLine_4 : decode cX8_readLine 4 = .ok (.invokevirtual 66, 3) := by decide +kernel
theorem dX8_readLine_7 : decode cX8_readLine 7 = .ok (.istore_n 1, 1) := by decide +kernel
theorem dX8_readLine_8 : decode cX8_readLine 8 = .ok (.iload_n 1, 1) := by decide +kernel
theorem dX8_readLine_9 : decode cX8_readLine 9 = .ok (.ifCond .ne 19, 3) := by decide +kernel
theorem dX8_readLine_12 : decode cX8_readLine 12 = .ok (.aload_n 0, 1) := by decide +kernel
theorem dX8_readLine_13 : decode cX8_readLine 13 = .ok (.ldc2_w 70, 3) := by decide +kernel
theorem dX8_readLine_16 : decode cX8_readLine 16 = .ok (.invokevirtual 66, 3) := by decide +kernel
theorem dX8_readLine_19 : decode cX8_readLine 19 = .ok (.ifCond .ne 9, 3) := by decide +kernel
theorem dX8_readLine_22 : decode cX8_readLine 22 = .ok (.aload_n 0, 1) := by decide +kernel
theorem dX8_readLine_23 : decode cX8_readLine 23 = .ok (.iconst 1, 1) := by decide +kernel
theorem dX8_readLine_24 : decode cX8_readLine 24 = .ok (.invokevirtual 72, 3) := by decide +kernel
theorem dX8_readLine_27 : decode cX8_readLine 27 = .ok (.ireturn, 1) := by decide +kernel
theorem dX8_readLine_28 : decode cX8_readLine 28 = .ok (.aload_n 0, 1) := by decide +kernel
theorem dX8_readLine_29 : decode cX8_readLine 29 = .ok (.getfield 51, 3) := by decide +kernel
theorem dX8_readLine_32 : decode cX8_readLine 32 = .ok (.bipush 6, 2) := by decide +kernel
theorem dX8_readLine_34 : decode cX8_readLine 34 = .ok (.if_icmp .lt 9, 3) := by decide +kernel
theorem dX8_readLine_37 : decode cX8_readLine 37 = .ok (.aload_n 0, 1) := by decide +kernel
theorem dX8_readLine_38 : decode cX8_readLine 38 = .ok (.iconst 4, 1) := by decide +kernel
theorem dX8_readLine_39 : decode cX8_readLine 39 = .ok (.invokevirtual 72, 3) := by decide +kernel
theorem dX8_readLine_42 : decode cX8_readLine 42 = .ok (.ireturn, 1) := by decide +kernel
theorem dX8_readLine_43 : decode cX8_readLine 43 = .ok (.aload_n 0, 1) := by decide +kernel
theorem dX8_readLine_44 : decode cX8_readLine 44 = .ok (.invokevirtual 54, 3) := by decide +kernel
theorem dX8_readLine_47 : decode cX8_readLine 47 = .ok (.aload_n 0, 1) := by decide +kernel
theorem dX8_readLine_48 : decode cX8_readLine 48 = .ok (.getfield 57, 3) := by decide +kernel
theorem dX8_readLine_51 : decode cX8_readLine 51 = .ok (.iconst 1, 1) := by decide +kernel
theorem dX8_readLine_52 : decode cX8_readLine 52 = .ok (.if_icmp .ne 23, 3) := by decide +kernel
theorem dX8_readLine_55 : decode cX8_readLine 55 = .ok (.aload_n 0, 1) := by decide +kernel
theorem dX8_readLine_56 : decode cX8_readLine 56 = .ok (.ldc2_w 64, 3) := by decide +kernel
theorem dX8_readLine_59 : decode cX8_readLine 59 = .ok (.invokevirtual 66, 3) := by decide +kernel
theorem dX8_readLine_62 : decode cX8_readLine 62 = .ok (.ifCond .ne 13, 3) := by decide +kernel
theorem dX8_readLine_65 : decode cX8_readLine 65 = .ok (.aload_n 0, 1) := by decide +kernel
theorem dX8_readLine_66 : decode cX8_readLine 66 = .ok (.ldc2_w 70, 3) := by decide +kernel
theorem dX8_readLine_69 : decode cX8_readLine 69 = .ok (.invokevirtual 66, 3) := by decide +kernel
theorem dX8_readLine_72 : decode cX8_readLine 72 = .ok (.ifCond .eq 9, 3) := by decide +kernel
theorem dX8_readLine_75 : decode cX8_readLine 75 = .ok (.aload_n 0, 1) := by decide +kernel
theorem dX8_readLine_76 : decode cX8_readLine 76 = .ok (.iconst 1, 1) := by decide +kernel
theorem dX8_readLine_77 : decode cX8_readLine 77 = .ok (.invokevirtual 72, 3) := by decide +kernel
theorem dX8_readLine_80 : decode cX8_readLine 80 = .ok (.ireturn, 1) := by decide +kernel
theorem dX8_readLine_81 : decode cX8_readLine 81 = .ok (.aload_n 0, 1) := by decide +kernel
theorem dX8_readLine_82 : decode cX8_readLine 82 = .ok (.invokevirtual 76, 3) := by decide +kernel
theorem dX8_readLine_85 : decode cX8_readLine 85 = .ok (.ifCond .eq 9, 3) := by decide +kernel
theorem dX8_readLine_88 : decode cX8_readLine 88 = .ok (.aload_n 0, 1) := by decide +kernel
theorem dX8_readLine_89 : decode cX8_readLine 89 = .ok (.iconst 2, 1) := by decide +kernel
theorem dX8_readLine_90 : decode cX8_readLine 90 = .ok (.invokevirtual 72, 3) := by decide +kernel
theorem dX8_readLine_93 : decode cX8_readLine 93 = .ok (.ireturn, 1) := by decide +kernel
theorem dX8_readLine_94 : decode cX8_readLine 94 = .ok (.aload_n 0, 1) := by decide +kernel
theorem dX8_readLine_95 : decode cX8_readLine 95 = .ok (.getfield 15, 3) := by decide +kernel
theorem dX8_readLine_98 : decode cX8_readLine 98 = .ok (.aload_n 0, 1) := by decide +kernel
theorem dX8_readLine_99 : decode cX8_readLine 99 = .ok (.getfield 51, 3) := by decide +kernel
theorem dX8_readLine_102 : decode cX8_readLine 102 = .ok (.aload_n 0, 1) := by decide +kernel
theorem dX8_readLine_103 : decode cX8_readLine 103 = .ok (.getfield 80, 3) := by decide +kernel
theorem dX8_readLine_106 : decode cX8_readLine 106 = .ok (.lastore, 1) := by decide +kernel
theorem dX8_readLine_107 : decode cX8_readLine 107 = .ok (.aload_n 0, 1) := by decide +kernel
theorem dX8_readLine_108 : decode cX8_readLine 108 = .ok (.getfield 19, 3) := by decide +kernel
theorem dX8_readLine_111 : decode cX8_readLine 111 = .ok (.aload_n 0, 1) := by decide +kernel
theorem dX8_readLine_112 : decode cX8_readLine 112 = .ok (.getfield 51, 3) := by decide +kernel
theorem dX8_readLine_115 : decode cX8_readLine 115 = .ok (.iload_n 1, 1) := by decide +kernel
theorem dX8_readLine_116 : decode cX8_readLine 116 = .ok (.bastore, 1) := by decide +kernel
theorem dX8_readLine_117 : decode cX8_readLine 117 = .ok (.aload_n 0, 1) := by decide +kernel
theorem dX8_readLine_118 : decode cX8_readLine 118 = .ok (.getfield 23, 3) := by decide +kernel
theorem dX8_readLine_121 : decode cX8_readLine 121 = .ok (.aload_n 0, 1) := by decide +kernel
theorem dX8_readLine_122 : decode cX8_readLine 122 = .ok (.getfield 51, 3) := by decide +kernel
theorem dX8_readLine_125 : decode cX8_readLine 125 = .ok (.iconst 0, 1) := by decide +kernel
theorem dX8_readLine_126 : decode cX8_readLine 126 = .ok (.iastore, 1) := by decide +kernel
theorem dX8_readLine_127 : decode cX8_readLine 127 = .ok (.aload_n 0, 1) := by decide +kernel
theorem dX8_readLine_128 : decode cX8_readLine 128 = .ok (.invokevirtual 54, 3) := by decide +kernel
theorem dX8_readLine_131 : decode cX8_readLine 131 = .ok (.iload_n 1, 1) := by decide +kernel
theorem dX8_readLine_132 : decode cX8_readLine 132 = .ok (.ifCond .eq 10, 3) := by decide +kernel
theorem dX8_readLine_135 : decode cX8_readLine 135 = .ok (.aload_n 0, 1) := by decide +kernel
theorem dX8_readLine_136 : decode cX8_readLine 136 = .ok (.invokevirtual 84, 3) := by decide +kernel
theorem dX8_readLine_139 : decode cX8_readLine 139 = .ok (.goto 7, 3) := by decide +kernel
theorem dX8_readLine_142 : decode cX8_readLine 142 = .ok (.aload_n 0, 1) := by decide +kernel
theorem dX8_readLine_143 : decode cX8_readLine 143 = .ok (.invokevirtual 87, 3) := by decide +kernel
theorem dX8_readLine_146 : decode cX8_readLine 146 = .ok (.istore_n 2, 1) := by decide +kernel
theorem dX8_readLine_147 : decode cX8_readLine 147 = .ok (.iload_n 2, 1) := by decide +kernel
theorem dX8_readLine_148 : decode cX8_readLine 148 = .ok (.ifCond .eq 5, 3) := by decide +kernel
theorem dX8_readLine_151 : decode cX8_readLine 151 = .ok (.iload_n 2, 1) := by decide +kernel
theorem dX8_readLine_152 : decode cX8_readLine 152 = .ok (.ireturn, 1) := by decide +kernel
theorem dX8_readLine_153 : decode cX8_readLine 153 = .ok (.aload_n 0, 1) := by decide +kernel
theorem dX8_readLine_154 : decode cX8_readLine 154 = .ok (.getfield 57, 3) := by decide +kernel
theorem dX8_readLine_157 : decode cX8_readLine 157 = .ok (.iconst 5, 1) := by decide +kernel
theorem dX8_readLine_158 : decode cX8_readLine 158 = .ok (.if_icmp .eq 9, 3) := by decide +kernel
theorem dX8_readLine_161 : decode cX8_readLine 161 = .ok (.aload_n 0, 1) := by decide +kernel
theorem dX8_readLine_162 : decode cX8_readLine 162 = .ok (.iconst 1, 1) := by decide +kernel
theorem dX8_readLine_163 : decode cX8_readLine 163 = .ok (.invokevirtual 72, 3) := by decide +kernel
theorem dX8_readLine_166 : decode cX8_readLine 166 = .ok (.ireturn, 1) := by decide +kernel
theorem dX8_readLine_167 : decode cX8_readLine 167 = .ok (.aload_n 0, 1) := by decide +kernel
theorem dX8_readLine_168 : decode cX8_readLine 168 = .ok (.dup, 1) := by decide +kernel
theorem dX8_readLine_169 : decode cX8_readLine 169 = .ok (.getfield 51, 3) := by decide +kernel
theorem dX8_readLine_172 : decode cX8_readLine 172 = .ok (.iconst 1, 1) := by decide +kernel
theorem dX8_readLine_173 : decode cX8_readLine 173 = .ok (.iadd, 1) := by decide +kernel
theorem dX8_readLine_174 : decode cX8_readLine 174 = .ok (.putfield 51, 3) := by decide +kernel
theorem dX8_readLine_177 : decode cX8_readLine 177 = .ok (.aload_n 0, 1) := by decide +kernel
theorem dX8_readLine_178 : decode cX8_readLine 178 = .ok (.invokevirtual 54, 3) := by decide +kernel
theorem dX8_readLine_181 : decode cX8_readLine 181 = .ok (.iconst 0, 1) := by decide +kernel
theorem dX8_readLine_182 : decode cX8_readLine 182 = .ok (.ireturn, 1) := by decide +kernel
theorem dX8_readGroups_0 : decode cX8_readGroups 0 = .ok (.aload_n 0, 1) := by decide +kernel
theorem dX8_readGroups_1 : decode cX8_readGroups 1 = .ok (.getfield 57, 3) := by decide +kernel
theorem dX8_readGroups_4 : decode cX8_readGroups 4 = .ok (.iconst 3, 1) := by decide +kernel
theorem dX8_readGroups_5 : decode cX8_readGroups 5 = .ok (.if_icmp .eq 9, 3) := by decide +kernel
theorem dX8_readGroups_8 : decode cX8_readGroups 8 = .ok (.aload_n 0, 1) := by decide +kernel
theorem dX8_readGroups_9 : decode cX8_readGroups 9 = .ok (.iconst 1, 1) := by decide +kernel
theorem dX8_readGroups_10 : decode cX8_readGroups 10 = .ok (.invokevirtual 72, 3) := by decide +kernel
theorem dX8_readGroups_13 : decode cX8_readGroups 13 = .ok (.ireturn, 1) := by decide +kernel
theorem dX8_readGroups_14 : decode cX8_readGroups 14 = .ok (.iconst 0, 1) := by decide +kernel
theorem dX8_readGroups_15 : decode cX8_readGroups 15 = .ok (.istore_n 1, 1) := by decide +kernel
theorem dX8_readGroups_16 : decode cX8_readGroups 16 = .ok (.iload_n 1, 1) := by decide +kernel
theorem dX8_readGroups_17 : decode cX8_readGroups 17 = .ok (.bipush 24, 2) := by decide +kernel
theorem dX8_readGroups_19 : decode cX8_readGroups 19 = .ok (.if_icmp .gt 29, 3) := by decide +kernel
theorem dX8_readGroups_22 : decode cX8_readGroups 22 = .ok (.aload_n 0, 1) := by decide +kernel
theorem dX8_readGroups_23 : decode cX8_readGroups 23 = .ok (.getfield 57, 3) := by decide +kernel
theorem dX8_readGroups_26 : decode cX8_readGroups 26 = .ok (.iconst 3, 1) := by decide +kernel
theorem dX8_readGroups_27 : decode cX8_readGroups 27 = .ok (.if_icmp .ne 21, 3) := by decide +kernel
theorem dX8_readGroups_30 : decode cX8_readGroups 30 = .ok (.aload_n 0, 1) := by decide +kernel
theorem dX8_readGroups_31 : decode cX8_readGroups 31 = .ok (.iload_n 1, 1) := by decide +kernel
theorem dX8_readGroups_32 : decode cX8_readGroups 32 = .ok (.invokevirtual 90, 3) := by decide +kernel
theorem dX8_readGroups_35 : decode cX8_readGroups 35 = .ok (.istore_n 2, 1) := by decide +kernel
theorem dX8_readGroups_36 : decode cX8_readGroups 36 = .ok (.iload_n 2, 1) := by decide +kernel
theorem dX8_readGroups_37 : decode cX8_readGroups 37 = .ok (.ifCond .eq 5, 3) := by decide +kernel
theorem dX8_readGroups_40 : decode cX8_readGroups 40 = .ok (.iload_n 2, 1) := by decide +kernel
theorem dX8_readGroups_41 : decode cX8_readGroups 41 = .ok (.ireturn, 1) := by decide +kernel
theorem dX8_readGroups_42 : decode cX8_readGroups 42 = .ok (.iinc 1 1, 3) := by decide +kernel
theorem dX8_readGroups_45 : decode cX8_readGroups 45 = .ok (.goto (-29), 3) := by decide +kernel
theorem dX8_readGroups_48 : decode cX8_readGroups 48 = .ok (.iconst 0, 1) := by decide +kernel
theorem dX8_readGroups_49 : decode cX8_readGroups 49 = .ok (.ireturn, 1) := by decide +kernel
theorem dX8_readGroup_0 : decode cX8_readGroup 0 = .ok (.aload_n 0, 1) := by decide +kernel
theorem dX8_readGroup_1 : decode cX8_readGroup 1 = .ok (.invokevirtual 54, 3) := by decide +kernel
theorem dX8_readGroup_4 : decode cX8_readGroup 4 = .ok (.aload_n 0, 1) := by decide +kernel
theorem dX8_readGroup_5 : decode cX8_readGroup 5 = .ok (.getfield 57, 3) := by decide +kernel
theorem dX8_readGroup_8 : decode cX8_readGroup 8 = .ok (.iconst 2, 1) := by decide +kernel
theorem dX8_readGroup_9 : decode cX8_readGroup 9 = .ok (.if_icmp .eq 9, 3) := by decide +kernel
theorem dX8_readGroup_12 : decode cX8_readGroup 12 = .ok (.aload_n 0, 1) := by decide +kernel
theorem dX8_readGroup_13 : decode cX8_readGroup 13 = .ok (.iconst 1, 1) := by decide +kernel
theorem dX8_readGroup_14 : decode cX8_readGroup 14 = .ok (.invokevirtual 72, 3) := by decide +kernel
theorem dX8_readGroup_17 : decode cX8_readGroup 17 = .ok (.ireturn, 1) := by decide +kernel
theorem dX8_readGroup_18 : decode cX8_readGroup 18 = .ok (.iconst 0, 1) := by decide +kernel
theorem dX8_readGroup_19 : decode cX8_readGroup 19 = .ok (.istore_n 2, 1) := by decide +kernel
theorem dX8_readGroup_20 : decode cX8_readGroup 20 = .ok (.iload_n 2, 1) := by decide +kernel
theorem dX8_readGroup_21 : decode cX8_readGroup 21 = .ok (.bipush 24, 2) := by decide +kernel
theorem dX8_readGroup_23 : decode cX8_readGroup 23 = .ok (.if_icmp .gt 80, 3) := by decide +kernel
theorem dX8_readGroup_26 : decode cX8_readGroup 26 = .ok (.aload_n 0, 1) := by decide +kernel
theorem dX8_readGroup_27 : decode cX8_readGroup 27 = .ok (.getfield 57, 3) := by decide +kernel
theorem dX8_readGroup_30 : decode cX8_readGroup 30 = .ok (.iconst 2, 1) := by decide +kernel
theorem dX8_readGroup_31 : decode cX8_readGroup 31 = .ok (.if_icmp .ne 72, 3) := by decide +kernel
theorem dX8_readGroup_34 : decode cX8_readGroup 34 = .ok (.aload_n 0, 1) := by decide +kernel
theorem dX8_readGroup_35 : decode cX8_readGroup 35 = .ok (.getfield 80, 3) := by decide +kernel
theorem dX8_readGroup_38 : decode cX8_readGroup 38 = .ok (.lconst 1, 1) := by decide +kernel
theorem dX8_readGroup_39 : decode cX8_readGroup 39 = .ok (.lcmp, 1) := by decide +kernel
theorem dX8_readGroup_40 : decode cX8_readGroup 40 = .ok (.ifCond .ge 9, 3) := by decide +kernel
theorem dX8_readGroup_43 : decode cX8_readGroup 43 = .ok (.aload_n 0, 1) := by decide +kernel
theorem dX8_readGroup_44 : decode cX8_readGroup 44 = .ok (.iconst 3, 1) := by decide +kernel
theorem dX8_readGroup_45 : decode cX8_readGroup 45 = .ok (.invokevirtual 72, 3) := by decide +kernel
theorem dX8_readGroup_48 : decode cX8_readGroup 48 = .ok (.ireturn, 1) := by decide +kernel
theorem dX8_readGroup_49 : decode cX8_readGroup 49 = .ok (.aload_n 0, 1) := by decide +kernel
theorem dX8_readGroup_50 : decode cX8_readGroup 50 = .ok (.getfield 23, 3) := by decide +kernel
theorem dX8_readGroup_53 : decode cX8_readGroup 53 = .ok (.aload_n 0, 1) := by decide +kernel
theorem dX8_readGroup_54 : decode cX8_readGroup 54 = .ok (.getfield 51, 3) := by decide +kernel
theorem dX8_readGroup_57 : decode cX8_readGroup 57 = .ok (.iaload, 1) := by decide +kernel
theorem dX8_readGroup_58 : decode cX8_readGroup 58 = .ok (.bipush 24, 2) := by decide +kernel
theorem dX8_readGroup_60 : decode cX8_readGroup 60 = .ok (.if_icmp .lt 9, 3) := by decide +kernel
theorem dX8_readGroup_63 : decode cX8_readGroup 63 = .ok (.aload_n 0, 1) := by decide +kernel
theorem dX8_readGroup_64 : decode cX8_readGroup 64 = .ok (.iconst 4, 1) := by decide +kernel
theorem dX8_readGroup_65 : decode cX8_readGroup 65 = .ok (.invokevirtual 72, 3) := by decide +kernel
theorem dX8_readGroup_68 : decode cX8_readGroup 68 = .ok (.ireturn, 1) := by decide +kernel
theorem dX8_readGroup_69 : decode cX8_readGroup 69 = .ok (.aload_n 0, 1) := by decide +kernel
theorem dX8_readGroup_70 : decode cX8_readGroup 70 = .ok (.getfield 32, 3) := by decide +kernel
theorem dX8_readGroup_73 : decode cX8_readGroup 73 = .ok (.aload_n 0, 1) := by decide +kernel
theorem dX8_readGroup_74 : decode cX8_readGroup 74 = .ok (.getfield 51, 3) := by decide +kernel
theorem dX8_readGroup_77 : decode cX8_readGroup 77 = .ok (.aaload, 1) := by decide +kernel
theorem dX8_readGroup_78 : decode cX8_readGroup 78 = .ok (.aload_n 0, 1) := by decide +kernel
theorem dX8_readGroup_79 : decode cX8_readGroup 79 = .ok (.getfield 23, 3) := by decide +kernel
theorem dX8_readGroup_82 : decode cX8_readGroup 82 = .ok (.aload_n 0, 1) := by decide +kernel
theorem dX8_readGroup_83 : decode cX8_readGroup 83 = .ok (.getfield 51, 3) := by decide +kernel
theorem dX8_readGroup_86 : decode cX8_readGroup 86 = .ok (.iaload, 1) := by decide +kernel
theorem dX8_readGroup_87 : decode cX8_readGroup 87 = .ok (.iload_n 1, 1) := by decide +kernel
theorem dX8_readGroup_88 : decode cX8_readGroup 88 = .ok (.iastore, 1) := by decide +kernel
theorem dX8_readGroup_89 : decode cX8_readGroup 89 = .ok (.aload_n 0, 1) := by decide +kernel
theorem dX8_readGroup_90 : decode cX8_readGroup 90 = .ok (.invokevirtual 93, 3) := by decide +kernel
theorem dX8_readGroup_93 : decode cX8_readGroup 93 = .ok (.aload_n 0, 1) := by decide +kernel
theorem dX8_readGroup_94 : decode cX8_readGroup 94 = .ok (.invokevirtual 54, 3) := by decide +kernel
theorem dX8_readGroup_97 : decode cX8_readGroup 97 = .ok (.iinc 2 1, 3) := by decide +kernel
theorem dX8_readGroup_100 : decode cX8_readGroup 100 = .ok (.goto (-80), 3) := by decide +kernel
theorem dX8_readGroup_103 : decode cX8_readGroup 103 = .ok (.aload_n 0, 1) := by decide +kernel
theorem dX8_readGroup_104 : decode cX8_readGroup 104 = .ok (.getfield 57, 3) := by decide +kernel
theorem dX8_readGroup_107 : decode cX8_readGroup 107 = .ok (.iconst 4, 1) := by decide +kernel
theorem dX8_readGroup_108 : decode cX8_readGroup 108 = .ok (.if_icmp .eq 9, 3) := by decide +kernel
theorem dX8_readGroup_111 : decode cX8_readGroup 111 = .ok (.aload_n 0, 1) := by decide +kernel
theorem dX8_readGroup_112 : decode cX8_readGroup 112 = .ok (.iconst 1, 1) := by decide +kernel
theorem dX8_readGroup_113 : decode cX8_readGroup 113 = .ok (.invokevirtual 72, 3) := by decide +kernel
theorem dX8_readGroup_116 : decode cX8_readGroup 116 = .ok (.ireturn, 1) := by decide +kernel
theorem dX8_readGroup_117 : decode cX8_readGroup 117 = .ok (.aload_n 0, 1) := by decide +kernel
theorem dX8_readGroup_118 : decode cX8_readGroup 118 = .ok (.invokevirtual 54, 3) := by decide +kernel
theorem dX8_readGroup_121 : decode cX8_readGroup 121 = .ok (.iconst 0, 1) := by decide +kernel
theorem dX8_readGroup_122 : decode cX8_readGroup 122 = .ok (.ireturn, 1) := by decide +kernel
theorem dX8_readNet_0 : decode cX8_readNet 0 = .ok (.aload_n 0, 1) := by decide +kernel
theorem dX8_readNet_1 : decode cX8_readNet 1 = .ok (.getfield 57, 3) := by decide +kernel
theorem dX8_readNet_4 : decode cX8_readNet 4 = .ok (.iconst 2, 1) := by decide +kernel
theorem dX8_readNet_5 : decode cX8_readNet 5 = .ok (.if_icmp .eq 9, 3) := by decide +kernel
theorem dX8_readNet_8 : decode cX8_readNet 8 = .ok (.aload_n 0, 1) := by decide +kernel
theorem dX8_readNet_9 : decode cX8_readNet 9 = .ok (.iconst 1, 1) := by decide +kernel
theorem dX8_readNet_10 : decode cX8_readNet 10 = .ok (.invokevirtual 72, 3) := by decide +kernel
theorem dX8_readNet_13 : decode cX8_readNet 13 = .ok (.ireturn, 1) := by decide +kernel
theorem dX8_readNet_14 : decode cX8_readNet 14 = .ok (.aload_n 0, 1) := by decide +kernel
theorem dX8_readNet_15 : decode cX8_readNet 15 = .ok (.getfield 80, 3) := by decide +kernel
theorem dX8_readNet_18 : decode cX8_readNet 18 = .ok (.ldc2_w 96, 3) := by decide +kernel
theorem dX8_readNet_21 : decode cX8_readNet 21 = .ok (.lcmp, 1) := by decide +kernel
theorem dX8_readNet_22 : decode cX8_readNet 22 = .ok (.ifCond .lt 14, 3) := by decide +kernel
theorem dX8_readNet_25 : decode cX8_readNet 25 = .ok (.aload_n 0, 1) := by decide +kernel
theorem dX8_readNet_26 : decode cX8_readNet 26 = .ok (.getfield 80, 3) := by decide +kernel
theorem dX8_readNet_29 : decode cX8_readNet 29 = .ok (.ldc2_w 98, 3) := by decide +kernel
theorem dX8_readNet_32 : decode cX8_readNet 32 = .ok (.lcmp, 1) := by decide +kernel
theorem dX8_readNet_33 : decode cX8_readNet 33 = .ok (.ifCond .le 9, 3) := by decide +kernel
theorem dX8_readNet_36 : decode cX8_readNet 36 = .ok (.aload_n 0, 1) := by decide +kernel
theorem dX8_readNet_37 : decode cX8_readNet 37 = .ok (.iconst 3, 1) := by decide +kernel
theorem dX8_readNet_38 : decode cX8_readNet 38 = .ok (.invokevirtual 72, 3) := by decide +kernel
theorem dX8_readNet_41 : decode cX8_readNet 41 = .ok (.ireturn, 1) := by decide +kernel
theorem dX8_readNet_42 : decode cX8_readNet 42 = .ok (.aload_n 0, 1) := by decide +kernel
theorem dX8_readNet_43 : decode cX8_readNet 43 = .ok (.getfield 80, 3) := by decide +kernel
theorem dX8_readNet_46 : decode cX8_readNet 46 = .ok (.lstore_n 1, 1) := by decide +kernel
theorem dX8_readNet_47 : decode cX8_readNet 47 = .ok (.aload_n 0, 1) := by decide +kernel
theorem dX8_readNet_48 : decode cX8_readNet 48 = .ok (.invokevirtual 93, 3) := by decide +kernel
theorem dX8_readNet_51 : decode cX8_readNet 51 = .ok (.aload_n 0, 1) := by decide +kernel
theorem dX8_readNet_52 : decode cX8_readNet 52 = .ok (.invokevirtual 54, 3) := by decide +kernel
theorem dX8_readNet_55 : decode cX8_readNet 55 = .ok (.iconst 0, 1) := by decide +kernel
theorem dX8_readNet_56 : decode cX8_readNet 56 = .ok (.istore_n 3, 1) := by decide +kernel
theorem dX8_readNet_57 : decode cX8_readNet 57 = .ok (.iload_n 3, 1) := by decide +kernel
theorem dX8_readNet_58 : decode cX8_readNet 58 = .ok (.bipush 14, 2) := by decide +kernel
theorem dX8_readNet_60 : decode cX8_readNet 60 = .ok (.if_icmp .gt 33, 3) := by decide +kernel
theorem dX8_readNet_63 : decode cX8_readNet 63 = .ok (.aload_n 0, 1) := by decide +kernel
theorem dX8_readNet_64 : decode cX8_readNet 64 = .ok (.getfield 57, 3) := by decide +kernel
theorem dX8_readNet_67 : decode cX8_readNet 67 = .ok (.iconst 2, 1) := by decide +kernel
theorem dX8_readNet_68 : decode cX8_readNet 68 = .ok (.if_icmp .ne 25, 3) := by decide +kernel
theorem dX8_readNet_71 : decode cX8_readNet 71 = .ok (.aload_n 0, 1) := by decide +kernel
theorem dX8_readNet_72 : decode cX8_readNet 72 = .ok (.iload_n 3, 1) := by decide +kernel
theorem dX8_readNet_73 : decode cX8_readNet 73 = .ok (.lload_n 1, 1) := by decide +kernel
theorem dX8_readNet_74 : decode cX8_readNet 74 = .ok (.invokevirtual 100, 3) := by decide +kernel
theorem dX8_readNet_77 : decode cX8_readNet 77 = .ok (.istore 4, 2) := by decide +kernel
theorem dX8_readNet_79 : decode cX8_readNet 79 = .ok (.iload 4, 2) := by decide +kernel
theorem dX8_readNet_81 : decode cX8_readNet 81 = .ok (.ifCond .eq 6, 3) := by decide +kernel
theorem dX8_readNet_84 : decode cX8_readNet 84 = .ok (.iload 4, 2) := by decide +kernel
theorem dX8_readNet_86 : decode cX8_readNet 86 = .ok (.ireturn, 1) := by decide +kernel
theorem dX8_readNet_87 : decode cX8_readNet 87 = .ok (.iinc 3 1, 3) := by decide +kernel
theorem dX8_readNet_90 : decode cX8_readNet 90 = .ok (.goto (-33), 3) := by decide +kernel
theorem dX8_readNet_93 : decode cX8_readNet 93 = .ok (.iconst 0, 1) := by decide +kernel
theorem dX8_readNet_94 : decode cX8_readNet 94 = .ok (.ireturn, 1) := by decide +kernel
theorem dX8_readWire_0 : decode cX8_readWire 0 = .ok (.aload_n 0, 1) := by decide +kernel
theorem dX8_readWire_1 : decode cX8_readWire 1 = .ok (.getfield 80, 3) := by decide +kernel
theorem dX8_readWire_4 : decode cX8_readWire 4 = .ok (.lstore 4, 2) := by decide +kernel
theorem dX8_readWire_6 : decode cX8_readWire 6 = .ok (.lload 4, 2) := by decide +kernel
theorem dX8_readWire_8 : decode cX8_readWire 8 = .ok (.lload_n 2, 1) := by decide +kernel
theorem dX8_readWire_9 : decode cX8_readWire 9 = .ok (.lcmp, 1) := by decide +kernel
theorem dX8_readWire_10 : decode cX8_readWire 10 = .ok (.ifCond .lt 9, 3) := by decide +kernel
theorem dX8_readWire_13 : decode cX8_readWire 13 = .ok (.aload_n 0, 1) := by decide +kernel
theorem dX8_readWire_14 : decode cX8_readWire 14 = .ok (.iconst 3, 1) := by decide +kernel
theorem dX8_readWire_15 : decode cX8_readWire 15 = .ok (.invokevirtual 72, 3) := by decide +kernel
theorem dX8_readWire_18 : decode cX8_readWire 18 = .ok (.ireturn, 1) := by decide +kernel
theorem dX8_readWire_19 : decode cX8_readWire 19 = .ok (.iload_n 1, 1) := by decide +kernel
theorem dX8_readWire_20 : decode cX8_readWire 20 = .ok (.bipush 14, 2) := by decide +kernel
theorem dX8_readWire_22 : decode cX8_readWire 22 = .ok (.if_icmp .lt 9, 3) := by decide +kernel
theorem dX8_readWire_25 : decode cX8_readWire 25 = .ok (.aload_n 0, 1) := by decide +kernel
theorem dX8_readWire_26 : decode cX8_readWire 26 = .ok (.iconst 4, 1) := by decide +kernel
theorem dX8_readWire_27 : decode cX8_readWire 27 = .ok (.invokevirtual 72, 3) := by decide +kernel
theorem dX8_readWire_30 : decode cX8_readWire 30 = .ok (.ireturn, 1) := by decide +kernel
theorem dX8_readWire_31 : decode cX8_readWire 31 = .ok (.aload_n 0, 1) := by decide +kernel
theorem dX8_readWire_32 : decode cX8_readWire 32 = .ok (.invokevirtual 93, 3) := by decide +kernel
theorem dX8_readWire_35 : decode cX8_readWire 35 = .ok (.aload_n 0, 1) := by decide +kernel
theorem dX8_readWire_36 : decode cX8_readWire 36 = .ok (.invokevirtual 54, 3) := by decide +kernel
theorem dX8_readWire_39 : decode cX8_readWire 39 = .ok (.aload_n 0, 1) := by decide +kernel
theorem dX8_readWire_40 : decode cX8_readWire 40 = .ok (.getfield 57, 3) := by decide +kernel
theorem dX8_readWire_43 : decode cX8_readWire 43 = .ok (.iconst 2, 1) := by decide +kernel
theorem dX8_readWire_44 : decode cX8_readWire 44 = .ok (.if_icmp .eq 9, 3) := by decide +kernel
theorem dX8_readWire_47 : decode cX8_readWire 47 = .ok (.aload_n 0, 1) := by decide +kernel
theorem dX8_readWire_48 : decode cX8_readWire 48 = .ok (.iconst 1, 1) := by decide +kernel
theorem dX8_readWire_49 : decode cX8_readWire 49 = .ok (.invokevirtual 72, 3) := by decide +kernel
theorem dX8_readWire_52 : decode cX8_readWire 52 = .ok (.ireturn, 1) := by decide +kernel
theorem dX8_readWire_53 : decode cX8_readWire 53 = .ok (.aload_n 0, 1) := by decide +kernel
theorem dX8_readWire_54 : decode cX8_readWire 54 = .ok (.getfield 80, 3) := by decide +kernel
theorem dX8_readWire_57 : decode cX8_readWire 57 = .ok (.lload_n 2, 1) := by decide +kernel
theorem dX8_readWire_58 : decode cX8_readWire 58 = .ok (.lcmp, 1) := by decide +kernel
theorem dX8_readWire_59 : decode cX8_readWire 59 = .ok (.ifCond .ge 13, 3) := by decide +kernel
theorem dX8_readWire_62 : decode cX8_readWire 62 = .ok (.aload_n 0, 1) := by decide +kernel
theorem dX8_readWire_63 : decode cX8_readWire 63 = .ok (.getfield 80, 3) := by decide +kernel
theorem dX8_readWire_66 : decode cX8_readWire 66 = .ok (.lload 4, 2) := by decide +kernel
theorem dX8_readWire_68 : decode cX8_readWire 68 = .ok (.lcmp, 1) := by decide +kernel
theorem dX8_readWire_69 : decode cX8_readWire 69 = .ok (.ifCond .ne 9, 3) := by decide +kernel
theorem dX8_readWire_72 : decode cX8_readWire 72 = .ok (.aload_n 0, 1) := by decide +kernel
theorem dX8_readWire_73 : decode cX8_readWire 73 = .ok (.iconst 3, 1) := by decide +kernel
theorem dX8_readWire_74 : decode cX8_readWire 74 = .ok (.invokevirtual 72, 3) := by decide +kernel
theorem dX8_readWire_77 : decode cX8_readWire 77 = .ok (.ireturn, 1) := by decide +kernel
theorem dX8_readWire_78 : decode cX8_readWire 78 = .ok (.aload_n 0, 1) := by decide +kernel
theorem dX8_readWire_79 : decode cX8_readWire 79 = .ok (.invokevirtual 93, 3) := by decide +kernel
theorem dX8_readWire_82 : decode cX8_readWire 82 = .ok (.aload_n 0, 1) := by decide +kernel
theorem dX8_readWire_83 : decode cX8_readWire 83 = .ok (.invokevirtual 54, 3) := by decide +kernel
theorem dX8_readWire_86 : decode cX8_readWire 86 = .ok (.iconst 0, 1) := by decide +kernel
theorem dX8_readWire_87 : decode cX8_readWire 87 = .ok (.ireturn, 1) := by decide +kernel
theorem dX8_holdValue_0 : decode cX8_holdValue 0 = .ok (.aload_n 0, 1) := by decide +kernel
theorem dX8_holdValue_1 : decode cX8_holdValue 1 = .ok (.getfield 23, 3) := by decide +kernel
theorem dX8_holdValue_4 : decode cX8_holdValue 4 = .ok (.aload_n 0, 1) := by decide +kernel
theorem dX8_holdValue_5 : decode cX8_holdValue 5 = .ok (.getfield 51, 3) := by decide +kernel
theorem dX8_holdValue_8 : decode cX8_holdValue 8 = .ok (.iaload, 1) := by decide +kernel
theorem dX8_holdValue_9 : decode cX8_holdValue 9 = .ok (.istore_n 1, 1) := by decide +kernel
theorem dX8_holdValue_10 : decode cX8_holdValue 10 = .ok (.iload_n 1, 1) := by decide +kernel
theorem dX8_holdValue_11 : decode cX8_holdValue 11 = .ok (.bipush 29, 2) := by decide +kernel
theorem dX8_holdValue_13 : decode cX8_holdValue 13 = .ok (.if_icmp .ge 32, 3) := by decide +kernel
theorem dX8_holdValue_16 : decode cX8_holdValue 16 = .ok (.aload_n 0, 1) := by decide +kernel
theorem dX8_holdValue_17 : decode cX8_holdValue 17 = .ok (.getfield 29, 3) := by decide +kernel
theorem dX8_holdValue_20 : decode cX8_holdValue 20 = .ok (.aload_n 0, 1) := by decide +kernel
theorem dX8_holdValue_21 : decode cX8_holdValue 21 = .ok (.getfield 51, 3) := by decide +kernel
theorem dX8_holdValue_24 : decode cX8_holdValue 24 = .ok (.aaload, 1) := by decide +kernel
theorem dX8_holdValue_25 : decode cX8_holdValue 25 = .ok (.iload_n 1, 1) := by decide +kernel
theorem dX8_holdValue_26 : decode cX8_holdValue 26 = .ok (.aload_n 0, 1) := by decide +kernel
theorem dX8_holdValue_27 : decode cX8_holdValue 27 = .ok (.getfield 80, 3) := by decide +kernel
theorem dX8_holdValue_30 : decode cX8_holdValue 30 = .ok (.l2i, 1) := by decide +kernel
theorem dX8_holdValue_31 : decode cX8_holdValue 31 = .ok (.iastore, 1) := by decide +kernel
theorem dX8_holdValue_32 : decode cX8_holdValue 32 = .ok (.aload_n 0, 1) := by decide +kernel
theorem dX8_holdValue_33 : decode cX8_holdValue 33 = .ok (.getfield 23, 3) := by decide +kernel
theorem dX8_holdValue_36 : decode cX8_holdValue 36 = .ok (.aload_n 0, 1) := by decide +kernel
theorem dX8_holdValue_37 : decode cX8_holdValue 37 = .ok (.getfield 51, 3) := by decide +kernel
theorem dX8_holdValue_40 : decode cX8_holdValue 40 = .ok (.dup2, 1) := by decide +kernel
theorem dX8_holdValue_41 : decode cX8_holdValue 41 = .ok (.iaload, 1) := by decide +kernel
theorem dX8_holdValue_42 : decode cX8_holdValue 42 = .ok (.iconst 1, 1) := by decide +kernel
theorem dX8_holdValue_43 : decode cX8_holdValue 43 = .ok (.iadd, 1) := by decide +kernel
theorem dX8_holdValue_44 : decode cX8_holdValue 44 = .ok (.iastore, 1) := by decide +kernel
theorem dX8_holdValue_45 : decode cX8_holdValue 45 = .ok (.return_, 1) := by decide +kernel
theorem dX8_isNameThere_0 : decode cX8_isNameThere 0 = .ok (.iconst 0, 1) := by decide +kernel
theorem dX8_isNameThere_1 : decode cX8_isNameThere 1 = .ok (.istore_n 1, 1) := by decide +kernel
theorem dX8_isNameThere_2 : decode cX8_isNameThere 2 = .ok (.iload_n 1, 1) := by decide +kernel
theorem dX8_isNameThere_3 : decode cX8_isNameThere 3 = .ok (.aload_n 0, 1) := by decide +kernel
theorem dX8_isNameThere_4 : decode cX8_isNameThere 4 = .ok (.getfield 51, 3) := by decide +kernel
theorem dX8_isNameThere_7 : decode cX8_isNameThere 7 = .ok (.if_icmp .ge 25, 3) := by decide +kernel
theorem dX8_isNameThere_10 : decode cX8_isNameThere 10 = .ok (.aload_n 0, 1) := by decide +kernel
theorem dX8_isNameThere_11 : decode cX8_isNameThere 11 = .ok (.getfield 15, 3) := by decide +kernel
theorem dX8_isNameThere_14 : decode cX8_isNameThere 14 = .ok (.iload_n 1, 1) := by decide +kernel
theorem dX8_isNameThere_15 : decode cX8_isNameThere 15 = .ok (.laload, 1) := by decide +kernel
theorem dX8_isNameThere_16 : decode cX8_isNameThere 16 = .ok (.aload_n 0, 1) := by decide +kernel
theorem dX8_isNameThere_17 : decode cX8_isNameThere 17 = .ok (.getfield 80, 3) := by decide +kernel
theorem dX8_isNameThere_20 : decode cX8_isNameThere 20 = .ok (.lcmp, 1) := by decide +kernel
theorem dX8_isNameThere_21 : decode cX8_isNameThere 21 = .ok (.ifCond .ne 5, 3) := by decide +kernel
theorem dX8_isNameThere_24 : decode cX8_isNameThere 24 = .ok (.iconst 1, 1) := by decide +kernel
theorem dX8_isNameThere_25 : decode cX8_isNameThere 25 = .ok (.ireturn, 1) := by decide +kernel
theorem dX8_isNameThere_26 : decode cX8_isNameThere 26 = .ok (.iinc 1 1, 3) := by decide +kernel
theorem dX8_isNameThere_29 : decode cX8_isNameThere 29 = .ok (.goto (-27), 3) := by decide +kernel
theorem dX8_isNameThere_32 : decode cX8_isNameThere 32 = .ok (.iconst 0, 1) := by decide +kernel
theorem dX8_isNameThere_33 : decode cX8_isNameThere 33 = .ok (.ireturn, 1) := by decide +kernel
theorem dX8_isWord_0 : decode cX8_isWord 0 = .ok (.aload_n 0, 1) := by decide +kernel
theorem dX8_isWord_1 : decode cX8_isWord 1 = .ok (.getfield 57, 3) := by decide +kernel
theorem dX8_isWord_4 : decode cX8_isWord 4 = .ok (.iconst 1, 1) := by decide +kernel
theorem dX8_isWord_5 : decode cX8_isWord 5 = .ok (.if_icmp .ne 16, 3) := by decide +kernel
theorem dX8_isWord_8 : decode cX8_isWord 8 = .ok (.aload_n 0, 1) := by decide +kernel
theorem dX8_isWord_9 : decode cX8_isWord 9 = .ok (.getfield 80, 3) := by decide +kernel
theorem dX8_isWord_12 : decode cX8_isWord 12 = .ok (.lload_n 1, 1) := by decide +kernel
theorem dX8_isWord_13 : decode cX8_isWord 13 = .ok (.lcmp, 1) := by decide +kernel
theorem dX8_isWord_14 : decode cX8_isWord 14 = .ok (.ifCond .ne 7, 3) := by decide +kernel
theorem dX8_isWord_17 : decode cX8_isWord 17 = .ok (.iconst 1, 1) := by decide +kernel
theorem dX8_isWord_18 : decode cX8_isWord 18 = .ok (.goto 4, 3) := by decide +kernel
theorem dX8_isWord_21 : decode cX8_isWord 21 = .ok (.iconst 0, 1) := by decide +kernel
theorem dX8_isWord_22 : decode cX8_isWord 22 = .ok (.ireturn, 1) := by decide +kernel
theorem dX8_faultOf_0 : decode cX8_faultOf 0 = .ok (.bipush 8, 2) := by decide +kernel
theorem dX8_faultOf_2 : decode cX8_faultOf 2 = .ok (.aload_n 0, 1) := by decide +kernel
theorem dX8_faultOf_3 : decode cX8_faultOf 3 = .ok (.getfield 104, 3) := by decide +kernel
theorem dX8_faultOf_6 : decode cX8_faultOf 6 = .ok (.imul, 1) := by decide +kernel
theorem dX8_faultOf_7 : decode cX8_faultOf 7 = .ok (.iload_n 1, 1) := by decide +kernel
theorem dX8_faultOf_8 : decode cX8_faultOf 8 = .ok (.iadd, 1) := by decide +kernel
theorem dX8_faultOf_9 : decode cX8_faultOf 9 = .ok (.ireturn, 1) := by decide +kernel
theorem dX8_nextToken_0 : decode cX8_nextToken 0 = .ok (.aload_n 0, 1) := by decide +kernel
theorem dX8_nextToken_1 : decode cX8_nextToken 1 = .ok (.getfield 48, 3) := by decide +kernel
theorem dX8_nextToken_4 : decode cX8_nextToken 4 = .ok (.aload_n 0, 1) := by decide +kernel
theorem dX8_nextToken_5 : decode cX8_nextToken 5 = .ok (.getfield 45, 3) := by decide +kernel
theorem dX8_nextToken_8 : decode cX8_nextToken 8 = .ok (.if_icmp .ge 44, 3) := by decide +kernel
theorem dX8_nextToken_11 : decode cX8_nextToken 11 = .ok (.aload_n 0, 1) := by decide +kernel
theorem dX8_nextToken_12 : decode cX8_nextToken 12 = .ok (.getfield 9, 3) := by decide +kernel
theorem dX8_nextToken_15 : decode cX8_nextToken 15 = .ok (.aload_n 0, 1) := by decide +kernel
theorem dX8_nextToken_16 : decode cX8_nextToken 16 = .ok (.getfield 48, 3) := by decide +kernel
theorem dX8_nextToken_19 : decode cX8_nextToken 19 = .ok (.baload, 1) := by decide +kernel
theorem dX8_nextToken_20 : decode cX8_nextToken 20 = .ok (.bipush 32, 2) := by decide +kernel
theorem dX8_nextToken_22 : decode cX8_nextToken 22 = .ok (.if_icmp .eq 17, 3) := by decide +kernel
theorem dX8_nextToken_25 : decode cX8_nextToken 25 = .ok (.aload_n 0, 1) := by decide +kernel
theorem dX8_nextToken_26 : decode cX8_nextToken 26 = .ok (.getfield 9, 3) := by decide +kernel
theorem dX8_nextToken_29 : decode cX8_nextToken 29 = .ok (.aload_n 0, 1) := by decide +kernel
theorem dX8_nextToken_30 : decode cX8_nextToken 30 = .ok (.getfield 48, 3) := by decide +kernel
theorem dX8_nextToken_33 : decode cX8_nextToken 33 = .ok (.baload, 1) := by decide +kernel
theorem dX8_nextToken_34 : decode cX8_nextToken 34 = .ok (.bipush 10, 2) := by decide +kernel
theorem dX8_nextToken_36 : decode cX8_nextToken 36 = .ok (.if_icmp .ne 16, 3) := by decide +kernel
theorem dX8_nextToken_39 : decode cX8_nextToken 39 = .ok (.aload_n 0, 1) := by decide +kernel
theorem dX8_nextToken_40 : decode cX8_nextToken 40 = .ok (.dup, 1) := by decide +kernel
theorem dX8_nextToken_41 : decode cX8_nextToken 41 = .ok (.getfield 48, 3) := by decide +kernel
theorem dX8_nextToken_44 : decode cX8_nextToken 44 = .ok (.iconst 1, 1) := by decide +kernel
theorem dX8_nextToken_45 : decode cX8_nextToken 45 = .ok (.iadd, 1) := by decide +kernel
theorem dX8_nextToken_46 : decode cX8_nextToken 46 = .ok (.putfield 48, 3) := by decide +kernel
theorem dX8_nextToken_49 : decode cX8_nextToken 49 = .ok (.goto (-49), 3) := by decide +kernel
theorem dX8_nextToken_52 : decode cX8_nextToken 52 = .ok (.aload_n 0, 1) := by decide +kernel
theorem dX8_nextToken_53 : decode cX8_nextToken 53 = .ok (.aload_n 0, 1) := by decide +kernel
theorem dX8_nextToken_54 : decode cX8_nextToken 54 = .ok (.getfield 48, 3) := by decide +kernel
theorem dX8_nextToken_57 : decode cX8_nextToken 57 = .ok (.putfield 104, 3) := by decide +kernel
theorem dX8_nextToken_60 : decode cX8_nextToken 60 = .ok (.aload_n 0, 1) := by decide +kernel
theorem dX8_nextToken_61 : decode cX8_nextToken 61 = .ok (.lconst 0, 1) := by decide +kernel
theorem dX8_nextToken_62 : decode cX8_nextToken 62 = .ok (.putfield 80, 3) := by decide +kernel
theorem dX8_nextToken_65 : decode cX8_nextToken 65 = .ok (.aload_n 0, 1) := by decide +kernel
theorem dX8_nextToken_66 : decode cX8_nextToken 66 = .ok (.aload_n 0, 1) := by decide +kernel
theorem dX8_nextToken_67 : decode cX8_nextToken 67 = .ok (.getfield 48, 3) := by decide +kernel
theorem dX8_nextToken_70 : decode cX8_nextToken 70 = .ok (.aload_n 0, 1) := by decide +kernel
theorem dX8_nextToken_71 : decode cX8_nextToken 71 = .ok (.getfield 45, 3) := by decide +kernel
theorem dX8_nextToken_74 : decode cX8_nextToken 74 = .ok (.if_icmp .ge 18, 3) := by decide +kernel
theorem dX8_nextToken_77 : decode cX8_nextToken 77 = .ok (.aload_n 0, 1) := by decide +kernel
theorem dX8_nextToken_78 : decode cX8_nextToken 78 = .ok (.getfield 9, 3) := by decide +kernel
theorem dX8_nextToken_81 : decode cX8_nextToken 81 = .ok (.aload_n 0, 1) := by decide +kernel
theorem dX8_nextToken_82 : decode cX8_nextToken 82 = .ok (.getfield 48, 3) := by decide +kernel
theorem dX8_nextToken_85 : decode cX8_nextToken 85 = .ok (.baload, 1) := by decide +kernel
theorem dX8_nextToken_86 : decode cX8_nextToken 86 = .ok (.invokestatic 107, 3) := by decide +kernel
theorem dX8_nextToken_89 : decode cX8_nextToken 89 = .ok (.goto 4, 3) := by decide +kernel
theorem dX8_nextToken_92 : decode cX8_nextToken 92 = .ok (.iconst 0, 1) := by decide +kernel
theorem dX8_nextToken_93 : decode cX8_nextToken 93 = .ok (.putfield 57, 3) := by decide +kernel
theorem dX8_nextToken_96 : decode cX8_nextToken 96 = .ok (.aload_n 0, 1) := by decide +kernel
theorem dX8_nextToken_97 : decode cX8_nextToken 97 = .ok (.getfield 57, 3) := by decide +kernel
theorem dX8_nextToken_100 : decode cX8_nextToken 100 = .ok (.iconst 1, 1) := by decide +kernel
theorem dX8_nextToken_101 : decode cX8_nextToken 101 = .ok (.if_icmp .ne 92, 3) := by decide +kernel
theorem dX8_nextToken_104 : decode cX8_nextToken 104 = .ok (.aload_n 0, 1) := by decide +kernel
theorem dX8_nextToken_105 : decode cX8_nextToken 105 = .ok (.getfield 48, 3) := by decide +kernel
theorem dX8_nextToken_108 : decode cX8_nextToken 108 = .ok (.aload_n 0, 1) := by decide +kernel
theorem dX8_nextToken_109 : decode cX8_nextToken 109 = .ok (.getfield 45, 3) := by decide +kernel
theorem dX8_nextToken_112 : decode cX8_nextToken 112 = .ok (.if_icmp .ge 54, 3) := by decide +kernel
