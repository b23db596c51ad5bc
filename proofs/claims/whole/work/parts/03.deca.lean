theorem dX0_init_0 : decode cX0_init 0 = .ok (.aload_n 0, 1) := by decide +kernel
theorem dX0_init_1 : decode cX0_init 1 = .ok (.invokespecial 3, 3) := by decide +kernel
theorem dX0_init_4 : decode cX0_init 4 = .ok (.aload_n 0, 1) := by decide +kernel
theorem dX0_init_5 : decode cX0_init 5 = .ok (.iconst 0, 1) := by decide +kernel
theorem dX0_init_6 : decode cX0_init 6 = .ok (.putfield 9, 3) := by decide +kernel
theorem dX0_init_9 : decode cX0_init 9 = .ok (.aload_n 0, 1) := by decide +kernel
theorem dX0_init_10 : decode cX0_init 10 = .ok (.iconst 0, 1) := by decide +kernel
theorem dX0_init_11 : decode cX0_init 11 = .ok (.putfield 15, 3) := by decide +kernel
theorem dX0_init_14 : decode cX0_init 14 = .ok (.aload_n 0, 1) := by decide +kernel
theorem dX0_init_15 : decode cX0_init 15 = .ok (.iconst 0, 1) := by decide +kernel
theorem dX0_init_16 : decode cX0_init 16 = .ok (.putfield 18, 3) := by decide +kernel
theorem dX0_init_19 : decode cX0_init 19 = .ok (.aload_n 0, 1) := by decide +kernel
theorem dX0_init_20 : decode cX0_init 20 = .ok (.iconst 0, 1) := by decide +kernel
theorem dX0_init_21 : decode cX0_init 21 = .ok (.putfield 21, 3) := by decide +kernel
theorem dX0_init_24 : decode cX0_init 24 = .ok (.aload_n 0, 1) := by decide +kernel
theorem dX0_init_25 : decode cX0_init 25 = .ok (.bipush 20, 2) := by decide +kernel
theorem dX0_init_27 : decode cX0_init 27 = .ok (.newarray .int, 2) := by decide +kernel
theorem dX0_init_29 : decode cX0_init 29 = .ok (.putfield 24, 3) := by decide +kernel
theorem dX0_init_32 : decode cX0_init 32 = .ok (.return_, 1) := by decide +kernel
theorem dX0_setOne_0 : decode cX0_setOne 0 = .ok (.aload_n 0, 1) := by decide +kernel
theorem dX0_setOne_1 : decode cX0_setOne 1 = .ok (.iload_n 1, 1) := by decide +kernel
theorem dX0_setOne_2 : decode cX0_setOne 2 = .ok (.putfield 9, 3) := by decide +kernel
theorem dX0_setOne_5 : decode cX0_setOne 5 = .ok (.aload_n 0, 1) := by decide +kernel
theorem dX0_setOne_6 : decode cX0_setOne 6 = .ok (.iload_n 2, 1) := by decide +kernel
theorem dX0_setOne_7 : decode cX0_setOne 7 = .ok (.putfield 15, 3) := by decide +kernel
theorem dX0_setOne_10 : decode cX0_setOne 10 = .ok (.aload_n 0, 1) := by decide +kernel
theorem dX0_setOne_11 : decode cX0_setOne 11 = .ok (.iload_n 3, 1) := by decide +kernel
theorem dX0_setOne_12 : decode cX0_setOne 12 = .ok (.putfield 18, 3) := by decide +kernel
theorem dX0_setOne_15 : decode cX0_setOne 15 = .ok (.return_, 1) := by decide +kernel
theorem dX0_run_0 : decode cX0_run 0 = .ok (.aload_n 0, 1) := by decide +kernel
theorem dX0_run_1 : decode cX0_run 1 = .ok (.getfield 21, 3) := by decide +kernel
theorem dX0_run_4 : decode cX0_run 4 = .ok (.bipush 20, 2) := by decide +kernel
theorem dX0_run_6 : decode cX0_run 6 = .ok (.if_icmp .ge 13, 3) := by decide +kernel
theorem dX0_run_9 : decode cX0_run 9 = .ok (.aload_n 0, 1) := by decide +kernel
theorem dX0_run_10 : decode cX0_run 10 = .ok (.getfield 24, 3) := by decide +kernel
theorem dX0_run_13 : decode cX0_run 13 = .ok (.aload_n 0, 1) := by decide +kernel
theorem dX0_run_14 : decode cX0_run 14 = .ok (.getfield 21, 3) := by decide +kernel
theorem dX0_run_17 : decode cX0_run 17 = .ok (.iload_n 1, 1) := by decide +kernel
theorem dX0_run_18 : decode cX0_run 18 = .ok (.iastore, 1) := by decide +kernel
theorem dX0_run_19 : decode cX0_run 19 = .ok (.aload_n 0, 1) := by decide +kernel
theorem dX0_run_20 : decode cX0_run 20 = .ok (.dup, 1) := by decide +kernel
theorem dX0_run_21 : decode cX0_run 21 = .ok (.getfield 21, 3) := by decide +kernel
theorem dX0_run_24 : decode cX0_run 24 = .ok (.iconst 1, 1) := by decide +kernel
theorem dX0_run_25 : decode cX0_run 25 = .ok (.iadd, 1) := by decide +kernel
theorem dX0_run_26 : decode cX0_run 26 = .ok (.putfield 21, 3) := by decide +kernel
theorem dX0_run_29 : decode cX0_run 29 = .ok (.return_, 1) := by decide +kernel
theorem dX0_hears_0 : decode cX0_hears 0 = .ok (.aload_n 0, 1) := by decide +kernel
theorem dX0_hears_1 : decode cX0_hears 1 = .ok (.getfield 9, 3) := by decide +kernel
theorem dX0_hears_4 : decode cX0_hears 4 = .ok (.iconst 1, 1) := by decide +kernel
theorem dX0_hears_5 : decode cX0_hears 5 = .ok (.invokestatic 28, 3) := by decide +kernel
theorem dX0_hears_8 : decode cX0_hears 8 = .ok (.ifCond .eq 23, 3) := by decide +kernel
theorem dX0_hears_11 : decode cX0_hears 11 = .ok (.aload_n 0, 1) := by decide +kernel
theorem dX0_hears_12 : decode cX0_hears 12 = .ok (.bipush 11, 2) := by decide +kernel
theorem dX0_hears_14 : decode cX0_hears 14 = .ok (.invokevirtual 32, 3) := by decide +kernel
theorem dX0_hears_17 : decode cX0_hears 17 = .ok (.aload_n 0, 1) := by decide +kernel
theorem dX0_hears_18 : decode cX0_hears 18 = .ok (.iconst 1, 1) := by decide +kernel
theorem dX0_hears_19 : decode cX0_hears 19 = .ok (.invokevirtual 32, 3) := by decide +kernel
theorem dX0_hears_22 : decode cX0_hears 22 = .ok (.iload_n 1, 1) := by decide +kernel
theorem dX0_hears_23 : decode cX0_hears 23 = .ok (.iconst 3, 1) := by decide +kernel
theorem dX0_hears_24 : decode cX0_hears 24 = .ok (.imul, 1) := by decide +kernel
theorem dX0_hears_25 : decode cX0_hears 25 = .ok (.aload_n 0, 1) := by decide +kernel
theorem dX0_hears_26 : decode cX0_hears 26 = .ok (.getfield 15, 3) := by decide +kernel
theorem dX0_hears_29 : decode cX0_hears 29 = .ok (.iadd, 1) := by decide +kernel
theorem dX0_hears_30 : decode cX0_hears 30 = .ok (.ireturn, 1) := by decide +kernel
theorem dX0_hears_31 : decode cX0_hears 31 = .ok (.aload_n 0, 1) := by decide +kernel
theorem dX0_hears_32 : decode cX0_hears 32 = .ok (.getfield 9, 3) := by decide +kernel
theorem dX0_hears_35 : decode cX0_hears 35 = .ok (.iconst 5, 1) := by decide +kernel
theorem dX0_hears_36 : decode cX0_hears 36 = .ok (.invokestatic 28, 3) := by decide +kernel
theorem dX0_hears_39 : decode cX0_hears 39 = .ok (.ifCond .eq 26, 3) := by decide +kernel
theorem dX0_hears_42 : decode cX0_hears 42 = .ok (.aload_n 0, 1) := by decide +kernel
theorem dX0_hears_43 : decode cX0_hears 43 = .ok (.bipush 51, 2) := by decide +kernel
theorem dX0_hears_45 : decode cX0_hears 45 = .ok (.invokevirtual 32, 3) := by decide +kernel
theorem dX0_hears_48 : decode cX0_hears 48 = .ok (.aload_n 0, 1) := by decide +kernel
theorem dX0_hears_49 : decode cX0_hears 49 = .ok (.iconst 1, 1) := by decide +kernel
theorem dX0_hears_50 : decode cX0_hears 50 = .ok (.invokevirtual 32, 3) := by decide +kernel
theorem dX0_hears_53 : decode cX0_hears 53 = .ok (.iload_n 1, 1) := by decide +kernel
theorem dX0_hears_54 : decode cX0_hears 54 = .ok (.aload_n 0, 1) := by decide +kernel
theorem dX0_hears_55 : decode cX0_hears 55 = .ok (.getfield 15, 3) := by decide +kernel
theorem dX0_hears_58 : decode cX0_hears 58 = .ok (.iadd, 1) := by decide +kernel
theorem dX0_hears_59 : decode cX0_hears 59 = .ok (.aload_n 0, 1) := by decide +kernel
theorem dX0_hears_60 : decode cX0_hears 60 = .ok (.getfield 15, 3) := by decide +kernel
theorem dX0_hears_63 : decode cX0_hears 63 = .ok (.ixor, 1) := by decide +kernel
theorem dX0_hears_64 : decode cX0_hears 64 = .ok (.ireturn, 1) := by decide +kernel
theorem dX0_hears_65 : decode cX0_hears 65 = .ok (.aload_n 0, 1) := by decide +kernel
theorem dX0_hears_66 : decode cX0_hears 66 = .ok (.iconst 1, 1) := by decide +kernel
theorem dX0_hears_67 : decode cX0_hears 67 = .ok (.invokevirtual 32, 3) := by decide +kernel
theorem dX0_hears_70 : decode cX0_hears 70 = .ok (.iload_n 1, 1) := by decide +kernel
theorem dX0_hears_71 : decode cX0_hears 71 = .ok (.aload_n 0, 1) := by decide +kernel
theorem dX0_hears_72 : decode cX0_hears 72 = .ok (.getfield 15, 3) := by decide +kernel
theorem dX0_hears_75 : decode cX0_hears 75 = .ok (.iadd, 1) := by decide +kernel
theorem dX0_hears_76 : decode cX0_hears 76 = .ok (.ireturn, 1) := by decide +kernel
theorem dX0_tells_0 : decode cX0_tells 0 = .ok (.aload_n 0, 1) := by decide +kernel
theorem dX0_tells_1 : decode cX0_tells 1 = .ok (.getfield 9, 3) := by decide +kernel
theorem dX0_tells_4 : decode cX0_tells 4 = .ok (.iconst 2, 1) := by decide +kernel
theorem dX0_tells_5 : decode cX0_tells 5 = .ok (.invokestatic 28, 3) := by decide +kernel
theorem dX0_tells_8 : decode cX0_tells 8 = .ok (.ifCond .eq 26, 3) := by decide +kernel
theorem dX0_tells_11 : decode cX0_tells 11 = .ok (.aload_n 0, 1) := by decide +kernel
theorem dX0_tells_12 : decode cX0_tells 12 = .ok (.bipush 21, 2) := by decide +kernel
theorem dX0_tells_14 : decode cX0_tells 14 = .ok (.invokevirtual 32, 3) := by decide +kernel
theorem dX0_tells_17 : decode cX0_tells 17 = .ok (.aload_n 0, 1) := by decide +kernel
theorem dX0_tells_18 : decode cX0_tells 18 = .ok (.iconst 2, 1) := by decide +kernel
theorem dX0_tells_19 : decode cX0_tells 19 = .ok (.invokevirtual 32, 3) := by decide +kernel
theorem dX0_tells_22 : decode cX0_tells 22 = .ok (.aload_n 0, 1) := by decide +kernel
theorem dX0_tells_23 : decode cX0_tells 23 = .ok (.iload_n 1, 1) := by decide +kernel
theorem dX0_tells_24 : decode cX0_tells 24 = .ok (.invokevirtual 36, 3) := by decide +kernel
theorem dX0_tells_27 : decode cX0_tells 27 = .ok (.aload_n 0, 1) := by decide +kernel
theorem dX0_tells_28 : decode cX0_tells 28 = .ok (.getfield 18, 3) := by decide +kernel
theorem dX0_tells_31 : decode cX0_tells 31 = .ok (.isub, 1) := by decide +kernel
theorem dX0_tells_32 : decode cX0_tells 32 = .ok (.ineg, 1) := by decide +kernel
theorem dX0_tells_33 : decode cX0_tells 33 = .ok (.ireturn, 1) := by decide +kernel
theorem dX0_tells_34 : decode cX0_tells 34 = .ok (.aload_n 0, 1) := by decide +kernel
theorem dX0_tells_35 : decode cX0_tells 35 = .ok (.getfield 9, 3) := by decide +kernel
theorem dX0_tells_38 : decode cX0_tells 38 = .ok (.bipush 6, 2) := by decide +kernel
theorem dX0_tells_40 : decode cX0_tells 40 = .ok (.invokestatic 28, 3) := by decide +kernel
theorem dX0_tells_43 : decode cX0_tells 43 = .ok (.ifCond .eq 30, 3) := by decide +kernel
theorem dX0_tells_46 : decode cX0_tells 46 = .ok (.aload_n 0, 1) := by decide +kernel
theorem dX0_tells_47 : decode cX0_tells 47 = .ok (.bipush 61, 2) := by decide +kernel
theorem dX0_tells_49 : decode cX0_tells 49 = .ok (.invokevirtual 32, 3) := by decide +kernel
theorem dX0_tells_52 : decode cX0_tells 52 = .ok (.aload_n 0, 1) := by decide +kernel
theorem dX0_tells_53 : decode cX0_tells 53 = .ok (.iconst 2, 1) := by decide +kernel
theorem dX0_tells_54 : decode cX0_tells 54 = .ok (.invokevirtual 32, 3) := by decide +kernel
theorem dX0_tells_57 : decode cX0_tells 57 = .ok (.aload_n 0, 1) := by decide +kernel
theorem dX0_tells_58 : decode cX0_tells 58 = .ok (.iload_n 1, 1) := by decide +kernel
theorem dX0_tells_59 : decode cX0_tells 59 = .ok (.invokevirtual 36, 3) := by decide +kernel
theorem dX0_tells_62 : decode cX0_tells 62 = .ok (.aload_n 0, 1) := by decide +kernel
theorem dX0_tells_63 : decode cX0_tells 63 = .ok (.getfield 18, 3) := by decide +kernel
theorem dX0_tells_66 : decode cX0_tells 66 = .ok (.isub, 1) := by decide +kernel
theorem dX0_tells_67 : decode cX0_tells 67 = .ok (.aload_n 0, 1) := by decide +kernel
theorem dX0_tells_68 : decode cX0_tells 68 = .ok (.getfield 18, 3) := by decide +kernel
theorem dX0_tells_71 : decode cX0_tells 71 = .ok (.iadd, 1) := by decide +kernel
theorem dX0_tells_72 : decode cX0_tells 72 = .ok (.ireturn, 1) := by decide +kernel
theorem dX0_tells_73 : decode cX0_tells 73 = .ok (.aload_n 0, 1) := by decide +kernel
theorem dX0_tells_74 : decode cX0_tells 74 = .ok (.iconst 2, 1) := by decide +kernel
theorem dX0_tells_75 : decode cX0_tells 75 = .ok (.invokevirtual 32, 3) := by decide +kernel
theorem dX0_tells_78 : decode cX0_tells 78 = .ok (.aload_n 0, 1) := by decide +kernel
theorem dX0_tells_79 : decode cX0_tells 79 = .ok (.iload_n 1, 1) := by decide +kernel
theorem dX0_tells_80 : decode cX0_tells 80 = .ok (.invokevirtual 36, 3) := by decide +kernel
theorem dX0_tells_83 : decode cX0_tells 83 = .ok (.aload_n 0, 1) := by decide +kernel
theorem dX0_tells_84 : decode cX0_tells 84 = .ok (.getfield 18, 3) := by decide +kernel
theorem dX0_tells_87 : decode cX0_tells 87 = .ok (.isub, 1) := by decide +kernel
theorem dX0_tells_88 : decode cX0_tells 88 = .ok (.ireturn, 1) := by decide +kernel
theorem dX0_pays_0 : decode cX0_pays 0 = .ok (.aload_n 0, 1) := by decide +kernel
theorem dX0_pays_1 : decode cX0_pays 1 = .ok (.getfield 9, 3) := by decide +kernel
theorem dX0_pays_4 : decode cX0_pays 4 = .ok (.iconst 3, 1) := by decide +kernel
theorem dX0_pays_5 : decode cX0_pays 5 = .ok (.invokestatic 28, 3) := by decide +kernel
theorem dX0_pays_8 : decode cX0_pays 8 = .ok (.ifCond .eq 25, 3) := by decide +kernel
theorem dX0_pays_11 : decode cX0_pays 11 = .ok (.aload_n 0, 1) := by decide +kernel
theorem dX0_pays_12 : decode cX0_pays 12 = .ok (.bipush 31, 2) := by decide +kernel
theorem dX0_pays_14 : decode cX0_pays 14 = .ok (.invokevirtual 32, 3) := by decide +kernel
theorem dX0_pays_17 : decode cX0_pays 17 = .ok (.aload_n 0, 1) := by decide +kernel
theorem dX0_pays_18 : decode cX0_pays 18 = .ok (.iconst 3, 1) := by decide +kernel
theorem dX0_pays_19 : decode cX0_pays 19 = .ok (.invokevirtual 32, 3) := by decide +kernel
theorem dX0_pays_22 : decode cX0_pays 22 = .ok (.aload_n 0, 1) := by decide +kernel
theorem dX0_pays_23 : decode cX0_pays 23 = .ok (.iload_n 1, 1) := by decide +kernel
theorem dX0_pays_24 : decode cX0_pays 24 = .ok (.invokevirtual 40, 3) := by decide +kernel
theorem dX0_pays_27 : decode cX0_pays 27 = .ok (.iconst 2, 1) := by decide +kernel
theorem dX0_pays_28 : decode cX0_pays 28 = .ok (.imul, 1) := by decide +kernel
theorem dX0_pays_29 : decode cX0_pays 29 = .ok (.bipush 7, 2) := by decide +kernel
theorem dX0_pays_31 : decode cX0_pays 31 = .ok (.ixor, 1) := by decide +kernel
theorem dX0_pays_32 : decode cX0_pays 32 = .ok (.ireturn, 1) := by decide +kernel
theorem dX0_pays_33 : decode cX0_pays 33 = .ok (.aload_n 0, 1) := by decide +kernel
theorem dX0_pays_34 : decode cX0_pays 34 = .ok (.getfield 9, 3) := by decide +kernel
theorem dX0_pays_37 : decode cX0_pays 37 = .ok (.iconst 4, 1) := by decide +kernel
theorem dX0_pays_38 : decode cX0_pays 38 = .ok (.invokestatic 28, 3) := by decide +kernel
theorem dX0_pays_41 : decode cX0_pays 41 = .ok (.ifCond .eq 30, 3) := by decide +kernel
theorem dX0_pays_44 : decode cX0_pays 44 = .ok (.aload_n 0, 1) := by decide +kernel
theorem dX0_pays_45 : decode cX0_pays 45 = .ok (.bipush 41, 2) := by decide +kernel
theorem dX0_pays_47 : decode cX0_pays 47 = .ok (.invokevirtual 32, 3) := by decide +kernel
theorem dX0_pays_50 : decode cX0_pays 50 = .ok (.aload_n 0, 1) := by decide +kernel
theorem dX0_pays_51 : decode cX0_pays 51 = .ok (.iconst 3, 1) := by decide +kernel
theorem dX0_pays_52 : decode cX0_pays 52 = .ok (.invokevirtual 32, 3) := by decide +kernel
theorem dX0_pays_55 : decode cX0_pays 55 = .ok (.aload_n 0, 1) := by decide +kernel
theorem dX0_pays_56 : decode cX0_pays 56 = .ok (.iload_n 1, 1) := by decide +kernel
theorem dX0_pays_57 : decode cX0_pays 57 = .ok (.iconst 1, 1) := by decide +kernel
theorem dX0_pays_58 : decode cX0_pays 58 = .ok (.isub, 1) := by decide +kernel
theorem dX0_pays_59 : decode cX0_pays 59 = .ok (.invokevirtual 40, 3) := by decide +kernel
theorem dX0_pays_62 : decode cX0_pays 62 = .ok (.iconst 2, 1) := by decide +kernel
theorem dX0_pays_63 : decode cX0_pays 63 = .ok (.imul, 1) := by decide +kernel
theorem dX0_pays_64 : decode cX0_pays 64 = .ok (.aload_n 0, 1) := by decide +kernel
theorem dX0_pays_65 : decode cX0_pays 65 = .ok (.iconst 2, 1) := by decide +kernel
theorem dX0_pays_66 : decode cX0_pays 66 = .ok (.invokevirtual 36, 3) := by decide +kernel
theorem dX0_pays_69 : decode cX0_pays 69 = .ok (.iadd, 1) := by decide +kernel
theorem dX0_pays_70 : decode cX0_pays 70 = .ok (.ireturn, 1) := by decide +kernel
theorem dX0_pays_71 : decode cX0_pays 71 = .ok (.aload_n 0, 1) := by decide +kernel
theorem dX0_pays_72 : decode cX0_pays 72 = .ok (.iconst 3, 1) := by decide +kernel
theorem dX0_pays_73 : decode cX0_pays 73 = .ok (.invokevirtual 32, 3) := by decide +kernel
theorem dX0_pays_76 : decode cX0_pays 76 = .ok (.aload_n 0, 1) := by decide +kernel
theorem dX0_pays_77 : decode cX0_pays 77 = .ok (.iload_n 1, 1) := by decide +kernel
theorem dX0_pays_78 : decode cX0_pays 78 = .ok (.invokevirtual 40, 3) := by decide +kernel
theorem dX0_pays_81 : decode cX0_pays 81 = .ok (.iconst 2, 1) := by decide +kernel
theorem dX0_pays_82 : decode cX0_pays 82 = .ok (.imul, 1) := by decide +kernel
theorem dX0_pays_83 : decode cX0_pays 83 = .ok (.ireturn, 1) := by decide +kernel
theorem dX1_init_0 : decode cX1_init 0 = .ok (.aload_n 0, 1) := by decide +kernel
theorem dX1_init_1 : decode cX1_init 1 = .ok (.invokespecial 3, 3) := by decide +kernel
theorem dX1_init_4 : decode cX1_init 4 = .ok (.aload_n 0, 1) := by decide +kernel
theorem dX1_init_5 : decode cX1_init 5 = .ok (.new 9, 3) := by decide +kernel
theorem dX1_init_8 : decode cX1_init 8 = .ok (.dup, 1) := by decide +kernel
theorem dX1_init_9 : decode cX1_init 9 = .ok (.invokespecial 11, 3) := by decide +kernel
theorem dX1_init_12 : decode cX1_init 12 = .ok (.putfield 12, 3) := by decide +kernel
theorem dX1_init_15 : decode cX1_init 15 = .ok (.aload_n 0, 1) := by decide +kernel
theorem dX1_init_16 : decode cX1_init 16 = .ok (.new 18, 3) := by decide +kernel
theorem dX1_init_19 : decode cX1_init 19 = .ok (.dup, 1) := by decide +kernel
theorem dX1_init_20 : decode cX1_init 20 = .ok (.invokespecial 20, 3) := by decide +kernel
theorem dX1_init_23 : decode cX1_init 23 = .ok (.putfield 21, 3) := by decide +kernel
theorem dX1_init_26 : decode cX1_init 26 = .ok (.aload_n 0, 1) := by decide +kernel
theorem dX1_init_27 : decode cX1_init 27 = .ok (.iconst (-1), 1) := by decide +kernel
theorem dX1_init_28 : decode cX1_init 28 = .ok (.putfield 25, 3) := by decide +kernel
theorem dX1_init_31 : decode cX1_init 31 = .ok (.aload_n 0, 1) := by decide +kernel
theorem dX1_init_32 : decode cX1_init 32 = .ok (.iconst 0, 1) := by decide +kernel
theorem dX1_init_33 : decode cX1_init 33 = .ok (.putfield 29, 3) := by decide +kernel
theorem dX1_init_36 : decode cX1_init 36 = .ok (.aload_n 0, 1) := by decide +kernel
theorem dX1_init_37 : decode cX1_init 37 = .ok (.iconst 0, 1) := by decide +kernel
theorem dX1_init_38 : decode cX1_init 38 = .ok (.putfield 32, 3) := by decide +kernel
theorem dX1_init_41 : decode cX1_init 41 = .ok (.aload_n 0, 1) := by decide +kernel
theorem dX1_init_42 : decode cX1_init 42 = .ok (.iconst 0, 1) := by decide +kernel
theorem dX1_init_43 : decode cX1_init 43 = .ok (.putfield 35, 3) := by decide +kernel
theorem dX1_init_46 : decode cX1_init 46 = .ok (.aload_n 0, 1) := by decide +kernel
theorem dX1_init_47 : decode cX1_init 47 = .ok (.iconst 0, 1) := by decide +kernel
theorem dX1_init_48 : decode cX1_init 48 = .ok (.putfield 38, 3) := by decide +kernel
theorem dX1_init_51 : decode cX1_init 51 = .ok (.aload_n 0, 1) := by decide +kernel
theorem dX1_init_52 : decode cX1_init 52 = .ok (.iconst 0, 1) := by decide +kernel
theorem dX1_init_53 : decode cX1_init 53 = .ok (.putfield 41, 3) := by decide +kernel
theorem dX1_init_56 : decode cX1_init 56 = .ok (.aload_n 0, 1) := by decide +kernel
theorem dX1_init_57 : decode cX1_init 57 = .ok (.bipush (-5), 2) := by decide +kernel
theorem dX1_init_59 : decode cX1_init 59 = .ok (.putfield 44, 3) := by decide +kernel
theorem dX1_init_62 : decode cX1_init 62 = .ok (.return_, 1) := by decide +kernel
theorem dX1_findBest_0 : decode cX1_findBest 0 = .ok (.aload_n 0, 1) := by decide +kernel
theorem dX1_findBest_1 : decode cX1_findBest 1 = .ok (.iconst (-1), 1) := by decide +kernel
theorem dX1_findBest_2 : decode cX1_findBest 2 = .ok (.putfield 25, 3) := by decide +kernel
theorem dX1_findBest_5 : decode cX1_findBest 5 = .ok (.iconst 0, 1) := by decide +kernel
theorem dX1_findBest_6 : decode cX1_findBest 6 = .ok (.istore_n 2, 1) := by decide +kernel
theorem dX1_findBest_7 : decode cX1_findBest 7 = .ok (.iload_n 2, 1) := by decide +kernel
theorem dX1_findBest_8 : decode cX1_findBest 8 = .ok (.aload_n 0, 1) := by decide +kernel
theorem dX1_findBest_9 : decode cX1_findBest 9 = .ok (.getfield 12, 3) := by decide +kernel
theorem dX1_findBest_12 : decode cX1_findBest 12 = .ok (.getfield 47, 3) := by decide +kernel
theorem dX1_findBest_15 : decode cX1_findBest 15 = .ok (.getfield 51, 3) := by decide +kernel
theorem dX1_findBest_18 : decode cX1_findBest 18 = .ok (.getfield 57, 3) := by decide +kernel
theorem dX1_findBest_21 : decode cX1_findBest 21 = .ok (.if_icmp .ge 128, 3) := by decide +kernel
theorem dX1_findBest_24 : decode cX1_findBest 24 = .ok (.aload_n 0, 1) := by decide +kernel
theorem dX1_findBest_25 : decode cX1_findBest 25 = .ok (.getfield 21, 3) := by decide +kernel
theorem dX1_findBest_28 : decode cX1_findBest 28 = .ok (.iload_n 2, 1) := by decide +kernel
theorem dX1_findBest_29 : decode cX1_findBest 29 = .ok (.iload_n 1, 1) := by decide +kernel
theorem dX1_findBest_30 : decode cX1_findBest 30 = .ok (.aload_n 0, 1) := by decide +kernel
theorem dX1_findBest_31 : decode cX1_findBest 31 = .ok (.getfield 12, 3) := by decide +kernel
theorem dX1_findBest_34 : decode cX1_findBest 34 = .ok (.getfield 47, 3) := by decide +kernel
theorem dX1_findBest_37 : decode cX1_findBest 37 = .ok (.getfield 62, 3) := by decide +kernel
theorem dX1_findBest_40 : decode cX1_findBest 40 = .ok (.getfield 65, 3) := by decide +kernel
theorem dX1_findBest_43 : decode cX1_findBest 43 = .ok (.invokevirtual 68, 3) := by decide +kernel
theorem dX1_findBest_46 : decode cX1_findBest 46 = .ok (.aload_n 0, 1) := by decide +kernel
theorem dX1_findBest_47 : decode cX1_findBest 47 = .ok (.getfield 12, 3) := by decide +kernel
theorem dX1_findBest_50 : decode cX1_findBest 50 = .ok (.aload_n 0, 1) := by decide +kernel
theorem dX1_findBest_51 : decode cX1_findBest 51 = .ok (.getfield 21, 3) := by decide +kernel
theorem dX1_findBest_54 : decode cX1_findBest 54 = .ok (.iconst (-1), 1) := by decide +kernel
theorem dX1_findBest_55 : decode cX1_findBest 55 = .ok (.iconst 0, 1) := by decide +kernel
theorem dX1_findBest_56 : decode cX1_findBest 56 = .ok (.iconst (-1), 1) := by decide +kernel
theorem dX1_findBest_57 : decode cX1_findBest 57 = .ok (.invokevirtual 72, 3) := by decide +kernel
theorem dX1_findBest_60 : decode cX1_findBest 60 = .ok (.pop, 1) := by decide +kernel
theorem dX1_findBest_61 : decode cX1_findBest 61 = .ok (.aload_n 0, 1) := by decide +kernel
theorem dX1_findBest_62 : decode cX1_findBest 62 = .ok (.getfield 21, 3) := by decide +kernel
theorem dX1_findBest_65 : decode cX1_findBest 65 = .ok (.getfield 76, 3) := by decide +kernel
theorem dX1_findBest_68 : decode cX1_findBest 68 = .ok (.invokestatic 79, 3) := by decide +kernel
theorem dX1_findBest_71 : decode cX1_findBest 71 = .ok (.istore_n 3, 1) := by decide +kernel
theorem dX1_findBest_72 : decode cX1_findBest 72 = .ok (.iload_n 3, 1) := by decide +kernel
theorem dX1_findBest_73 : decode cX1_findBest 73 = .ok (.aload_n 0, 1) := by decide +kernel
theorem dX1_findBest_74 : decode cX1_findBest 74 = .ok (.getfield 29, 3) := by decide +kernel
theorem dX1_findBest_77 : decode cX1_findBest 77 = .ok (.if_icmp .gt 25, 3) := by decide +kernel
theorem dX1_findBest_80 : decode cX1_findBest 80 = .ok (.iload_n 3, 1) := by decide +kernel
theorem dX1_findBest_81 : decode cX1_findBest 81 = .ok (.aload_n 0, 1) := by decide +kernel
theorem dX1_findBest_82 : decode cX1_findBest 82 = .ok (.getfield 29, 3) := by decide +kernel
theorem dX1_findBest_85 : decode cX1_findBest 85 = .ok (.if_icmp .ne 21, 3) := by decide +kernel
theorem dX1_findBest_88 : decode cX1_findBest 88 = .ok (.aload_n 0, 1) := by decide +kernel
theorem dX1_findBest_89 : decode cX1_findBest 89 = .ok (.getfield 21, 3) := by decide +kernel
theorem dX1_findBest_92 : decode cX1_findBest 92 = .ok (.getfield 85, 3) := by decide +kernel
theorem dX1_findBest_95 : decode cX1_findBest 95 = .ok (.aload_n 0, 1) := by decide +kernel
theorem dX1_findBest_96 : decode cX1_findBest 96 = .ok (.getfield 32, 3) := by decide +kernel
theorem dX1_findBest_99 : decode cX1_findBest 99 = .ok (.if_icmp .ge 7, 3) := by decide +kernel
theorem dX1_findBest_102 : decode cX1_findBest 102 = .ok (.iconst 1, 1) := by decide +kernel
theorem dX1_findBest_103 : decode cX1_findBest 103 = .ok (.goto 4, 3) := by decide +kernel
theorem dX1_findBest_106 : decode cX1_findBest 106 = .ok (.iconst 0, 1) := by decide +kernel
theorem dX1_findBest_107 : decode cX1_findBest 107 = .ok (.istore 4, 2) := by decide +kernel
theorem dX1_findBest_109 : decode cX1_findBest 109 = .ok (.aload_n 0, 1) := by decide +kernel
theorem dX1_findBest_110 : decode cX1_findBest 110 = .ok (.getfield 25, 3) := by decide +kernel
theorem dX1_findBest_113 : decode cX1_findBest 113 = .ok (.iconst (-1), 1) := by decide +kernel
theorem dX1_findBest_114 : decode cX1_findBest 114 = .ok (.if_icmp .eq 8, 3) := by decide +kernel
theorem dX1_findBest_117 : decode cX1_findBest 117 = .ok (.iload 4, 2) := by decide +kernel
theorem dX1_findBest_119 : decode cX1_findBest 119 = .ok (.ifCond .eq 24, 3) := by decide +kernel
theorem dX1_findBest_122 : decode cX1_findBest 122 = .ok (.aload_n 0, 1) := by decide +kernel
theorem dX1_findBest_123 : decode cX1_findBest 123 = .ok (.iload_n 2, 1) := by decide +kernel
theorem dX1_findBest_124 : decode cX1_findBest 124 = .ok (.putfield 25, 3) := by decide +kernel
theorem dX1_findBest_127 : decode cX1_findBest 127 = .ok (.aload_n 0, 1) := by decide +kernel
theorem dX1_findBest_128 : decode cX1_findBest 128 = .ok (.iload_n 3, 1) := by decide +kernel
theorem dX1_findBest_129 : decode cX1_findBest 129 = .ok (.putfield 29, 3) := by decide +kernel
theorem dX1_findBest_132 : decode cX1_findBest 132 = .ok (.aload_n 0, 1) := by decide +kernel
theorem dX1_findBest_133 : decode cX1_findBest 133 = .ok (.aload_n 0, 1) := by decide +kernel
theorem dX1_findBest_134 : decode cX1_findBest 134 = .ok (.getfield 21, 3) := by decide +kernel
theorem dX1_findBest_137 : decode cX1_findBest 137 = .ok (.getfield 85, 3) := by decide +kernel
theorem dX1_findBest_140 : decode cX1_findBest 140 = .ok (.putfield 32, 3) := by decide +kernel
theorem dX1_findBest_143 : decode cX1_findBest 143 = .ok (.iinc 2 1, 3) := by decide +kernel
theorem dX1_findBest_146 : decode cX1_findBest 146 = .ok (.goto (-139), 3) := by decide +kernel
theorem dX1_findBest_149 : decode cX1_findBest 149 = .ok (.return_, 1) := by decide +kernel
theorem dX1_isChoosable_0 : decode cX1_isChoosable 0 = .ok (.iload_n 3, 1) := by decide +kernel
theorem dX1_isChoosable_1 : decode cX1_isChoosable 1 = .ok (.iload_n 2, 1) := by decide +kernel
theorem dX1_isChoosable_2 : decode cX1_isChoosable 2 = .ok (.invokestatic 79, 3) := by decide +kernel
theorem dX1_isChoosable_5 : decode cX1_isChoosable 5 = .ok (.invokestatic 88, 3) := by decide +kernel
theorem dX1_isChoosable_8 : decode cX1_isChoosable 8 = .ok (.istore 4, 2) := by decide +kernel
theorem dX1_isChoosable_10 : decode cX1_isChoosable 10 = .ok (.iload_n 1, 1) := by decide +kernel
theorem dX1_isChoosable_11 : decode cX1_isChoosable 11 = .ok (.iload_n 2, 1) := by decide +kernel
theorem dX1_isChoosable_12 : decode cX1_isChoosable 12 = .ok (.iconst (-1), 1) := by decide +kernel
theorem dX1_isChoosable_13 : decode cX1_isChoosable 13 = .ok (.ixor, 1) := by decide +kernel
theorem dX1_isChoosable_14 : decode cX1_isChoosable 14 = .ok (.iand, 1) := by decide +kernel
theorem dX1_isChoosable_15 : decode cX1_isChoosable 15 = .ok (.ifCond .ne 16, 3) := by decide +kernel
theorem dX1_isChoosable_18 : decode cX1_isChoosable 18 = .ok (.iload_n 1, 1) := by decide +kernel
theorem dX1_isChoosable_19 : decode cX1_isChoosable 19 = .ok (.invokestatic 79, 3) := by decide +kernel
theorem dX1_isChoosable_22 : decode cX1_isChoosable 22 = .ok (.iload 4, 2) := by decide +kernel
theorem dX1_isChoosable_24 : decode cX1_isChoosable 24 = .ok (.if_icmp .ne 7, 3) := by decide +kernel
theorem dX1_isChoosable_27 : decode cX1_isChoosable 27 = .ok (.iconst 1, 1) := by decide +kernel
theorem dX1_isChoosable_28 : decode cX1_isChoosable 28 = .ok (.goto 4, 3) := by decide +kernel
theorem dX1_isChoosable_31 : decode cX1_isChoosable 31 = .ok (.iconst 0, 1) := by decide +kernel
theorem dX1_isChoosable_32 : decode cX1_isChoosable 32 = .ok (.ireturn, 1) := by decide +kernel
theorem dX1_findChoice_0 : decode cX1_findChoice 0 = .ok (.aload_n 0, 1) := by decide +kernel
theorem dX1_findChoice_1 : decode cX1_findChoice 1 = .ok (.getfield 12, 3) := by decide +kernel
theorem dX1_findChoice_4 : decode cX1_findChoice 4 = .ok (.getfield 47, 3) := by decide +kernel
theorem dX1_findChoice_7 : decode cX1_findChoice 7 = .ok (.getfield 62, 3) := by decide +kernel
theorem dX1_findChoice_10 : decode cX1_findChoice 10 = .ok (.astore_n 2, 1) := by decide +kernel
theorem dX1_findChoice_11 : decode cX1_findChoice 11 = .ok (.aload_n 0, 1) := by decide +kernel
theorem dX1_findChoice_12 : decode cX1_findChoice 12 = .ok (.getfield 12, 3) := by decide +kernel
theorem dX1_findChoice_15 : decode cX1_findChoice 15 = .ok (.aload_n 2, 1) := by decide +kernel
theorem dX1_findChoice_16 : decode cX1_findChoice 16 = .ok (.iload_n 1, 1) := by decide +kernel
theorem dX1_findChoice_17 : decode cX1_findChoice 17 = .ok (.invokevirtual 94, 3) := by decide +kernel
theorem dX1_findChoice_20 : decode cX1_findChoice 20 = .ok (.istore_n 3, 1) := by decide +kernel
theorem dX1_findChoice_21 : decode cX1_findChoice 21 = .ok (.aload_n 0, 1) := by decide +kernel
theorem dX1_findChoice_22 : decode cX1_findChoice 22 = .ok (.getfield 12, 3) := by decide +kernel
theorem dX1_findChoice_25 : decode cX1_findChoice 25 = .ok (.aload_n 2, 1) := by decide +kernel
theorem dX1_findChoice_26 : decode cX1_findChoice 26 = .ok (.iload_n 1, 1) := by decide +kernel
theorem dX1_findChoice_27 : decode cX1_findChoice 27 = .ok (.invokevirtual 98, 3) := by decide +kernel
theorem dX1_findChoice_30 : decode cX1_findChoice 30 = .ok (.istore 4, 2) := by decide +kernel
theorem dX1_findChoice_32 : decode cX1_findChoice 32 = .ok (.aload_n 0, 1) := by decide +kernel
theorem dX1_findChoice_33 : decode cX1_findChoice 33 = .ok (.iconst 0, 1) := by decide +kernel
theorem dX1_findChoice_34 : decode cX1_findChoice 34 = .ok (.putfield 35, 3) := by decide +kernel
theorem dX1_findChoice_37 : decode cX1_findChoice 37 = .ok (.aload_n 0, 1) := by decide +kernel
theorem dX1_findChoice_38 : decode cX1_findChoice 38 = .ok (.iconst (-1), 1) := by decide +kernel
theorem dX1_findChoice_39 : decode cX1_findChoice 39 = .ok (.putfield 38, 3) := by decide +kernel
theorem dX1_findChoice_42 : decode cX1_findChoice 42 = .ok (.iconst 0, 1) := by decide +kernel
theorem dX1_findChoice_43 : decode cX1_findChoice 43 = .ok (.istore 5, 2) := by decide +kernel
theorem dX1_findChoice_45 : decode cX1_findChoice 45 = .ok (.iload 5, 2) := by decide +kernel
theorem dX1_findChoice_47 : decode cX1_findChoice 47 = .ok (.sipush 128, 3) := by decide +kernel
theorem dX1_findChoice_50 : decode cX1_findChoice 50 = .ok (.if_icmp .ge 78, 3) := by decide +kernel
theorem dX1_findChoice_53 : decode cX1_findChoice 53 = .ok (.aload_n 0, 1) := by decide +kernel
theorem dX1_findChoice_54 : decode cX1_findChoice 54 = .ok (.iload 5, 2) := by decide +kernel
theorem dX1_findChoice_56 : decode cX1_findChoice 56 = .ok (.iload_n 3, 1) := by decide +kernel
theorem dX1_findChoice_57 : decode cX1_findChoice 57 = .ok (.iload 4, 2) := by decide +kernel
theorem dX1_findChoice_59 : decode cX1_findChoice 59 = .ok (.invokevirtual 101, 3) := by decide +kernel
theorem dX1_findChoice_62 : decode cX1_findChoice 62 = .ok (.ifCond .eq 60, 3) := by decide +kernel
theorem dX1_findChoice_65 : decode cX1_findChoice 65 = .ok (.aload_n 0, 1) := by decide +kernel
theorem dX1_findChoice_66 : decode cX1_findChoice 66 = .ok (.getfield 21, 3) := by decide +kernel
theorem dX1_findChoice_69 : decode cX1_findChoice 69 = .ok (.aload_n 2, 1) := by decide +kernel
theorem dX1_findChoice_70 : decode cX1_findChoice 70 = .ok (.invokevirtual 105, 3) := by decide +kernel
theorem dX1_findChoice_73 : decode cX1_findChoice 73 = .ok (.aload_n 0, 1) := by decide +kernel
theorem dX1_findChoice_74 : decode cX1_findChoice 74 = .ok (.getfield 12, 3) := by decide +kernel
theorem dX1_findChoice_77 : decode cX1_findChoice 77 = .ok (.aload_n 0, 1) := by decide +kernel
theorem dX1_findChoice_78 : decode cX1_findChoice 78 = .ok (.getfield 21, 3) := by decide +kernel
theorem dX1_findChoice_81 : decode cX1_findChoice 81 = .ok (.iload_n 1, 1) := by decide +kernel
theorem dX1_findChoice_82 : decode cX1_findChoice 82 = .ok (.iload 5, 2) := by decide +kernel
theorem dX1_findChoice_84 : decode cX1_findChoice 84 = .ok (.iconst (-1), 1) := by decide +kernel
theorem dX1_findChoice_85 : decode cX1_findChoice 85 = .ok (.invokevirtual 72, 3) := by decide +kernel
theorem dX1_findChoice_88 : decode cX1_findChoice 88 = .ok (.pop, 1) := by decide +kernel
theorem dX1_findChoice_89 : decode cX1_findChoice 89 = .ok (.aload_n 0, 1) := by decide +kernel
theorem dX1_findChoice_90 : decode cX1_findChoice 90 = .ok (.getfield 21, 3) := by decide +kernel
theorem dX1_findChoice_93 : decode cX1_findChoice 93 = .ok (.getfield 76, 3) := by decide +kernel
theorem dX1_findChoice_96 : decode cX1_findChoice 96 = .ok (.invokestatic 79, 3) := by decide +kernel
theorem dX1_findChoice_99 : decode cX1_findChoice 99 = .ok (.istore 6, 2) := by decide +kernel
theorem dX1_findChoice_101 : decode cX1_findChoice 101 = .ok (.iload 6, 2) := by decide +kernel
theorem dX1_findChoice_103 : decode cX1_findChoice 103 = .ok (.aload_n 0, 1) := by decide +kernel
theorem dX1_findChoice_104 : decode cX1_findChoice 104 = .ok (.getfield 38, 3) := by decide +kernel
theorem dX1_findChoice_107 : decode cX1_findChoice 107 = .ok (.if_icmp .le 15, 3) := by decide +kernel
theorem dX1_findChoice_110 : decode cX1_findChoice 110 = .ok (.aload_n 0, 1) := by decide +kernel
theorem dX1_findChoice_111 : decode cX1_findChoice 111 = .ok (.iload 5, 2) := by decide +kernel
theorem dX1_findChoice_113 : decode cX1_findChoice 113 = .ok (.putfield 35, 3) := by decide +kernel
theorem dX1_findChoice_116 : decode cX1_findChoice 116 = .ok (.aload_n 0, 1) := by decide +kernel
theorem dX1_findChoice_117 : decode cX1_findChoice 117 = .ok (.iload 6, 2) := by decide +kernel
theorem dX1_findChoice_119 : decode cX1_findChoice 119 = .ok (.putfield 38, 3) := by decide +kernel
theorem dX1_findChoice_122 : decode cX1_findChoice 122 = .ok (.iinc 5 1, 3) := by decide +kernel
theorem dX1_findChoice_125 : decode cX1_findChoice 125 = .ok (.goto (-80), 3) := by decide +kernel
theorem dX1_findChoice_128 : decode cX1_findChoice 128 = .ok (.return_, 1) := by decide +kernel
theorem dX1_findReach_0 : decode cX1_findReach 0 = .ok (.aload_n 0, 1) := by decide +kernel
theorem dX1_findReach_1 : decode cX1_findReach 1 = .ok (.getfield 12, 3) := by decide +kernel
theorem dX1_findReach_4 : decode cX1_findReach 4 = .ok (.getfield 47, 3) := by decide +kernel
theorem dX1_findReach_7 : decode cX1_findReach 7 = .ok (.getfield 62, 3) := by decide +kernel
theorem dX1_findReach_10 : decode cX1_findReach 10 = .ok (.astore_n 3, 1) := by decide +kernel
theorem dX1_findReach_11 : decode cX1_findReach 11 = .ok (.aload_n 0, 1) := by decide +kernel
theorem dX1_findReach_12 : decode cX1_findReach 12 = .ok (.getfield 12, 3) := by decide +kernel
theorem dX1_findReach_15 : decode cX1_findReach 15 = .ok (.aload_n 3, 1) := by decide +kernel
theorem dX1_findReach_16 : decode cX1_findReach 16 = .ok (.iload_n 1, 1) := by decide +kernel
theorem dX1_findReach_17 : decode cX1_findReach 17 = .ok (.invokevirtual 94, 3) := by decide +kernel
theorem dX1_findReach_20 : decode cX1_findReach 20 = .ok (.istore 4, 2) := by decide +kernel
theorem dX1_findReach_22 : decode cX1_findReach 22 = .ok (.aload_n 0, 1) := by decide +kernel
theorem dX1_findReach_23 : decode cX1_findReach 23 = .ok (.getfield 12, 3) := by decide +kernel
theorem dX1_findReach_26 : decode cX1_findReach 26 = .ok (.aload_n 3, 1) := by decide +kernel
theorem dX1_findReach_27 : decode cX1_findReach 27 = .ok (.iload_n 1, 1) := by decide +kernel
theorem dX1_findReach_28 : decode cX1_findReach 28 = .ok (.invokevirtual 98, 3) := by decide +kernel
theorem dX1_findReach_31 : decode cX1_findReach 31 = .ok (.istore 5, 2) := by decide +kernel
theorem dX1_findReach_33 : decode cX1_findReach 33 = .ok (.iconst 0, 1) := by decide +kernel
theorem dX1_findReach_34 : decode cX1_findReach 34 = .ok (.istore 6, 2) := by decide +kernel
theorem dX1_findReach_36 : decode cX1_findReach 36 = .ok (.iload 6, 2) := by decide +kernel
theorem dX1_findReach_38 : decode cX1_findReach 38 = .ok (.sipush 128, 3) := by decide +kernel
theorem dX1_findReach_41 : decode cX1_findReach 41 = .ok (.if_icmp .ge 63, 3) := by decide +kernel
theorem dX1_findReach_44 : decode cX1_findReach 44 = .ok (.aload_n 0, 1) := by decide +kernel
theorem dX1_findReach_45 : decode cX1_findReach 45 = .ok (.iload 6, 2) := by decide +kernel
theorem dX1_findReach_47 : decode cX1_findReach 47 = .ok (.iload 4, 2) := by decide +kernel
theorem dX1_findReach_49 : decode cX1_findReach 49 = .ok (.iload 5, 2) := by decide +kernel
theorem dX1_findReach_51 : decode cX1_findReach 51 = .ok (.invokevirtual 101, 3) := by decide +kernel
theorem dX1_findReach_54 : decode cX1_findReach 54 = .ok (.ifCond .eq 44, 3) := by decide +kernel
theorem dX1_findReach_57 : decode cX1_findReach 57 = .ok (.aload_n 0, 1) := by decide +kernel
theorem dX1_findReach_58 : decode cX1_findReach 58 = .ok (.getfield 21, 3) := by decide +kernel
theorem dX1_findReach_61 : decode cX1_findReach 61 = .ok (.aload_n 3, 1) := by decide +kernel
theorem dX1_findReach_62 : decode cX1_findReach 62 = .ok (.invokevirtual 105, 3) := by decide +kernel
theorem dX1_findReach_65 : decode cX1_findReach 65 = .ok (.aload_n 0, 1) := by decide +kernel
theorem dX1_findReach_66 : decode cX1_findReach 66 = .ok (.getfield 12, 3) := by decide +kernel
theorem dX1_findReach_69 : decode cX1_findReach 69 = .ok (.aload_n 0, 1) := by decide +kernel
theorem dX1_findReach_70 : decode cX1_findReach 70 = .ok (.getfield 21, 3) := by decide +kernel
theorem dX1_findReach_73 : decode cX1_findReach 73 = .ok (.iload_n 1, 1) := by decide +kernel
theorem dX1_findReach_74 : decode cX1_findReach 74 = .ok (.iload 6, 2) := by decide +kernel
theorem dX1_findReach_76 : decode cX1_findReach 76 = .ok (.iconst (-1), 1) := by decide +kernel
theorem dX1_findReach_77 : decode cX1_findReach 77 = .ok (.invokevirtual 72, 3) := by decide +kernel
theorem dX1_findReach_80 : decode cX1_findReach 80 = .ok (.pop, 1) := by decide +kernel
theorem dX1_findReach_81 : decode cX1_findReach 81 = .ok (.aload_n 0, 1) := by decide +kernel
theorem dX1_findReach_82 : decode cX1_findReach 82 = .ok (.getfield 21, 3) := by decide +kernel
theorem dX1_findReach_85 : decode cX1_findReach 85 = .ok (.getfield 76, 3) := by decide +kernel
theorem dX1_findReach_88 : decode cX1_findReach 88 = .ok (.iload_n 2, 1) := by decide +kernel
theorem dX1_findReach_89 : decode cX1_findReach 89 = .ok (.invokestatic 109, 3) := by decide +kernel
theorem dX1_findReach_92 : decode cX1_findReach 92 = .ok (.ifCond .eq 6, 3) := by decide +kernel
theorem dX1_findReach_95 : decode cX1_findReach 95 = .ok (.iload 6, 2) := by decide +kernel
theorem dX1_findReach_97 : decode cX1_findReach 97 = .ok (.ireturn, 1) := by decide +kernel
theorem dX1_findReach_98 : decode cX1_findReach 98 = .ok (.iinc 6 1, 3) := by decide +kernel
theorem dX1_findReach_101 : decode cX1_findReach 101 = .ok (.goto (-65), 3) := by decide +kernel
theorem dX1_findReach_104 : decode cX1_findReach 104 = .ok (.bipush (-5), 2) := by decide +kernel
theorem dX1_findReach_106 : decode cX1_findReach 106 = .ok (.ireturn, 1) := by decide +kernel
theorem dX1_findBegan_0 : decode cX1_findBegan 0 = .ok (.aload_n 0, 1) := by decide +kernel
theorem dX1_findBegan_1 : decode cX1_findBegan 1 = .ok (.iconst 0, 1) := by decide +kernel
theorem dX1_findBegan_2 : decode cX1_findBegan 2 = .ok (.putfield 41, 3) := by decide +kernel
theorem dX1_findBegan_5 : decode cX1_findBegan 5 = .ok (.aload_n 0, 1) := by decide +kernel
theorem dX1_findBegan_6 : decode cX1_findBegan 6 = .ok (.bipush (-5), 2) := by decide +kernel
theorem dX1_findBegan_8 : decode cX1_findBegan 8 = .ok (.putfield 44, 3) := by decide +kernel
theorem dX1_findBegan_11 : decode cX1_findBegan 11 = .ok (.iconst 0, 1) := by decide +kernel
theorem dX1_findBegan_12 : decode cX1_findBegan 12 = .ok (.istore_n 1, 1) := by decide +kernel
theorem dX1_findBegan_13 : decode cX1_findBegan 13 = .ok (.iload_n 1, 1) := by decide +kernel
theorem dX1_findBegan_14 : decode cX1_findBegan 14 = .ok (.aload_n 0, 1) := by decide +kernel
theorem dX1_findBegan_15 : decode cX1_findBegan 15 = .ok (.getfield 12, 3) := by decide +kernel
theorem dX1_findBegan_18 : decode cX1_findBegan 18 = .ok (.getfield 47, 3) := by decide +kernel
theorem dX1_findBegan_21 : decode cX1_findBegan 21 = .ok (.getfield 51, 3) := by decide +kernel
theorem dX1_findBegan_24 : decode cX1_findBegan 24 = .ok (.getfield 57, 3) := by decide +kernel
theorem dX1_findBegan_27 : decode cX1_findBegan 27 = .ok (.if_icmp .ge 66, 3) := by decide +kernel
theorem dX1_findBegan_30 : decode cX1_findBegan 30 = .ok (.iconst 0, 1) := by decide +kernel
theorem dX1_findBegan_31 : decode cX1_findBegan 31 = .ok (.istore_n 2, 1) := by decide +kernel
theorem dX1_findBegan_32 : decode cX1_findBegan 32 = .ok (.iload_n 2, 1) := by decide +kernel
theorem dX1_findBegan_33 : decode cX1_findBegan 33 = .ok (.bipush 6, 2) := by decide +kernel
theorem dX1_findBegan_35 : decode cX1_findBegan 35 = .ok (.if_icmp .gt 52, 3) := by decide +kernel
theorem dX1_findBegan_38 : decode cX1_findBegan 38 = .ok (.aload_n 0, 1) := by decide +kernel
theorem dX1_findBegan_39 : decode cX1_findBegan 39 = .ok (.iload_n 1, 1) := by decide +kernel
theorem dX1_findBegan_40 : decode cX1_findBegan 40 = .ok (.iload_n 2, 1) := by decide +kernel
theorem dX1_findBegan_41 : decode cX1_findBegan 41 = .ok (.invokevirtual 113, 3) := by decide +kernel
theorem dX1_findBegan_44 : decode cX1_findBegan 44 = .ok (.ifCond .eq 37, 3) := by decide +kernel
theorem dX1_findBegan_47 : decode cX1_findBegan 47 = .ok (.aload_n 0, 1) := by decide +kernel
theorem dX1_findBegan_48 : decode cX1_findBegan 48 = .ok (.aload_n 0, 1) := by decide +kernel
theorem dX1_findBegan_49 : decode cX1_findBegan 49 = .ok (.getfield 41, 3) := by decide +kernel
theorem dX1_findBegan_52 : decode cX1_findBegan 52 = .ok (.ifCond .ne 12, 3) := by decide +kernel
theorem dX1_findBegan_55 : decode cX1_findBegan 55 = .ok (.bipush 10, 2) := by decide +kernel
theorem dX1_findBegan_57 : decode cX1_findBegan 57 = .ok (.iload_n 1, 1) := by decide +kernel
theorem dX1_findBegan_58 : decode cX1_findBegan 58 = .ok (.imul, 1) := by decide +kernel
theorem dX1_findBegan_59 : decode cX1_findBegan 59 = .ok (.iload_n 2, 1) := by decide +kernel
theorem dX1_findBegan_60 : decode cX1_findBegan 60 = .ok (.iadd, 1) := by decide +kernel
theorem dX1_findBegan_61 : decode cX1_findBegan 61 = .ok (.goto 7, 3) := by decide +kernel
theorem dX1_findBegan_64 : decode cX1_findBegan 64 = .ok (.aload_n 0, 1) := by decide +kernel
theorem dX1_findBegan_65 : decode cX1_findBegan 65 = .ok (.getfield 44, 3) := by decide +kernel
theorem dX1_findBegan_68 : decode cX1_findBegan 68 = .ok (.putfield 44, 3) := by decide +kernel
theorem dX1_findBegan_71 : decode cX1_findBegan 71 = .ok (.aload_n 0, 1) := by decide +kernel
theorem dX1_findBegan_72 : decode cX1_findBegan 72 = .ok (.dup, 1) := by decide +kernel
theorem dX1_findBegan_73 : decode cX1_findBegan 73 = .ok (.getfield 41, 3) := by decide +kernel
theorem dX1_findBegan_76 : decode cX1_findBegan 76 = .ok (.iconst 1, 1) := by decide +kernel
theorem dX1_findBegan_77 : decode cX1_findBegan 77 = .ok (.iadd, 1) := by decide +kernel
theorem dX1_findBegan_78 : decode cX1_findBegan 78 = .ok (.putfield 41, 3) := by decide +kernel
theorem dX1_findBegan_81 : decode cX1_findBegan 81 = .ok (.iinc 2 1, 3) := by decide +kernel
theorem dX1_findBegan_84 : decode cX1_findBegan 84 = .ok (.goto (-52), 3) := by decide +kernel
theorem dX1_findBegan_87 : decode cX1_findBegan 87 = .ok (.iinc 1 1, 3) := by decide +kernel
theorem dX1_findBegan_90 : decode cX1_findBegan 90 = .ok (.goto (-77), 3) := by decide +kernel
theorem dX1_findBegan_93 : decode cX1_findBegan 93 = .ok (.return_, 1) := by decide +kernel
theorem dX1_isAsSeen_0 : decode cX1_isAsSeen 0 = .ok (.aload_n 0, 1) := by decide +kernel
theorem dX1_isAsSeen_1 : decode cX1_isAsSeen 1 = .ok (.getfield 21, 3) := by decide +kernel
theorem dX1_isAsSeen_4 : decode cX1_isAsSeen 4 = .ok (.iload_n 1, 1) := by decide +kernel
theorem dX1_isAsSeen_5 : decode cX1_isAsSeen 5 = .ok (.iload_n 2, 1) := by decide +kernel
theorem dX1_isAsSeen_6 : decode cX1_isAsSeen 6 = .ok (.aload_n 0, 1) := by decide +kernel
theorem dX1_isAsSeen_7 : decode cX1_isAsSeen 7 = .ok (.getfield 12, 3) := by decide +kernel
theorem dX1_isAsSeen_10 : decode cX1_isAsSeen 10 = .ok (.getfield 47, 3) := by decide +kernel
theorem dX1_isAsSeen_13 : decode cX1_isAsSeen 13 = .ok (.getfield 62, 3) := by decide +kernel
theorem dX1_isAsSeen_16 : decode cX1_isAsSeen 16 = .ok (.getfield 65, 3) := by decide +kernel
theorem dX1_isAsSeen_19 : decode cX1_isAsSeen 19 = .ok (.invokevirtual 68, 3) := by decide +kernel
theorem dX1_isAsSeen_22 : decode cX1_isAsSeen 22 = .ok (.aload_n 0, 1) := by decide +kernel
theorem dX1_isAsSeen_23 : decode cX1_isAsSeen 23 = .ok (.getfield 12, 3) := by decide +kernel
theorem dX1_isAsSeen_26 : decode cX1_isAsSeen 26 = .ok (.getfield 47, 3) := by decide +kernel
theorem dX1_isAsSeen_29 : decode cX1_isAsSeen 29 = .ok (.getfield 116, 3) := by decide +kernel
theorem dX1_isAsSeen_32 : decode cX1_isAsSeen 32 = .ok (.astore_n 3, 1) := by decide +kernel
theorem dX1_isAsSeen_33 : decode cX1_isAsSeen 33 = .ok (.iconst 0, 1) := by decide +kernel
theorem dX1_isAsSeen_34 : decode cX1_isAsSeen 34 = .ok (.istore 4, 2) := by decide +kernel
theorem dX1_isAsSeen_36 : decode cX1_isAsSeen 36 = .ok (.iload 4, 2) := by decide +kernel
theorem dX1_isAsSeen_38 : decode cX1_isAsSeen 38 = .ok (.bipush 6, 2) := by decide +kernel
theorem dX1_isAsSeen_40 : decode cX1_isAsSeen 40 = .ok (.if_icmp .gt 73, 3) := by decide +kernel
theorem dX1_isAsSeen_43 : decode cX1_isAsSeen 43 = .ok (.iconst 0, 1) := by decide +kernel
theorem dX1_isAsSeen_44 : decode cX1_isAsSeen 44 = .ok (.istore 5, 2) := by decide +kernel
theorem dX1_isAsSeen_46 : decode cX1_isAsSeen 46 = .ok (.iload 5, 2) := by decide +kernel
theorem dX1_isAsSeen_48 : decode cX1_isAsSeen 48 = .ok (.aload_n 3, 1) := by decide +kernel
theorem dX1_isAsSeen_49 : decode cX1_isAsSeen 49 = .ok (.getfield 120, 3) := by decide +kernel
theorem dX1_isAsSeen_52 : decode cX1_isAsSeen 52 = .ok (.if_icmp .ge 40, 3) := by decide +kernel
theorem dX1_isAsSeen_55 : decode cX1_isAsSeen 55 = .ok (.aload_n 3, 1) := by decide +kernel
theorem dX1_isAsSeen_56 : decode cX1_isAsSeen 56 = .ok (.getfield 123, 3) := by decide +kernel
theorem dX1_isAsSeen_59 : decode cX1_isAsSeen 59 = .ok (.iload 5, 2) := by decide +kernel
theorem dX1_isAsSeen_61 : decode cX1_isAsSeen 61 = .ok (.iaload, 1) := by decide +kernel
theorem dX1_isAsSeen_62 : decode cX1_isAsSeen 62 = .ok (.iload 4, 2) := by decide +kernel
theorem dX1_isAsSeen_64 : decode cX1_isAsSeen 64 = .ok (.if_icmp .ne 22, 3) := by decide +kernel
theorem dX1_isAsSeen_67 : decode cX1_isAsSeen 67 = .ok (.aload_n 3, 1) := by decide +kernel
theorem dX1_isAsSeen_68 : decode cX1_isAsSeen 68 = .ok (.getfield 127, 3) := by decide +kernel
theorem dX1_isAsSeen_71 : decode cX1_isAsSeen 71 = .ok (.iload 5, 2) := by decide +kernel
theorem dX1_isAsSeen_73 : decode cX1_isAsSeen 73 = .ok (.iaload, 1) := by decide +kernel
theorem dX1_isAsSeen_74 : decode cX1_isAsSeen 74 = .ok (.aload_n 0, 1) := by decide +kernel
theorem dX1_isAsSeen_75 : decode cX1_isAsSeen 75 = .ok (.getfield 21, 3) := by decide +kernel
theorem dX1_isAsSeen_78 : decode cX1_isAsSeen 78 = .ok (.getfield 76, 3) := by decide +kernel
theorem dX1_isAsSeen_81 : decode cX1_isAsSeen 81 = .ok (.if_icmp .eq 5, 3) := by decide +kernel
theorem dX1_isAsSeen_84 : decode cX1_isAsSeen 84 = .ok (.iconst 0, 1) := by decide +kernel
theorem dX1_isAsSeen_85 : decode cX1_isAsSeen 85 = .ok (.ireturn, 1) := by decide +kernel
theorem dX1_isAsSeen_86 : decode cX1_isAsSeen 86 = .ok (.iinc 5 1, 3) := by decide +kernel
theorem dX1_isAsSeen_89 : decode cX1_isAsSeen 89 = .ok (.goto (-43), 3) := by decide +kernel
theorem dX1_isAsSeen_92 : decode cX1_isAsSeen 92 = .ok (.aload_n 0, 1) := by decide +kernel
theorem dX1_isAsSeen_93 : decode cX1_isAsSeen 93 = .ok (.getfield 12, 3) := by decide +kernel
theorem dX1_isAsSeen_96 : decode cX1_isAsSeen 96 = .ok (.aload_n 0, 1) := by decide +kernel
theorem dX1_isAsSeen_97 : decode cX1_isAsSeen 97 = .ok (.getfield 21, 3) := by decide +kernel
theorem dX1_isAsSeen_100 : decode cX1_isAsSeen 100 = .ok (.iconst (-1), 1) := by decide +kernel
theorem dX1_isAsSeen_101 : decode cX1_isAsSeen 101 = .ok (.iconst 0, 1) := by decide +kernel
theorem dX1_isAsSeen_102 : decode cX1_isAsSeen 102 = .ok (.iconst (-1), 1) := by decide +kernel
theorem dX1_isAsSeen_103 : decode cX1_isAsSeen 103 = .ok (.invokevirtual 130, 3) := by decide +kernel
theorem dX1_isAsSeen_106 : decode cX1_isAsSeen 106 = .ok (.pop, 1) := by decide +kernel
theorem dX1_isAsSeen_107 : decode cX1_isAsSeen 107 = .ok (.iinc 4 1, 3) := by decide +kernel
theorem dX1_isAsSeen_110 : decode cX1_isAsSeen 110 = .ok (.goto (-74), 3) := by decide +kernel
theorem dX1_isAsSeen_113 : decode cX1_isAsSeen 113 = .ok (.iconst 1, 1) := by decide +kernel
theorem dX1_isAsSeen_114 : decode cX1_isAsSeen 114 = .ok (.ireturn, 1) := by decide +kernel
theorem dX1_waysToHear_0 : decode cX1_waysToHear 0 = .ok (.iconst 0, 1) := by decide +kernel
theorem dX1_waysToHear_1 : decode cX1_waysToHear 1 = .ok (.istore_n 3, 1) := by decide +kernel
theorem dX1_waysToHear_2 : decode cX1_waysToHear 2 = .ok (.iconst 0, 1) := by decide +kernel
theorem dX1_waysToHear_3 : decode cX1_waysToHear 3 = .ok (.istore 4, 2) := by decide +kernel
theorem dX1_waysToHear_5 : decode cX1_waysToHear 5 = .ok (.iload 4, 2) := by decide +kernel
theorem dX1_waysToHear_7 : decode cX1_waysToHear 7 = .ok (.aload_n 0, 1) := by decide +kernel
theorem dX1_waysToHear_8 : decode cX1_waysToHear 8 = .ok (.getfield 12, 3) := by decide +kernel
theorem dX1_waysToHear_11 : decode cX1_waysToHear 11 = .ok (.getfield 47, 3) := by decide +kernel
theorem dX1_waysToHear_14 : decode cX1_waysToHear 14 = .ok (.getfield 51, 3) := by decide +kernel
theorem dX1_waysToHear_17 : decode cX1_waysToHear 17 = .ok (.getfield 57, 3) := by decide +kernel
theorem dX1_waysToHear_20 : decode cX1_waysToHear 20 = .ok (.if_icmp .ge 75, 3) := by decide +kernel
theorem dX1_waysToHear_23 : decode cX1_waysToHear 23 = .ok (.iload 4, 2) := by decide +kernel
theorem dX1_waysToHear_25 : decode cX1_waysToHear 25 = .ok (.iload_n 1, 1) := by decide +kernel
theorem dX1_waysToHear_26 : decode cX1_waysToHear 26 = .ok (.if_icmp .eq 63, 3) := by decide +kernel
theorem dX1_waysToHear_29 : decode cX1_waysToHear 29 = .ok (.aload_n 0, 1) := by decide +kernel
theorem dX1_waysToHear_30 : decode cX1_waysToHear 30 = .ok (.getfield 21, 3) := by decide +kernel
theorem dX1_waysToHear_33 : decode cX1_waysToHear 33 = .ok (.iload 4, 2) := by decide +kernel
theorem dX1_waysToHear_35 : decode cX1_waysToHear 35 = .ok (.iload_n 2, 1) := by decide +kernel
theorem dX1_waysToHear_36 : decode cX1_waysToHear 36 = .ok (.aload_n 0, 1) := by decide +kernel
theorem dX1_waysToHear_37 : decode cX1_waysToHear 37 = .ok (.getfield 12, 3) := by decide +kernel
theorem dX1_waysToHear_40 : decode cX1_waysToHear 40 = .ok (.getfield 47, 3) := by decide +kernel
theorem dX1_waysToHear_43 : decode cX1_waysToHear 43 = .ok (.getfield 62, 3) := by decide +kernel
theorem dX1_waysToHear_46 : decode cX1_waysToHear 46 = .ok (.getfield 65, 3) := by decide +kernel
theorem dX1_waysToHear_49 : decode cX1_waysToHear 49 = .ok (.invokevirtual 68, 3) := by decide +kernel
theorem dX1_waysToHear_52 : decode cX1_waysToHear 52 = .ok (.aload_n 0, 1) := by decide +kernel
theorem dX1_waysToHear_53 : decode cX1_waysToHear 53 = .ok (.getfield 12, 3) := by decide +kernel
theorem dX1_waysToHear_56 : decode cX1_waysToHear 56 = .ok (.aload_n 0, 1) := by decide +kernel
theorem dX1_waysToHear_57 : decode cX1_waysToHear 57 = .ok (.getfield 21, 3) := by decide +kernel
theorem dX1_waysToHear_60 : decode cX1_waysToHear 60 = .ok (.iconst (-1), 1) := by decide +kernel
theorem dX1_waysToHear_61 : decode cX1_waysToHear 61 = .ok (.iconst 0, 1) := by decide +kernel
theorem dX1_waysToHear_62 : decode cX1_waysToHear 62 = .ok (.iconst (-1), 1) := by decide +kernel
theorem dX1_waysToHear_63 : decode cX1_waysToHear 63 = .ok (.invokevirtual 72, 3) := by decide +kernel
theorem dX1_waysToHear_66 : decode cX1_waysToHear 66 = .ok (.pop, 1) := by decide +kernel
theorem dX1_waysToHear_67 : decode cX1_waysToHear 67 = .ok (.iload_n 3, 1) := by decide +kernel
theorem dX1_waysToHear_68 : decode cX1_waysToHear 68 = .ok (.aload_n 0, 1) := by decide +kernel
theorem dX1_waysToHear_69 : decode cX1_waysToHear 69 = .ok (.getfield 21, 3) := by decide +kernel
theorem dX1_waysToHear_72 : decode cX1_waysToHear 72 = .ok (.getfield 76, 3) := by decide +kernel
theorem dX1_waysToHear_75 : decode cX1_waysToHear 75 = .ok (.iload_n 1, 1) := by decide +kernel
theorem dX1_waysToHear_76 : decode cX1_waysToHear 76 = .ok (.invokestatic 109, 3) := by decide +kernel
theorem dX1_waysToHear_79 : decode cX1_waysToHear 79 = .ok (.ifCond .eq 7, 3) := by decide +kernel
theorem dX1_waysToHear_82 : decode cX1_waysToHear 82 = .ok (.iconst 1, 1) := by decide +kernel
theorem dX1_waysToHear_83 : decode cX1_waysToHear 83 = .ok (.goto 4, 3) := by decide +kernel
theorem dX1_waysToHear_86 : decode cX1_waysToHear 86 = .ok (.iconst 0, 1) := by decide +kernel
theorem dX1_waysToHear_87 : decode cX1_waysToHear 87 = .ok (.iadd, 1) := by decide +kernel
theorem dX1_waysToHear_88 : decode cX1_waysToHear 88 = .ok (.istore_n 3, 1) := by decide +kernel
theorem dX1_waysToHear_89 : decode cX1_waysToHear 89 = .ok (.iinc 4 1, 3) := by decide +kernel
theorem dX1_waysToHear_92 : decode cX1_waysToHear 92 = .ok (.goto (-87), 3) := by decide +kernel
theorem dX1_waysToHear_95 : decode cX1_waysToHear 95 = .ok (.iload_n 3, 1) := by decide +kernel
theorem dX1_waysToHear_96 : decode cX1_waysToHear 96 = .ok (.ireturn, 1) := by decide +kernel
theorem dX1_finesOfAll_0 : decode cX1_finesOfAll 0 = .ok (.lconst 0, 1) := by decide +kernel
theorem dX1_finesOfAll_1 : decode cX1_finesOfAll 1 = .ok (.lstore_n 2, 1) := by decide +kernel
theorem dX1_finesOfAll_2 : decode cX1_finesOfAll 2 = .ok (.iconst 0, 1) := by decide +kernel
theorem dX1_finesOfAll_3 : decode cX1_finesOfAll 3 = .ok (.istore 4, 2) := by decide +kernel
theorem dX1_finesOfAll_5 : decode cX1_finesOfAll 5 = .ok (.iload 4, 2) := by decide +kernel
theorem dX1_finesOfAll_7 : decode cX1_finesOfAll 7 = .ok (.aload_n 0, 1) := by decide +kernel
theorem dX1_finesOfAll_8 : decode cX1_finesOfAll 8 = .ok (.getfield 12, 3) := by decide +kernel
theorem dX1_finesOfAll_11 : decode cX1_finesOfAll 11 = .ok (.getfield 47, 3) := by decide +kernel
theorem dX1_finesOfAll_14 : decode cX1_finesOfAll 14 = .ok (.getfield 51, 3) := by decide +kernel
theorem dX1_finesOfAll_17 : decode cX1_finesOfAll 17 = .ok (.getfield 57, 3) := by decide +kernel
theorem dX1_finesOfAll_20 : decode cX1_finesOfAll 20 = .ok (.if_icmp .ge 58, 3) := by decide +kernel
theorem dX1_finesOfAll_23 : decode cX1_finesOfAll 23 = .ok (.aload_n 0, 1) := by decide +kernel
theorem dX1_finesOfAll_24 : decode cX1_finesOfAll 24 = .ok (.getfield 21, 3) := by decide +kernel
theorem dX1_finesOfAll_27 : decode cX1_finesOfAll 27 = .ok (.iload 4, 2) := by decide +kernel
theorem dX1_finesOfAll_29 : decode cX1_finesOfAll 29 = .ok (.iload_n 1, 1) := by decide +kernel
theorem dX1_finesOfAll_30 : decode cX1_finesOfAll 30 = .ok (.aload_n 0, 1) := by decide +kernel
theorem dX1_finesOfAll_31 : decode cX1_finesOfAll 31 = .ok (.getfield 12, 3) := by decide +kernel
theorem dX1_finesOfAll_34 : decode cX1_finesOfAll 34 = .ok (.getfield 47, 3) := by decide +kernel
theorem dX1_finesOfAll_37 : decode cX1_finesOfAll 37 = .ok (.getfield 62, 3) := by decide +kernel
theorem dX1_finesOfAll_40 : decode cX1_finesOfAll 40 = .ok (.getfield 65, 3) := by decide +kernel
theorem dX1_finesOfAll_43 : decode cX1_finesOfAll 43 = .ok (.invokevirtual 68, 3) := by decide +kernel
theorem dX1_finesOfAll_46 : decode cX1_finesOfAll 46 = .ok (.aload_n 0, 1) := by decide +kernel
theorem dX1_finesOfAll_47 : decode cX1_finesOfAll 47 = .ok (.getfield 12, 3) := by decide +kernel
theorem dX1_finesOfAll_50 : decode cX1_finesOfAll 50 = .ok (.aload_n 0, 1) := by decide +kernel
theorem dX1_finesOfAll_51 : decode cX1_finesOfAll 51 = .ok (.getfield 21, 3) := by decide +kernel
theorem dX1_finesOfAll_54 : decode cX1_finesOfAll 54 = .ok (.iconst (-1), 1) := by decide +kernel
theorem dX1_finesOfAll_55 : decode cX1_finesOfAll 55 = .ok (.iconst 0, 1) := by decide +kernel
theorem dX1_finesOfAll_56 : decode cX1_finesOfAll 56 = .ok (.iconst (-1), 1) := by decide +kernel
theorem dX1_finesOfAll_57 : decode cX1_finesOfAll 57 = .ok (.invokevirtual 72, 3) := by decide +kernel
theorem dX1_finesOfAll_60 : decode cX1_finesOfAll 60 = .ok (.pop, 1) := by decide +kernel
theorem dX1_finesOfAll_61 : decode cX1_finesOfAll 61 = .ok (.lload_n 2, 1) := by decide +kernel
theorem dX1_finesOfAll_62 : decode cX1_finesOfAll 62 = .ok (.aload_n 0, 1) := by decide +kernel
theorem dX1_finesOfAll_63 : decode cX1_finesOfAll 63 = .ok (.getfield 21, 3) := by decide +kernel
theorem dX1_finesOfAll_66 : decode cX1_finesOfAll 66 = .ok (.getfield 85, 3) := by decide +kernel
theorem dX1_finesOfAll_69 : decode cX1_finesOfAll 69 = .ok (.i2l, 1) := by decide +kernel
theorem dX1_finesOfAll_70 : decode cX1_finesOfAll 70 = .ok (.ladd, 1) := by decide +kernel
theorem dX1_finesOfAll_71 : decode cX1_finesOfAll 71 = .ok (.lstore_n 2, 1) := by decide +kernel
theorem dX1_finesOfAll_72 : decode cX1_finesOfAll 72 = .ok (.iinc 4 1, 3) := by decide +kernel
theorem dX1_finesOfAll_75 : decode cX1_finesOfAll 75 = .ok (.goto (-70), 3) := by decide +kernel
theorem dX1_finesOfAll_78 : decode cX1_finesOfAll 78 = .ok (.lload_n 2, 1) := by decide +kernel
theorem dX1_finesOfAll_79 : decode cX1_finesOfAll 79 = .ok (.lreturn, 1) := by decide +kernel
theorem dX2_init_0 : decode cX2_init 0 = .ok (.aload_n 0, 1) := by decide +kernel
theorem dX2_init_1 : decode cX2_init 1 = .ok (.invokespecial 3, 3) := by decide +kernel
theorem dX2_init_4 : decode cX2_init 4 = .ok (.aload_n 0, 1) := by decide +kernel
theorem dX2_init_5 : decode cX2_init 5 = .ok (.iconst 0, 1) := by decide +kernel
theorem dX2_init_6 : decode cX2_init 6 = .ok (.putfield 9, 3) := by decide +kernel
theorem dX2_init_9 : decode cX2_init 9 = .ok (.aload_n 0, 1) := by decide +kernel
theorem dX2_init_10 : decode cX2_init 10 = .ok (.bipush 7, 2) := by decide +kernel
theorem dX2_init_12 : decode cX2_init 12 = .ok (.newarray .int, 2) := by decide +kernel
theorem dX2_init_14 : decode cX2_init 14 = .ok (.putfield 15, 3) := by decide +kernel
theorem dX2_init_17 : decode cX2_init 17 = .ok (.aload_n 0, 1) := by decide +kernel
theorem dX2_init_18 : decode cX2_init 18 = .ok (.bipush 7, 2) := by decide +kernel
theorem dX2_init_20 : decode cX2_init 20 = .ok (.newarray .int, 2) := by decide +kernel
theorem dX2_init_22 : decode cX2_init 22 = .ok (.putfield 19, 3) := by decide +kernel
theorem dX2_init_25 : decode cX2_init 25 = .ok (.aload_n 0, 1) := by decide +kernel
theorem dX2_init_26 : decode cX2_init 26 = .ok (.bipush 7, 2) := by decide +kernel
theorem dX2_init_28 : decode cX2_init 28 = .ok (.newarray .int, 2) := by decide +kernel
theorem dX2_init_30 : decode cX2_init 30 = .ok (.putfield 22, 3) := by decide +kernel
theorem dX2_init_33 : decode cX2_init 33 = .ok (.aload_n 0, 1) := by decide +kernel
theorem dX2_init_34 : decode cX2_init 34 = .ok (.bipush 7, 2) := by decide +kernel
theorem dX2_init_36 : decode cX2_init 36 = .ok (.newarray .int, 2) := by decide +kernel
theorem dX2_init_38 : decode cX2_init 38 = .ok (.putfield 25, 3) := by decide +kernel
theorem dX2_init_41 : decode cX2_init 41 = .ok (.aload_n 0, 1) := by decide +kernel
theorem dX2_init_42 : decode cX2_init 42 = .ok (.bipush 49, 2) := by decide +kernel
theorem dX2_init_44 : decode cX2_init 44 = .ok (.newarray .int, 2) := by decide +kernel
theorem dX2_init_46 : decode cX2_init 46 = .ok (.putfield 28, 3) := by decide +kernel
theorem dX2_init_49 : decode cX2_init 49 = .ok (.return_, 1) := by decide +kernel
theorem dX2_has_0 : decode cX2_has 0 = .ok (.iload_n 1, 1) := by decide +kernel
theorem dX2_has_1 : decode cX2_has 1 = .ok (.aload_n 0, 1) := by decide +kernel
theorem dX2_has_2 : decode cX2_has 2 = .ok (.getfield 9, 3) := by decide +kernel
theorem dX2_has_5 : decode cX2_has 5 = .ok (.invokestatic 31, 3) := by decide +kernel
theorem dX2_has_8 : decode cX2_has 8 = .ok (.ireturn, 1) := by decide +kernel
theorem dX2_all_0 : decode cX2_all 0 = .ok (.iconst 1, 1) := by decide +kernel
theorem dX2_all_1 : decode cX2_all 1 = .ok (.aload_n 0, 1) := by decide +kernel
theorem dX2_all_2 : decode cX2_all 2 = .ok (.getfield 9, 3) := by decide +kernel
theorem dX2_all_5 : decode cX2_all 5 = .ok (.ishl, 1) := by decide +kernel
theorem dX2_all_6 : decode cX2_all 6 = .ok (.iconst 1, 1) := by decide +kernel
theorem dX2_all_7 : decode cX2_all 7 = .ok (.isub, 1) := by decide +kernel
theorem dX2_all_8 : decode cX2_all 8 = .ok (.ireturn, 1) := by decide +kernel
theorem dX2_add_0 : decode cX2_add 0 = .ok (.aload_n 0, 1) := by decide +kernel
theorem dX2_add_1 : decode cX2_add 1 = .ok (.getfield 9, 3) := by decide +kernel
theorem dX2_add_4 : decode cX2_add 4 = .ok (.bipush 7, 2) := by decide +kernel
theorem dX2_add_6 : decode cX2_add 6 = .ok (.if_icmp .lt 5, 3) := by decide +kernel
theorem dX2_add_9 : decode cX2_add 9 = .ok (.iconst 0, 1) := by decide +kernel
theorem dX2_add_10 : decode cX2_add 10 = .ok (.ireturn, 1) := by decide +kernel
theorem dX2_add_11 : decode cX2_add 11 = .ok (.aload_n 0, 1) := by decide +kernel
theorem dX2_add_12 : decode cX2_add 12 = .ok (.getfield 15, 3) := by decide +kernel
theorem dX2_add_15 : decode cX2_add 15 = .ok (.aload_n 0, 1) := by decide +kernel
theorem dX2_add_16 : decode cX2_add 16 = .ok (.getfield 9, 3) := by decide +kernel
theorem dX2_add_19 : decode cX2_add 19 = .ok (.iload_n 1, 1) := by decide +kernel
theorem dX2_add_20 : decode cX2_add 20 = .ok (.iastore, 1) := by decide +kernel
theorem dX2_add_21 : decode cX2_add 21 = .ok (.aload_n 0, 1) := by decide +kernel
theorem dX2_add_22 : decode cX2_add 22 = .ok (.getfield 19, 3) := by decide +kernel
theorem dX2_add_25 : decode cX2_add 25 = .ok (.aload_n 0, 1) := by decide +kernel
theorem dX2_add_26 : decode cX2_add 26 = .ok (.getfield 9, 3) := by decide +kernel
theorem dX2_add_29 : decode cX2_add 29 = .ok (.iload_n 2, 1) := by decide +kernel
theorem dX2_add_30 : decode cX2_add 30 = .ok (.iastore, 1) := by decide +kernel
theorem dX2_add_31 : decode cX2_add 31 = .ok (.aload_n 0, 1) := by decide +kernel
theorem dX2_add_32 : decode cX2_add 32 = .ok (.getfield 22, 3) := by decide +kernel
theorem dX2_add_35 : decode cX2_add 35 = .ok (.aload_n 0, 1) := by decide +kernel
theorem dX2_add_36 : decode cX2_add 36 = .ok (.getfield 9, 3) := by decide +kernel
theorem dX2_add_39 : decode cX2_add 39 = .ok (.iconst 0, 1) := by decide +kernel
theorem dX2_add_40 : decode cX2_add 40 = .ok (.iastore, 1) := by decide +kernel
theorem dX2_add_41 : decode cX2_add 41 = .ok (.aload_n 0, 1) := by decide +kernel
theorem dX2_add_42 : decode cX2_add 42 = .ok (.getfield 25, 3) := by decide +kernel
theorem dX2_add_45 : decode cX2_add 45 = .ok (.aload_n 0, 1) := by decide +kernel
theorem dX2_add_46 : decode cX2_add 46 = .ok (.getfield 9, 3) := by decide +kernel
theorem dX2_add_49 : decode cX2_add 49 = .ok (.iconst 0, 1) := by decide +kernel
theorem dX2_add_50 : decode cX2_add 50 = .ok (.iastore, 1) := by decide +kernel
theorem dX2_add_51 : decode cX2_add 51 = .ok (.aload_n 0, 1) := by decide +kernel
theorem dX2_add_52 : decode cX2_add 52 = .ok (.dup, 1) := by decide +kernel
theorem dX2_add_53 : decode cX2_add 53 = .ok (.getfield 9, 3) := by decide +kernel
theorem dX2_add_56 : decode cX2_add 56 = .ok (.iconst 1, 1) := by decide +kernel
theorem dX2_add_57 : decode cX2_add 57 = .ok (.iadd, 1) := by decide +kernel
theorem dX2_add_58 : decode cX2_add 58 = .ok (.putfield 9, 3) := by decide +kernel
theorem dX2_add_61 : decode cX2_add 61 = .ok (.iconst 1, 1) := by decide +kernel
theorem dX2_add_62 : decode cX2_add 62 = .ok (.ireturn, 1) := by decide +kernel
theorem dX2_acquaint_0 : decode cX2_acquaint 0 = .ok (.aload_n 0, 1) := by decide +kernel
theorem dX2_acquaint_1 : decode cX2_acquaint 1 = .ok (.getfield 22, 3) := by decide +kernel
theorem dX2_acquaint_4 : decode cX2_acquaint 4 = .ok (.iload_n 1, 1) := by decide +kernel
theorem dX2_acquaint_5 : decode cX2_acquaint 5 = .ok (.iload_n 3, 1) := by decide +kernel
theorem dX2_acquaint_6 : decode cX2_acquaint 6 = .ok (.ifCond .eq 16, 3) := by decide +kernel
theorem dX2_acquaint_9 : decode cX2_acquaint 9 = .ok (.aload_n 0, 1) := by decide +kernel
theorem dX2_acquaint_10 : decode cX2_acquaint 10 = .ok (.getfield 22, 3) := by decide +kernel
theorem dX2_acquaint_13 : decode cX2_acquaint 13 = .ok (.iload_n 1, 1) := by decide +kernel
theorem dX2_acquaint_14 : decode cX2_acquaint 14 = .ok (.iaload, 1) := by decide +kernel
theorem dX2_acquaint_15 : decode cX2_acquaint 15 = .ok (.iconst 1, 1) := by decide +kernel
theorem dX2_acquaint_16 : decode cX2_acquaint 16 = .ok (.iload_n 2, 1) := by decide +kernel
theorem dX2_acquaint_17 : decode cX2_acquaint 17 = .ok (.ishl, 1) := by decide +kernel
theorem dX2_acquaint_18 : decode cX2_acquaint 18 = .ok (.ior, 1) := by decide +kernel
theorem dX2_acquaint_19 : decode cX2_acquaint 19 = .ok (.goto 15, 3) := by decide +kernel
theorem dX2_acquaint_22 : decode cX2_acquaint 22 = .ok (.aload_n 0, 1) := by decide +kernel
theorem dX2_acquaint_23 : decode cX2_acquaint 23 = .ok (.getfield 22, 3) := by decide +kernel
theorem dX2_acquaint_26 : decode cX2_acquaint 26 = .ok (.iload_n 1, 1) := by decide +kernel
theorem dX2_acquaint_27 : decode cX2_acquaint 27 = .ok (.iaload, 1) := by decide +kernel
theorem dX2_acquaint_28 : decode cX2_acquaint 28 = .ok (.iconst 1, 1) := by decide +kernel
theorem dX2_acquaint_29 : decode cX2_acquaint 29 = .ok (.iload_n 2, 1) := by decide +kernel
theorem dX2_acquaint_30 : decode cX2_acquaint 30 = .ok (.ishl, 1) := by decide +kernel
theorem dX2_acquaint_31 : decode cX2_acquaint 31 = .ok (.iconst (-1), 1) := by decide +kernel
theorem dX2_acquaint_32 : decode cX2_acquaint 32 = .ok (.ixor, 1) := by decide +kernel
theorem dX2_acquaint_33 : decode cX2_acquaint 33 = .ok (.iand, 1) := by decide +kernel
theorem dX2_acquaint_34 : decode cX2_acquaint 34 = .ok (.iastore, 1) := by decide +kernel
theorem dX2_acquaint_35 : decode cX2_acquaint 35 = .ok (.aload_n 0, 1) := by decide +kernel
theorem dX2_acquaint_36 : decode cX2_acquaint 36 = .ok (.getfield 22, 3) := by decide +kernel
theorem dX2_acquaint_39 : decode cX2_acquaint 39 = .ok (.iload_n 2, 1) := by decide +kernel
theorem dX2_acquaint_40 : decode cX2_acquaint 40 = .ok (.iload_n 3, 1) := by decide +kernel
theorem dX2_acquaint_41 : decode cX2_acquaint 41 = .ok (.ifCond .eq 16, 3) := by decide +kernel
theorem dX2_acquaint_44 : decode cX2_acquaint 44 = .ok (.aload_n 0, 1) := by decide +kernel
theorem dX2_acquaint_45 : decode cX2_acquaint 45 = .ok (.getfield 22, 3) := by decide +kernel
theorem dX2_acquaint_48 : decode cX2_acquaint 48 = .ok (.iload_n 2, 1) := by decide +kernel
theorem dX2_acquaint_49 : decode cX2_acquaint 49 = .ok (.iaload, 1) := by decide +kernel
theorem dX2_acquaint_50 : decode cX2_acquaint 50 = .ok (.iconst 1, 1) := by decide +kernel
theorem dX2_acquaint_51 : decode cX2_acquaint 51 = .ok (.iload_n 1, 1) := by decide +kernel
theorem dX2_acquaint_52 : decode cX2_acquaint 52 = .ok (.ishl, 1) := by decide +kernel
theorem dX2_acquaint_53 : decode cX2_acquaint 53 = .ok (.ior, 1) := by decide +kernel
theorem dX2_acquaint_54 : decode cX2_acquaint 54 = .ok (.goto 15, 3) := by decide +kernel
theorem dX2_acquaint_57 : decode cX2_acquaint 57 = .ok (.aload_n 0, 1) := by decide +kernel
theorem dX2_acquaint_58 : decode cX2_acquaint 58 = .ok (.getfield 22, 3) := by decide +kernel
theorem dX2_acquaint_61 : decode cX2_acquaint 61 = .ok (.iload_n 2, 1) := by decide +kernel
theorem dX2_acquaint_62 : decode cX2_acquaint 62 = .ok (.iaload, 1) := by decide +kernel
theorem dX2_acquaint_63 : decode cX2_acquaint 63 = .ok (.iconst 1, 1) := by decide +kernel
theorem dX2_acquaint_64 : decode cX2_acquaint 64 = .ok (.iload_n 1, 1) := by decide +kernel
theorem dX2_acquaint_65 : decode cX2_acquaint 65 = .ok (.ishl, 1) := by decide +kernel
theorem dX2_acquaint_66 : decode cX2_acquaint 66 = .ok (.iconst (-1), 1) := by decide +kernel
theorem dX2_acquaint_67 : decode cX2_acquaint 67 = .ok (.ixor, 1) := by decide +kernel
theorem dX2_acquaint_68 : decode cX2_acquaint 68 = .ok (.iand, 1) := by decide +kernel
theorem dX2_acquaint_69 : decode cX2_acquaint 69 = .ok (.iastore, 1) := by decide +kernel
theorem dX2_acquaint_70 : decode cX2_acquaint 70 = .ok (.return_, 1) := by decide +kernel
theorem dX2_addToRow_0 : decode cX2_addToRow 0 = .ok (.aload_n 0, 1) := by decide +kernel
theorem dX2_addToRow_1 : decode cX2_addToRow 1 = .ok (.getfield 25, 3) := by decide +kernel
theorem dX2_addToRow_4 : decode cX2_addToRow 4 = .ok (.iload_n 1, 1) := by decide +kernel
theorem dX2_addToRow_5 : decode cX2_addToRow 5 = .ok (.iaload, 1) := by decide +kernel
theorem dX2_addToRow_6 : decode cX2_addToRow 6 = .ok (.bipush 7, 2) := by decide +kernel
theorem dX2_addToRow_8 : decode cX2_addToRow 8 = .ok (.if_icmp .lt 5, 3) := by decide +kernel
theorem dX2_addToRow_11 : decode cX2_addToRow 11 = .ok (.iconst 0, 1) := by decide +kernel
theorem dX2_addToRow_12 : decode cX2_addToRow 12 = .ok (.ireturn, 1) := by decide +kernel
theorem dX2_addToRow_13 : decode cX2_addToRow 13 = .ok (.aload_n 0, 1) := by decide +kernel
theorem dX2_addToRow_14 : decode cX2_addToRow 14 = .ok (.getfield 28, 3) := by decide +kernel
theorem dX2_addToRow_17 : decode cX2_addToRow 17 = .ok (.iload_n 1, 1) := by decide +kernel
theorem dX2_addToRow_18 : decode cX2_addToRow 18 = .ok (.bipush 7, 2) := by decide +kernel
theorem dX2_addToRow_20 : decode cX2_addToRow 20 = .ok (.imul, 1) := by decide +kernel
theorem dX2_addToRow_21 : decode cX2_addToRow 21 = .ok (.aload_n 0, 1) := by decide +kernel
theorem dX2_addToRow_22 : decode cX2_addToRow 22 = .ok (.getfield 25, 3) := by decide +kernel
theorem dX2_addToRow_25 : decode cX2_addToRow 25 = .ok (.iload_n 1, 1) := by decide +kernel
theorem dX2_addToRow_26 : decode cX2_addToRow 26 = .ok (.iaload, 1) := by decide +kernel
theorem dX2_addToRow_27 : decode cX2_addToRow 27 = .ok (.iadd, 1) := by decide +kernel
theorem dX2_addToRow_28 : decode cX2_addToRow 28 = .ok (.iload_n 2, 1) := by decide +kernel
theorem dX2_addToRow_29 : decode cX2_addToRow 29 = .ok (.iastore, 1) := by decide +kernel
theorem dX2_addToRow_30 : decode cX2_addToRow 30 = .ok (.aload_n 0, 1) := by decide +kernel
theorem dX2_addToRow_31 : decode cX2_addToRow 31 = .ok (.getfield 25, 3) := by decide +kernel
theorem dX2_addToRow_34 : decode cX2_addToRow 34 = .ok (.iload_n 1, 1) := by decide +kernel
theorem dX2_addToRow_35 : decode cX2_addToRow 35 = .ok (.dup2, 1) := by decide +kernel
theorem dX2_addToRow_36 : decode cX2_addToRow 36 = .ok (.iaload, 1) := by decide +kernel
theorem dX2_addToRow_37 : decode cX2_addToRow 37 = .ok (.iconst 1, 1) := by decide +kernel
theorem dX2_addToRow_38 : decode cX2_addToRow 38 = .ok (.iadd, 1) := by decide +kernel
theorem dX2_addToRow_39 : decode cX2_addToRow 39 = .ok (.iastore, 1) := by decide +kernel
theorem dX2_addToRow_40 : decode cX2_addToRow 40 = .ok (.iconst 1, 1) := by decide +kernel
theorem dX2_addToRow_41 : decode cX2_addToRow 41 = .ok (.ireturn, 1) := by decide +kernel
theorem dX2_deafOn_0 : decode cX2_deafOn 0 = .ok (.iconst 0, 1) := by decide +kernel
theorem dX2_deafOn_1 : decode cX2_deafOn 1 = .ok (.istore_n 2, 1) := by decide +kernel
theorem dX2_deafOn_2 : decode cX2_deafOn 2 = .ok (.iconst 0, 1) := by decide +kernel
theorem dX2_deafOn_3 : decode cX2_deafOn 3 = .ok (.istore_n 3, 1) := by decide +kernel
theorem dX2_deafOn_4 : decode cX2_deafOn 4 = .ok (.iload_n 3, 1) := by decide +kernel
theorem dX2_deafOn_5 : decode cX2_deafOn 5 = .ok (.aload_n 0, 1) := by decide +kernel
theorem dX2_deafOn_6 : decode cX2_deafOn 6 = .ok (.getfield 9, 3) := by decide +kernel
theorem dX2_deafOn_9 : decode cX2_deafOn 9 = .ok (.if_icmp .ge 38, 3) := by decide +kernel
theorem dX2_deafOn_12 : decode cX2_deafOn 12 = .ok (.aload_n 0, 1) := by decide +kernel
theorem dX2_deafOn_13 : decode cX2_deafOn 13 = .ok (.getfield 15, 3) := by decide +kernel
theorem dX2_deafOn_16 : decode cX2_deafOn 16 = .ok (.iload_n 3, 1) := by decide +kernel
theorem dX2_deafOn_17 : decode cX2_deafOn 17 = .ok (.iaload, 1) := by decide +kernel
theorem dX2_deafOn_18 : decode cX2_deafOn 18 = .ok (.iconst 5, 1) := by decide +kernel
theorem dX2_deafOn_19 : decode cX2_deafOn 19 = .ok (.if_icmp .ne 22, 3) := by decide +kernel
theorem dX2_deafOn_22 : decode cX2_deafOn 22 = .ok (.iload_n 1, 1) := by decide +kernel
theorem dX2_deafOn_23 : decode cX2_deafOn 23 = .ok (.aload_n 0, 1) := by decide +kernel
theorem dX2_deafOn_24 : decode cX2_deafOn 24 = .ok (.getfield 19, 3) := by decide +kernel
theorem dX2_deafOn_27 : decode cX2_deafOn 27 = .ok (.iload_n 3, 1) := by decide +kernel
theorem dX2_deafOn_28 : decode cX2_deafOn 28 = .ok (.iaload, 1) := by decide +kernel
theorem dX2_deafOn_29 : decode cX2_deafOn 29 = .ok (.iconst 2, 1) := by decide +kernel
theorem dX2_deafOn_30 : decode cX2_deafOn 30 = .ok (.iadd, 1) := by decide +kernel
theorem dX2_deafOn_31 : decode cX2_deafOn 31 = .ok (.irem, 1) := by decide +kernel
theorem dX2_deafOn_32 : decode cX2_deafOn 32 = .ok (.ifCond .ne 9, 3) := by decide +kernel
theorem dX2_deafOn_35 : decode cX2_deafOn 35 = .ok (.iload_n 2, 1) := by decide +kernel
theorem dX2_deafOn_36 : decode cX2_deafOn 36 = .ok (.iconst 1, 1) := by decide +kernel
theorem dX2_deafOn_37 : decode cX2_deafOn 37 = .ok (.iload_n 3, 1) := by decide +kernel
theorem dX2_deafOn_38 : decode cX2_deafOn 38 = .ok (.ishl, 1) := by decide +kernel
theorem dX2_deafOn_39 : decode cX2_deafOn 39 = .ok (.ior, 1) := by decide +kernel
theorem dX2_deafOn_40 : decode cX2_deafOn 40 = .ok (.istore_n 2, 1) := by decide +kernel
theorem dX2_deafOn_41 : decode cX2_deafOn 41 = .ok (.iinc 3 1, 3) := by decide +kernel
theorem dX2_deafOn_44 : decode cX2_deafOn 44 = .ok (.goto (-40), 3) := by decide +kernel
theorem dX2_deafOn_47 : decode cX2_deafOn 47 = .ok (.iload_n 2, 1) := by decide +kernel
theorem dX2_deafOn_48 : decode cX2_deafOn 48 = .ok (.ireturn, 1) := by decide +kernel
theorem dX2_pick_0 : decode cX2_pick 0 = .ok (.iload_n 3, 1) := by decide +kernel
theorem dX2_pick_1 : decode cX2_pick 1 = .ok (.iload_n 2, 1) := by decide +kernel
theorem dX2_pick_2 : decode cX2_pick 2 = .ok (.invokestatic 35, 3) := by decide +kernel
theorem dX2_pick_5 : decode cX2_pick 5 = .ok (.invokestatic 41, 3) := by decide +kernel
theorem dX2_pick_8 : decode cX2_pick 8 = .ok (.istore 4, 2) := by decide +kernel
theorem dX2_pick_10 : decode cX2_pick 10 = .ok (.iconst 0, 1) := by decide +kernel
theorem dX2_pick_11 : decode cX2_pick 11 = .ok (.istore 5, 2) := by decide +kernel
theorem dX2_pick_13 : decode cX2_pick 13 = .ok (.aload_n 0, 1) := by decide +kernel
theorem dX2_pick_14 : decode cX2_pick 14 = .ok (.getfield 15, 3) := by decide +kernel
theorem dX2_pick_17 : decode cX2_pick 17 = .ok (.iload_n 1, 1) := by decide +kernel
theorem dX2_pick_18 : decode cX2_pick 18 = .ok (.iaload, 1) := by decide +kernel
theorem dX2_pick_19 : decode cX2_pick 19 = .ok (.bipush 6, 2) := by decide +kernel
theorem dX2_pick_21 : decode cX2_pick 21 = .ok (.if_icmp .ne 23, 3) := by decide +kernel
theorem dX2_pick_24 : decode cX2_pick 24 = .ok (.aload_n 0, 1) := by decide +kernel
theorem dX2_pick_25 : decode cX2_pick 25 = .ok (.iload_n 1, 1) := by decide +kernel
theorem dX2_pick_26 : decode cX2_pick 26 = .ok (.iload_n 2, 1) := by decide +kernel
theorem dX2_pick_27 : decode cX2_pick 27 = .ok (.iload 4, 2) := by decide +kernel
theorem dX2_pick_29 : decode cX2_pick 29 = .ok (.invokevirtual 47, 3) := by decide +kernel
theorem dX2_pick_32 : decode cX2_pick 32 = .ok (.istore 5, 2) := by decide +kernel
theorem dX2_pick_34 : decode cX2_pick 34 = .ok (.iload 4, 2) := by decide +kernel
theorem dX2_pick_36 : decode cX2_pick 36 = .ok (.iload 5, 2) := by decide +kernel
theorem dX2_pick_38 : decode cX2_pick 38 = .ok (.invokestatic 35, 3) := by decide +kernel
theorem dX2_pick_41 : decode cX2_pick 41 = .ok (.isub, 1) := by decide +kernel
theorem dX2_pick_42 : decode cX2_pick 42 = .ok (.istore 4, 2) := by decide +kernel
theorem dX2_pick_44 : decode cX2_pick 44 = .ok (.iconst 0, 1) := by decide +kernel
theorem dX2_pick_45 : decode cX2_pick 45 = .ok (.istore 6, 2) := by decide +kernel
theorem dX2_pick_47 : decode cX2_pick 47 = .ok (.iload 6, 2) := by decide +kernel
theorem dX2_pick_49 : decode cX2_pick 49 = .ok (.iload 4, 2) := by decide +kernel
theorem dX2_pick_51 : decode cX2_pick 51 = .ok (.if_icmp .ge 30, 3) := by decide +kernel
theorem dX2_pick_54 : decode cX2_pick 54 = .ok (.iload 5, 2) := by decide +kernel
theorem dX2_pick_56 : decode cX2_pick 56 = .ok (.aload_n 0, 1) := by decide +kernel
theorem dX2_pick_57 : decode cX2_pick 57 = .ok (.aload_n 0, 1) := by decide +kernel
theorem dX2_pick_58 : decode cX2_pick 58 = .ok (.getfield 15, 3) := by decide +kernel
theorem dX2_pick_61 : decode cX2_pick 61 = .ok (.iload_n 1, 1) := by decide +kernel
theorem dX2_pick_62 : decode cX2_pick 62 = .ok (.iaload, 1) := by decide +kernel
theorem dX2_pick_63 : decode cX2_pick 63 = .ok (.iload_n 2, 1) := by decide +kernel
theorem dX2_pick_64 : decode cX2_pick 64 = .ok (.iload 5, 2) := by decide +kernel
theorem dX2_pick_66 : decode cX2_pick 66 = .ok (.iconst (-1), 1) := by decide +kernel
theorem dX2_pick_67 : decode cX2_pick 67 = .ok (.ixor, 1) := by decide +kernel
theorem dX2_pick_68 : decode cX2_pick 68 = .ok (.iand, 1) := by decide +kernel
theorem dX2_pick_69 : decode cX2_pick 69 = .ok (.invokevirtual 51, 3) := by decide +kernel
theorem dX2_pick_72 : decode cX2_pick 72 = .ok (.ior, 1) := by decide +kernel
theorem dX2_pick_73 : decode cX2_pick 73 = .ok (.istore 5, 2) := by decide +kernel
theorem dX2_pick_75 : decode cX2_pick 75 = .ok (.iinc 6 1, 3) := by decide +kernel
theorem dX2_pick_78 : decode cX2_pick 78 = .ok (.goto (-31), 3) := by decide +kernel
theorem dX2_pick_81 : decode cX2_pick 81 = .ok (.iload 5, 2) := by decide +kernel
theorem dX2_pick_83 : decode cX2_pick 83 = .ok (.ireturn, 1) := by decide +kernel
theorem dX2_pickFromRow_0 : decode cX2_pickFromRow 0 = .ok (.iconst 0, 1) := by decide +kernel
theorem dX2_pickFromRow_1 : decode cX2_pickFromRow 1 = .ok (.istore 4, 2) := by decide +kernel
theorem dX2_pickFromRow_3 : decode cX2_pickFromRow 3 = .ok (.iconst 0, 1) := by decide +kernel
theorem dX2_pickFromRow_4 : decode cX2_pickFromRow 4 = .ok (.istore 5, 2) := by decide +kernel
theorem dX2_pickFromRow_6 : decode cX2_pickFromRow 6 = .ok (.iload 5, 2) := by decide +kernel
theorem dX2_pickFromRow_8 : decode cX2_pickFromRow 8 = .ok (.aload_n 0, 1) := by decide +kernel
theorem dX2_pickFromRow_9 : decode cX2_pickFromRow 9 = .ok (.getfield 25, 3) := by decide +kernel
theorem dX2_pickFromRow_12 : decode cX2_pickFromRow 12 = .ok (.iload_n 1, 1) := by decide +kernel
theorem dX2_pickFromRow_13 : decode cX2_pickFromRow 13 = .ok (.iaload, 1) := by decide +kernel
theorem dX2_pickFromRow_14 : decode cX2_pickFromRow 14 = .ok (.if_icmp .ge 39, 3) := by decide +kernel
theorem dX2_pickFromRow_17 : decode cX2_pickFromRow 17 = .ok (.iload 4, 2) := by decide +kernel
theorem dX2_pickFromRow_19 : decode cX2_pickFromRow 19 = .ok (.invokestatic 35, 3) := by decide +kernel
theorem dX2_pickFromRow_22 : decode cX2_pickFromRow 22 = .ok (.iload_n 3, 1) := by decide +kernel
theorem dX2_pickFromRow_23 : decode cX2_pickFromRow 23 = .ok (.if_icmp .ge 30, 3) := by decide +kernel
theorem dX2_pickFromRow_26 : decode cX2_pickFromRow 26 = .ok (.iload 4, 2) := by decide +kernel
theorem dX2_pickFromRow_28 : decode cX2_pickFromRow 28 = .ok (.iload_n 2, 1) := by decide +kernel
theorem dX2_pickFromRow_29 : decode cX2_pickFromRow 29 = .ok (.iconst 1, 1) := by decide +kernel
theorem dX2_pickFromRow_30 : decode cX2_pickFromRow 30 = .ok (.aload_n 0, 1) := by decide +kernel
theorem dX2_pickFromRow_31 : decode cX2_pickFromRow 31 = .ok (.getfield 28, 3) := by decide +kernel
theorem dX2_pickFromRow_34 : decode cX2_pickFromRow 34 = .ok (.iload_n 1, 1) := by decide +kernel
theorem dX2_pickFromRow_35 : decode cX2_pickFromRow 35 = .ok (.bipush 7, 2) := by decide +kernel
theorem dX2_pickFromRow_37 : decode cX2_pickFromRow 37 = .ok (.imul, 1) := by decide +kernel
theorem dX2_pickFromRow_38 : decode cX2_pickFromRow 38 = .ok (.iload 5, 2) := by decide +kernel
theorem dX2_pickFromRow_40 : decode cX2_pickFromRow 40 = .ok (.iadd, 1) := by decide +kernel
theorem dX2_pickFromRow_41 : decode cX2_pickFromRow 41 = .ok (.iaload, 1) := by decide +kernel
theorem dX2_pickFromRow_42 : decode cX2_pickFromRow 42 = .ok (.ishl, 1) := by decide +kernel
theorem dX2_pickFromRow_43 : decode cX2_pickFromRow 43 = .ok (.iand, 1) := by decide +kernel
theorem dX2_pickFromRow_44 : decode cX2_pickFromRow 44 = .ok (.ior, 1) := by decide +kernel
theorem dX2_pickFromRow_45 : decode cX2_pickFromRow 45 = .ok (.istore 4, 2) := by decide +kernel
theorem dX2_pickFromRow_47 : decode cX2_pickFromRow 47 = .ok (.iinc 5 1, 3) := by decide +kernel
theorem dX2_pickFromRow_50 : decode cX2_pickFromRow 50 = .ok (.goto (-44), 3) := by decide +kernel
theorem dX2_pickFromRow_53 : decode cX2_pickFromRow 53 = .ok (.iload 4, 2) := by decide +kernel
theorem dX2_pickFromRow_55 : decode cX2_pickFromRow 55 = .ok (.ireturn, 1) := by decide +kernel
theorem dX2_pickNext_0 : decode cX2_pickNext 0 = .ok (.iconst (-1), 1) := by decide +kernel
theorem dX2_pickNext_1 : decode cX2_pickNext 1 = .ok (.istore_n 3, 1) := by decide +kernel
theorem dX2_pickNext_2 : decode cX2_pickNext 2 = .ok (.iconst 0, 1) := by decide +kernel
theorem dX2_pickNext_3 : decode cX2_pickNext 3 = .ok (.istore 4, 2) := by decide +kernel
theorem dX2_pickNext_5 : decode cX2_pickNext 5 = .ok (.iload 4, 2) := by decide +kernel
theorem dX2_pickNext_7 : decode cX2_pickNext 7 = .ok (.aload_n 0, 1) := by decide +kernel
theorem dX2_pickNext_8 : decode cX2_pickNext 8 = .ok (.getfield 9, 3) := by decide +kernel
theorem dX2_pickNext_11 : decode cX2_pickNext 11 = .ok (.if_icmp .ge 37, 3) := by decide +kernel
theorem dX2_pickNext_14 : decode cX2_pickNext 14 = .ok (.iload_n 2, 1) := by decide +kernel
theorem dX2_pickNext_15 : decode cX2_pickNext 15 = .ok (.iload 4, 2) := by decide +kernel
theorem dX2_pickNext_17 : decode cX2_pickNext 17 = .ok (.invokestatic 54, 3) := by decide +kernel
theorem dX2_pickNext_20 : decode cX2_pickNext 20 = .ok (.ifCond .eq 22, 3) := by decide +kernel
theorem dX2_pickNext_23 : decode cX2_pickNext 23 = .ok (.iload_n 3, 1) := by decide +kernel
theorem dX2_pickNext_24 : decode cX2_pickNext 24 = .ok (.iconst (-1), 1) := by decide +kernel
theorem dX2_pickNext_25 : decode cX2_pickNext 25 = .ok (.if_icmp .eq 14, 3) := by decide +kernel
theorem dX2_pickNext_28 : decode cX2_pickNext 28 = .ok (.aload_n 0, 1) := by decide +kernel
theorem dX2_pickNext_29 : decode cX2_pickNext 29 = .ok (.iload_n 1, 1) := by decide +kernel
theorem dX2_pickNext_30 : decode cX2_pickNext 30 = .ok (.iload 4, 2) := by decide +kernel
theorem dX2_pickNext_32 : decode cX2_pickNext 32 = .ok (.iload_n 3, 1) := by decide +kernel
theorem dX2_pickNext_33 : decode cX2_pickNext 33 = .ok (.invokevirtual 57, 3) := by decide +kernel
theorem dX2_pickNext_36 : decode cX2_pickNext 36 = .ok (.ifCond .eq 6, 3) := by decide +kernel
theorem dX2_pickNext_39 : decode cX2_pickNext 39 = .ok (.iload 4, 2) := by decide +kernel
theorem dX2_pickNext_41 : decode cX2_pickNext 41 = .ok (.istore_n 3, 1) := by decide +kernel
theorem dX2_pickNext_42 : decode cX2_pickNext 42 = .ok (.iinc 4 1, 3) := by decide +kernel
theorem dX2_pickNext_45 : decode cX2_pickNext 45 = .ok (.goto (-40), 3) := by decide +kernel
theorem dX2_pickNext_48 : decode cX2_pickNext 48 = .ok (.iload_n 3, 1) := by decide +kernel
theorem dX2_pickNext_49 : decode cX2_pickNext 49 = .ok (.iconst (-1), 1) := by decide +kernel
theorem dX2_pickNext_50 : decode cX2_pickNext 50 = .ok (.if_icmp .ne 7, 3) := by decide +kernel
theorem dX2_pickNext_53 : decode cX2_pickNext 53 = .ok (.iconst 0, 1) := by decide +kernel
theorem dX2_pickNext_54 : decode cX2_pickNext 54 = .ok (.goto 6, 3) := by decide +kernel
theorem dX2_pickNext_57 : decode cX2_pickNext 57 = .ok (.iconst 1, 1) := by decide +kernel
theorem dX2_pickNext_58 : decode cX2_pickNext 58 = .ok (.iload_n 3, 1) := by decide +kernel
theorem dX2_pickNext_59 : decode cX2_pickNext 59 = .ok (.ishl, 1) := by decide +kernel
theorem dX2_pickNext_60 : decode cX2_pickNext 60 = .ok (.ireturn, 1) := by decide +kernel
theorem dX2_isAhead_0 : decode cX2_isAhead 0 = .ok (.iload_n 1, 1) := by decide +kernel
theorem dX2_isAhead_1 : decode cX2_isAhead 1 = .ok (.iconst 1, 1) := by decide +kernel
theorem dX2_isAhead_2 : decode cX2_isAhead 2 = .ok (.if_icmp .eq 8, 3) := by decide +kernel
theorem dX2_isAhead_5 : decode cX2_isAhead 5 = .ok (.iload_n 1, 1) := by decide +kernel
theorem dX2_isAhead_6 : decode cX2_isAhead 6 = .ok (.iconst 4, 1) := by decide +kernel
theorem dX2_isAhead_7 : decode cX2_isAhead 7 = .ok (.if_icmp .ne 30, 3) := by decide +kernel
theorem dX2_isAhead_10 : decode cX2_isAhead 10 = .ok (.aload_n 0, 1) := by decide +kernel
theorem dX2_isAhead_11 : decode cX2_isAhead 11 = .ok (.getfield 22, 3) := by decide +kernel
theorem dX2_isAhead_14 : decode cX2_isAhead 14 = .ok (.iload_n 2, 1) := by decide +kernel
theorem dX2_isAhead_15 : decode cX2_isAhead 15 = .ok (.iaload, 1) := by decide +kernel
theorem dX2_isAhead_16 : decode cX2_isAhead 16 = .ok (.invokestatic 35, 3) := by decide +kernel
theorem dX2_isAhead_19 : decode cX2_isAhead 19 = .ok (.aload_n 0, 1) := by decide +kernel
theorem dX2_isAhead_20 : decode cX2_isAhead 20 = .ok (.getfield 22, 3) := by decide +kernel
theorem dX2_isAhead_23 : decode cX2_isAhead 23 = .ok (.iload_n 3, 1) := by decide +kernel
theorem dX2_isAhead_24 : decode cX2_isAhead 24 = .ok (.iaload, 1) := by decide +kernel
theorem dX2_isAhead_25 : decode cX2_isAhead 25 = .ok (.invokestatic 35, 3) := by decide +kernel
theorem dX2_isAhead_28 : decode cX2_isAhead 28 = .ok (.if_icmp .le 7, 3) := by decide +kernel
theorem dX2_isAhead_31 : decode cX2_isAhead 31 = .ok (.iconst 1, 1) := by decide +kernel
theorem dX2_isAhead_32 : decode cX2_isAhead 32 = .ok (.goto 4, 3) := by decide +kernel
theorem dX2_isAhead_35 : decode cX2_isAhead 35 = .ok (.iconst 0, 1) := by decide +kernel
theorem dX2_isAhead_36 : decode cX2_isAhead 36 = .ok (.ireturn, 1) := by decide +kernel
theorem dX2_isAhead_37 : decode cX2_isAhead 37 = .ok (.iload_n 1, 1) := by decide +kernel
theorem dX2_isAhead_38 : decode cX2_isAhead 38 = .ok (.iconst 3, 1) := by decide +kernel
theorem dX2_isAhead_39 : decode cX2_isAhead 39 = .ok (.if_icmp .eq 9, 3) := by decide +kernel
theorem dX2_isAhead_42 : decode cX2_isAhead 42 = .ok (.iload_n 1, 1) := by decide +kernel
theorem dX2_isAhead_43 : decode cX2_isAhead 43 = .ok (.bipush 6, 2) := by decide +kernel
theorem dX2_isAhead_45 : decode cX2_isAhead 45 = .ok (.if_icmp .ne 7, 3) := by decide +kernel
theorem dX2_isAhead_48 : decode cX2_isAhead 48 = .ok (.iconst 1, 1) := by decide +kernel
theorem dX2_isAhead_49 : decode cX2_isAhead 49 = .ok (.goto 4, 3) := by decide +kernel
theorem dX2_isAhead_52 : decode cX2_isAhead 52 = .ok (.iconst 0, 1) := by decide +kernel
theorem dX2_isAhead_53 : decode cX2_isAhead 53 = .ok (.ireturn, 1) := by decide +kernel
theorem dX2_copyFrom_0 : decode cX2_copyFrom 0 = .ok (.aload_n 0, 1) := by decide +kernel
theorem dX2_copyFrom_1 : decode cX2_copyFrom 1 = .ok (.aload_n 1, 1) := by decide +kernel
theorem dX2_copyFrom_2 : decode cX2_copyFrom 2 = .ok (.getfield 9, 3) := by decide +kernel
theorem dX2_copyFrom_5 : decode cX2_copyFrom 5 = .ok (.putfield 9, 3) := by decide +kernel
theorem dX2_copyFrom_8 : decode cX2_copyFrom 8 = .ok (.aload_n 1, 1) := by decide +kernel
theorem dX2_copyFrom_9 : decode cX2_copyFrom 9 = .ok (.getfield 15, 3) := by decide +kernel
theorem dX2_copyFrom_12 : decode cX2_copyFrom 12 = .ok (.iconst 0, 1) := by decide +kernel
theorem dX2_copyFrom_13 : decode cX2_copyFrom 13 = .ok (.aload_n 0, 1) := by decide +kernel
theorem dX2_copyFrom_14 : decode cX2_copyFrom 14 = .ok (.getfield 15, 3) := by decide +kernel
theorem dX2_copyFrom_17 : decode cX2_copyFrom 17 = .ok (.iconst 0, 1) := by decide +kernel
theorem dX2_copyFrom_18 : decode cX2_copyFrom 18 = .ok (.bipush 7, 2) := by decide +kernel
theorem dX2_copyFrom_20 : decode cX2_copyFrom 20 = .ok (.invokestatic 61, 3) := by decide +kernel
theorem dX2_copyFrom_23 : decode cX2_copyFrom 23 = .ok (.aload_n 1, 1) := by decide +kernel
theorem dX2_copyFrom_24 : decode cX2_copyFrom 24 = .ok (.getfield 19, 3) := by decide +kernel
theorem dX2_copyFrom_27 : decode cX2_copyFrom 27 = .ok (.iconst 0, 1) := by decide +kernel
theorem dX2_copyFrom_28 : decode cX2_copyFrom 28 = .ok (.aload_n 0, 1) := by decide +kernel
theorem dX2_copyFrom_29 : decode cX2_copyFrom 29 = .ok (.getfield 19, 3) := by decide +kernel
theorem dX2_copyFrom_32 : decode cX2_copyFrom 32 = .ok (.iconst 0, 1) := by decide +kernel
theorem dX2_copyFrom_33 : decode cX2_copyFrom 33 = .ok (.bipush 7, 2) := by decide +kernel
theorem dX2_copyFrom_35 : decode cX2_copyFrom 35 = .ok (.invokestatic 61, 3) := by decide +kernel
theorem dX2_copyFrom_38 : decode cX2_copyFrom 38 = .ok (.aload_n 1, 1) := by decide +kernel
theorem dX2_copyFrom_39 : decode cX2_copyFrom 39 = .ok (.getfield 22, 3) := by decide +kernel
theorem dX2_copyFrom_42 : decode cX2_copyFrom 42 = .ok (.iconst 0, 1) := by decide +kernel
theorem dX2_copyFrom_43 : decode cX2_copyFrom 43 = .ok (.aload_n 0, 1) := by decide +kernel
theorem dX2_copyFrom_44 : decode cX2_copyFrom 44 = .ok (.getfield 22, 3) := by decide +kernel
theorem dX2_copyFrom_47 : decode cX2_copyFrom 47 = .ok (.iconst 0, 1) := by decide +kernel
theorem dX2_copyFrom_48 : decode cX2_copyFrom 48 = .ok (.bipush 7, 2) := by decide +kernel
theorem dX2_copyFrom_50 : decode cX2_copyFrom 50 = .ok (.invokestatic 61, 3) := by decide +kernel
theorem dX2_copyFrom_53 : decode cX2_copyFrom 53 = .ok (.aload_n 1, 1) := by decide +kernel
theorem dX2_copyFrom_54 : decode cX2_copyFrom 54 = .ok (.getfield 25, 3) := by decide +kernel
theorem dX2_copyFrom_57 : decode cX2_copyFrom 57 = .ok (.iconst 0, 1) := by decide +kernel
theorem dX2_copyFrom_58 : decode cX2_copyFrom 58 = .ok (.aload_n 0, 1) := by decide +kernel
theorem dX2_copyFrom_59 : decode cX2_copyFrom 59 = .ok (.getfield 25, 3) := by decide +kernel
theorem dX2_copyFrom_62 : decode cX2_copyFrom 62 = .ok (.iconst 0, 1) := by decide +kernel
theorem dX2_copyFrom_63 : decode cX2_copyFrom 63 = .ok (.bipush 7, 2) := by decide +kernel
theorem dX2_copyFrom_65 : decode cX2_copyFrom 65 = .ok (.invokestatic 61, 3) := by decide +kernel
theorem dX2_copyFrom_68 : decode cX2_copyFrom 68 = .ok (.aload_n 1, 1) := by decide +kernel
theorem dX2_copyFrom_69 : decode cX2_copyFrom 69 = .ok (.getfield 28, 3) := by decide +kernel
theorem dX2_copyFrom_72 : decode cX2_copyFrom 72 = .ok (.iconst 0, 1) := by decide +kernel
theorem dX2_copyFrom_73 : decode cX2_copyFrom 73 = .ok (.aload_n 0, 1) := by decide +kernel
theorem dX2_copyFrom_74 : decode cX2_copyFrom 74 = .ok (.getfield 28, 3) := by decide +kernel
theorem dX2_copyFrom_77 : decode cX2_copyFrom 77 = .ok (.iconst 0, 1) := by decide +kernel
theorem dX2_copyFrom_78 : decode cX2_copyFrom 78 = .ok (.bipush 49, 2) := by decide +kernel
theorem dX2_copyFrom_80 : decode cX2_copyFrom 80 = .ok (.invokestatic 61, 3) := by decide +kernel
theorem dX2_copyFrom_83 : decode cX2_copyFrom 83 = .ok (.return_, 1) := by decide +kernel
theorem dX3_init_0 : decode cX3_init 0 = .ok (.aload_n 0, 1) := by decide +kernel
theorem dX3_init_1 : decode cX3_init 1 = .ok (.invokespecial 3, 3) := by decide +kernel
theorem dX3_init_4 : decode cX3_init 4 = .ok (.aload_n 0, 1) := by decide +kernel
theorem dX3_init_5 : decode cX3_init 5 = .ok (.new 9, 3) := by decide +kernel
theorem dX3_init_8 : decode cX3_init 8 = .ok (.dup, 1) := by decide +kernel
theorem dX3_init_9 : decode cX3_init 9 = .ok (.invokespecial 11, 3) := by decide +kernel
theorem dX3_init_12 : decode cX3_init 12 = .ok (.putfield 12, 3) := by decide +kernel
theorem dX3_init_15 : decode cX3_init 15 = .ok (.aload_n 0, 1) := by decide +kernel
theorem dX3_init_16 : decode cX3_init 16 = .ok (.new 18, 3) := by decide +kernel
theorem dX3_init_19 : decode cX3_init 19 = .ok (.dup, 1) := by decide +kernel
theorem dX3_init_20 : decode cX3_init 20 = .ok (.invokespecial 20, 3) := by decide +kernel
theorem dX3_init_23 : decode cX3_init 23 = .ok (.putfield 21, 3) := by decide +kernel
theorem dX3_init_26 : decode cX3_init 26 = .ok (.aload_n 0, 1) := by decide +kernel
theorem dX3_init_27 : decode cX3_init 27 = .ok (.iconst 0, 1) := by decide +kernel
theorem dX3_init_28 : decode cX3_init 28 = .ok (.putfield 25, 3) := by decide +kernel
theorem dX3_init_31 : decode cX3_init 31 = .ok (.aload_n 0, 1) := by decide +kernel
theorem dX3_init_32 : decode cX3_init 32 = .ok (.iconst 0, 1) := by decide +kernel
theorem dX3_init_33 : decode cX3_init 33 = .ok (.putfield 29, 3) := by decide +kernel
theorem dX3_init_36 : decode cX3_init 36 = .ok (.aload_n 0, 1) := by decide +kernel
theorem dX3_init_37 : decode cX3_init 37 = .ok (.iconst 0, 1) := by decide +kernel
theorem dX3_init_38 : decode cX3_init 38 = .ok (.putfield 32, 3) := by decide +kernel
theorem dX3_init_41 : decode cX3_init 41 = .ok (.return_, 1) := by decide +kernel
theorem dX3_read_0 : decode cX3_read 0 = .ok (.aload_n 0, 1) := by decide +kernel
theorem dX3_read_1 : decode cX3_read 1 = .ok (.getfield 12, 3) := by decide +kernel
theorem dX3_read_4 : decode cX3_read 4 = .ok (.aload_n 1, 1) := by decide +kernel
theorem dX3_read_5 : decode cX3_read 5 = .ok (.invokevirtual 36, 3) := by decide +kernel
theorem dX3_read_8 : decode cX3_read 8 = .ok (.aload_n 0, 1) := by decide +kernel
theorem dX3_read_9 : decode cX3_read 9 = .ok (.getfield 21, 3) := by decide +kernel
theorem dX3_read_12 : decode cX3_read 12 = .ok (.invokevirtual 40, 3) := by decide +kernel
theorem dX3_read_15 : decode cX3_read 15 = .ok (.aload_n 0, 1) := by decide +kernel
theorem dX3_read_16 : decode cX3_read 16 = .ok (.iconst 0, 1) := by decide +kernel
theorem dX3_read_17 : decode cX3_read 17 = .ok (.putfield 25, 3) := by decide +kernel
theorem dX3_read_20 : decode cX3_read 20 = .ok (.iconst 1, 1) := by decide +kernel
theorem dX3_read_21 : decode cX3_read 21 = .ok (.istore_n 2, 1) := by decide +kernel
theorem dX3_read_22 : decode cX3_read 22 = .ok (.iload_n 2, 1) := by decide +kernel
theorem dX3_read_23 : decode cX3_read 23 = .ok (.bipush 10, 2) := by decide +kernel
theorem dX3_read_25 : decode cX3_read 25 = .ok (.if_icmp .gt 66, 3) := by decide +kernel
theorem dX3_read_28 : decode cX3_read 28 = .ok (.aload_n 0, 1) := by decide +kernel
theorem dX3_read_29 : decode cX3_read 29 = .ok (.invokevirtual 43, 3) := by decide +kernel
theorem dX3_read_32 : decode cX3_read 32 = .ok (.ifCond .eq 18, 3) := by decide +kernel
theorem dX3_read_35 : decode cX3_read 35 = .ok (.aload_n 0, 1) := by decide +kernel
theorem dX3_read_36 : decode cX3_read 36 = .ok (.getfield 32, 3) := by decide +kernel
theorem dX3_read_39 : decode cX3_read 39 = .ok (.ifCond .eq 13, 3) := by decide +kernel
theorem dX3_read_42 : decode cX3_read 42 = .ok (.aload_n 0, 1) := by decide +kernel
theorem dX3_read_43 : decode cX3_read 43 = .ok (.iconst 0, 1) := by decide +kernel
theorem dX3_read_44 : decode cX3_read 44 = .ok (.invokevirtual 47, 3) := by decide +kernel
theorem dX3_read_47 : decode cX3_read 47 = .ok (.ifCond .ne 5, 3) := by decide +kernel
theorem dX3_read_50 : decode cX3_read 50 = .ok (.iconst 0, 1) := by decide +kernel
theorem dX3_read_51 : decode cX3_read 51 = .ok (.ireturn, 1) := by decide +kernel
theorem dX3_read_52 : decode cX3_read 52 = .ok (.aload_n 0, 1) := by decide +kernel
theorem dX3_read_53 : decode cX3_read 53 = .ok (.getfield 25, 3) := by decide +kernel
theorem dX3_read_56 : decode cX3_read 56 = .ok (.aload_n 0, 1) := by decide +kernel
theorem dX3_read_57 : decode cX3_read 57 = .ok (.getfield 12, 3) := by decide +kernel
theorem dX3_read_60 : decode cX3_read 60 = .ok (.getfield 51, 3) := by decide +kernel
theorem dX3_read_63 : decode cX3_read 63 = .ok (.if_icmp .lt 5, 3) := by decide +kernel
theorem dX3_read_66 : decode cX3_read 66 = .ok (.iconst 1, 1) := by decide +kernel
theorem dX3_read_67 : decode cX3_read 67 = .ok (.ireturn, 1) := by decide +kernel
theorem dX3_read_68 : decode cX3_read 68 = .ok (.iload_n 2, 1) := by decide +kernel
theorem dX3_read_69 : decode cX3_read 69 = .ok (.bipush 10, 2) := by decide +kernel
theorem dX3_read_71 : decode cX3_read 71 = .ok (.if_icmp .eq 12, 3) := by decide +kernel
theorem dX3_read_74 : decode cX3_read 74 = .ok (.aload_n 0, 1) := by decide +kernel
theorem dX3_read_75 : decode cX3_read 75 = .ok (.bipush 59, 2) := by decide +kernel
theorem dX3_read_77 : decode cX3_read 77 = .ok (.invokevirtual 54, 3) := by decide +kernel
theorem dX3_read_80 : decode cX3_read 80 = .ok (.ifCond .ne 5, 3) := by decide +kernel
theorem dX3_read_83 : decode cX3_read 83 = .ok (.iconst 0, 1) := by decide +kernel
theorem dX3_read_84 : decode cX3_read 84 = .ok (.ireturn, 1) := by decide +kernel
theorem dX3_read_85 : decode cX3_read 85 = .ok (.iinc 2 1, 3) := by decide +kernel
theorem dX3_read_88 : decode cX3_read 88 = .ok (.goto (-66), 3) := by decide +kernel
theorem dX3_read_91 : decode cX3_read 91 = .ok (.iconst 0, 1) := by decide +kernel
theorem dX3_read_92 : decode cX3_read 92 = .ok (.ireturn, 1) := by decide +kernel
theorem dX3_readHead_0 : decode cX3_readHead 0 = .ok (.aload_n 0, 1) := by decide +kernel
theorem dX3_readHead_1 : decode cX3_readHead 1 = .ok (.getfield 12, 3) := by decide +kernel
theorem dX3_readHead_4 : decode cX3_readHead 4 = .ok (.aload_n 0, 1) := by decide +kernel
theorem dX3_readHead_5 : decode cX3_readHead 5 = .ok (.getfield 25, 3) := by decide +kernel
theorem dX3_readHead_8 : decode cX3_readHead 8 = .ok (.invokevirtual 58, 3) := by decide +kernel
theorem dX3_readHead_11 : decode cX3_readHead 11 = .ok (.lookupswitch 73 #[(102, 38), (108, 68), (115, 33)], 33) := by decide +kernel
theorem dX3_readHead_44 : decode cX3_readHead 44 = .ok (.aload_n 0, 1) := by decide +kernel
theorem dX3_readHead_45 : decode cX3_readHead 45 = .ok (.invokevirtual 62, 3) := by decide +kernel
theorem dX3_readHead_48 : decode cX3_readHead 48 = .ok (.ireturn, 1) := by decide +kernel
theorem dX3_readHead_49 : decode cX3_readHead 49 = .ok (.aload_n 0, 1) := by decide +kernel
theorem dX3_readHead_50 : decode cX3_readHead 50 = .ok (.getfield 12, 3) := by decide +kernel
theorem dX3_readHead_53 : decode cX3_readHead 53 = .ok (.aload_n 0, 1) := by decide +kernel
theorem dX3_readHead_54 : decode cX3_readHead 54 = .ok (.getfield 25, 3) := by decide +kernel
theorem dX3_readHead_57 : decode cX3_readHead 57 = .ok (.iconst 1, 1) := by decide +kernel
theorem dX3_readHead_58 : decode cX3_readHead 58 = .ok (.iadd, 1) := by decide +kernel
theorem dX3_readHead_59 : decode cX3_readHead 59 = .ok (.invokevirtual 58, 3) := by decide +kernel
theorem dX3_readHead_62 : decode cX3_readHead 62 = .ok (.bipush 101, 2) := by decide +kernel
theorem dX3_readHead_64 : decode cX3_readHead 64 = .ok (.if_icmp .ne 10, 3) := by decide +kernel
theorem dX3_readHead_67 : decode cX3_readHead 67 = .ok (.aload_n 0, 1) := by decide +kernel
theorem dX3_readHead_68 : decode cX3_readHead 68 = .ok (.invokevirtual 65, 3) := by decide +kernel
theorem dX3_readHead_71 : decode cX3_readHead 71 = .ok (.goto 7, 3) := by decide +kernel
theorem dX3_readHead_74 : decode cX3_readHead 74 = .ok (.aload_n 0, 1) := by decide +kernel
theorem dX3_readHead_75 : decode cX3_readHead 75 = .ok (.invokevirtual 68, 3) := by decide +kernel
theorem dX3_readHead_78 : decode cX3_readHead 78 = .ok (.ireturn, 1) := by decide +kernel
theorem dX3_readHead_79 : decode cX3_readHead 79 = .ok (.aload_n 0, 1) := by decide +kernel
theorem dX3_readHead_80 : decode cX3_readHead 80 = .ok (.invokevirtual 71, 3) := by decide +kernel
theorem dX3_readHead_83 : decode cX3_readHead 83 = .ok (.ireturn, 1) := by decide +kernel
theorem dX3_readHead_84 : decode cX3_readHead 84 = .ok (.iconst 0, 1) := by decide +kernel
theorem dX3_readHead_85 : decode cX3_readHead 85 = .ok (.ireturn, 1) := by decide +kernel
theorem dX3_readShun_0 : decode cX3_readShun 0 = .ok (.aload_n 0, 1) := by decide +kernel
theorem dX3_readShun_1 : decode cX3_readShun 1 = .ok (.ldc 74, 2) := by decide +kernel
theorem dX3_readShun_3 : decode cX3_readShun 3 = .ok (.invokevirtual 76, 3) := by decide +kernel
theorem dX3_readShun_6 : decode cX3_readShun 6 = .ok (.ifCond .ne 5, 3) := by decide +kernel
theorem dX3_readShun_9 : decode cX3_readShun 9 = .ok (.iconst 0, 1) := by decide +kernel
theorem dX3_readShun_10 : decode cX3_readShun 10 = .ok (.ireturn, 1) := by decide +kernel
theorem dX3_readShun_11 : decode cX3_readShun 11 = .ok (.aload_n 0, 1) := by decide +kernel
theorem dX3_readShun_12 : decode cX3_readShun 12 = .ok (.getfield 21, 3) := by decide +kernel
theorem dX3_readShun_15 : decode cX3_readShun 15 = .ok (.iconst 0, 1) := by decide +kernel
theorem dX3_readShun_16 : decode cX3_readShun 16 = .ok (.iconst 1, 1) := by decide +kernel
theorem dX3_readShun_17 : decode cX3_readShun 17 = .ok (.invokevirtual 80, 3) := by decide +kernel
theorem dX3_readShun_20 : decode cX3_readShun 20 = .ok (.aload_n 0, 1) := by decide +kernel
theorem dX3_readShun_21 : decode cX3_readShun 21 = .ok (.iconst 1, 1) := by decide +kernel
theorem dX3_readShun_22 : decode cX3_readShun 22 = .ok (.putfield 32, 3) := by decide +kernel
theorem dX3_readShun_25 : decode cX3_readShun 25 = .ok (.iconst 1, 1) := by decide +kernel
theorem dX3_readShun_26 : decode cX3_readShun 26 = .ok (.ireturn, 1) := by decide +kernel
theorem dX3_readFine_0 : decode cX3_readFine 0 = .ok (.aload_n 0, 1) := by decide +kernel
theorem dX3_readFine_1 : decode cX3_readFine 1 = .ok (.ldc 84, 2) := by decide +kernel
theorem dX3_readFine_3 : decode cX3_readFine 3 = .ok (.invokevirtual 76, 3) := by decide +kernel
theorem dX3_readFine_6 : decode cX3_readFine 6 = .ok (.ifCond .eq 19, 3) := by decide +kernel
theorem dX3_readFine_9 : decode cX3_readFine 9 = .ok (.aload_n 0, 1) := by decide +kernel
theorem dX3_readFine_10 : decode cX3_readFine 10 = .ok (.invokevirtual 86, 3) := by decide +kernel
theorem dX3_readFine_13 : decode cX3_readFine 13 = .ok (.ifCond .eq 12, 3) := by decide +kernel
theorem dX3_readFine_16 : decode cX3_readFine 16 = .ok (.aload_n 0, 1) := by decide +kernel
theorem dX3_readFine_17 : decode cX3_readFine 17 = .ok (.bipush 32, 2) := by decide +kernel
theorem dX3_readFine_19 : decode cX3_readFine 19 = .ok (.invokevirtual 54, 3) := by decide +kernel
theorem dX3_readFine_22 : decode cX3_readFine 22 = .ok (.ifCond .ne 5, 3) := by decide +kernel
theorem dX3_readFine_25 : decode cX3_readFine 25 = .ok (.iconst 0, 1) := by decide +kernel
theorem dX3_readFine_26 : decode cX3_readFine 26 = .ok (.ireturn, 1) := by decide +kernel
theorem dX3_readFine_27 : decode cX3_readFine 27 = .ok (.aload_n 0, 1) := by decide +kernel
theorem dX3_readFine_28 : decode cX3_readFine 28 = .ok (.getfield 21, 3) := by decide +kernel
theorem dX3_readFine_31 : decode cX3_readFine 31 = .ok (.iconst 1, 1) := by decide +kernel
theorem dX3_readFine_32 : decode cX3_readFine 32 = .ok (.aload_n 0, 1) := by decide +kernel
theorem dX3_readFine_33 : decode cX3_readFine 33 = .ok (.getfield 29, 3) := by decide +kernel
theorem dX3_readFine_36 : decode cX3_readFine 36 = .ok (.invokevirtual 80, 3) := by decide +kernel
theorem dX3_readFine_39 : decode cX3_readFine 39 = .ok (.aload_n 0, 1) := by decide +kernel
theorem dX3_readFine_40 : decode cX3_readFine 40 = .ok (.iconst 1, 1) := by decide +kernel
theorem dX3_readFine_41 : decode cX3_readFine 41 = .ok (.putfield 32, 3) := by decide +kernel
theorem dX3_readFine_44 : decode cX3_readFine 44 = .ok (.iconst 1, 1) := by decide +kernel
theorem dX3_readFine_45 : decode cX3_readFine 45 = .ok (.ireturn, 1) := by decide +kernel
theorem dX3_readFewer_0 : decode cX3_readFewer 0 = .ok (.aload_n 0, 1) := by decide +kernel
theorem dX3_readFewer_1 : decode cX3_readFewer 1 = .ok (.ldc 89, 2) := by decide +kernel
theorem dX3_readFewer_3 : decode cX3_readFewer 3 = .ok (.invokevirtual 76, 3) := by decide +kernel
theorem dX3_readFewer_6 : decode cX3_readFewer 6 = .ok (.ifCond .eq 10, 3) := by decide +kernel
theorem dX3_readFewer_9 : decode cX3_readFewer 9 = .ok (.aload_n 0, 1) := by decide +kernel
theorem dX3_readFewer_10 : decode cX3_readFewer 10 = .ok (.invokevirtual 86, 3) := by decide +kernel
theorem dX3_readFewer_13 : decode cX3_readFewer 13 = .ok (.ifCond .ne 5, 3) := by decide +kernel
theorem dX3_readFewer_16 : decode cX3_readFewer 16 = .ok (.iconst 0, 1) := by decide +kernel
theorem dX3_readFewer_17 : decode cX3_readFewer 17 = .ok (.ireturn, 1) := by decide +kernel
theorem dX3_readFewer_18 : decode cX3_readFewer 18 = .ok (.aload_n 0, 1) := by decide +kernel
theorem dX3_readFewer_19 : decode cX3_readFewer 19 = .ok (.getfield 21, 3) := by decide +kernel
theorem dX3_readFewer_22 : decode cX3_readFewer 22 = .ok (.aload_n 0, 1) := by decide +kernel
theorem dX3_readFewer_23 : decode cX3_readFewer 23 = .ok (.getfield 29, 3) := by decide +kernel
theorem dX3_readFewer_26 : decode cX3_readFewer 26 = .ok (.putfield 91, 3) := by decide +kernel
theorem dX3_readFewer_29 : decode cX3_readFewer 29 = .ok (.aload_n 0, 1) := by decide +kernel
theorem dX3_readFewer_30 : decode cX3_readFewer 30 = .ok (.iconst 0, 1) := by decide +kernel
theorem dX3_readFewer_31 : decode cX3_readFewer 31 = .ok (.putfield 32, 3) := by decide +kernel
theorem dX3_readFewer_34 : decode cX3_readFewer 34 = .ok (.iconst 1, 1) := by decide +kernel
theorem dX3_readFewer_35 : decode cX3_readFewer 35 = .ok (.ireturn, 1) := by decide +kernel
theorem dX3_readLaw_0 : decode cX3_readLaw 0 = .ok (.aload_n 0, 1) := by decide +kernel
theorem dX3_readLaw_1 : decode cX3_readLaw 1 = .ok (.ldc 94, 2) := by decide +kernel
theorem dX3_readLaw_3 : decode cX3_readLaw 3 = .ok (.invokevirtual 76, 3) := by decide +kernel
theorem dX3_readLaw_6 : decode cX3_readLaw 6 = .ok (.ifCond .eq 10, 3) := by decide +kernel
theorem dX3_readLaw_9 : decode cX3_readLaw 9 = .ok (.aload_n 0, 1) := by decide +kernel
theorem dX3_readLaw_10 : decode cX3_readLaw 10 = .ok (.invokevirtual 86, 3) := by decide +kernel
theorem dX3_readLaw_13 : decode cX3_readLaw 13 = .ok (.ifCond .ne 5, 3) := by decide +kernel
theorem dX3_readLaw_16 : decode cX3_readLaw 16 = .ok (.iconst 0, 1) := by decide +kernel
theorem dX3_readLaw_17 : decode cX3_readLaw 17 = .ok (.ireturn, 1) := by decide +kernel
theorem dX3_readLaw_18 : decode cX3_readLaw 18 = .ok (.aload_n 0, 1) := by decide +kernel
theorem dX3_readLaw_19 : decode cX3_readLaw 19 = .ok (.getfield 21, 3) := by decide +kernel
theorem dX3_readLaw_22 : decode cX3_readLaw 22 = .ok (.aload_n 0, 1) := by decide +kernel
theorem dX3_readLaw_23 : decode cX3_readLaw 23 = .ok (.getfield 29, 3) := by decide +kernel
theorem dX3_readLaw_26 : decode cX3_readLaw 26 = .ok (.iconst 2, 1) := by decide +kernel
theorem dX3_readLaw_27 : decode cX3_readLaw 27 = .ok (.irem, 1) := by decide +kernel
theorem dX3_readLaw_28 : decode cX3_readLaw 28 = .ok (.putfield 96, 3) := by decide +kernel
theorem dX3_readLaw_31 : decode cX3_readLaw 31 = .ok (.aload_n 0, 1) := by decide +kernel
theorem dX3_readLaw_32 : decode cX3_readLaw 32 = .ok (.iconst 0, 1) := by decide +kernel
theorem dX3_readLaw_33 : decode cX3_readLaw 33 = .ok (.putfield 32, 3) := by decide +kernel
theorem dX3_readLaw_36 : decode cX3_readLaw 36 = .ok (.iconst 1, 1) := by decide +kernel
theorem dX3_readLaw_37 : decode cX3_readLaw 37 = .ok (.ireturn, 1) := by decide +kernel
theorem dX3_readEither_0 : decode cX3_readEither 0 = .ok (.aload_n 0, 1) := by decide +kernel
theorem dX3_readEither_1 : decode cX3_readEither 1 = .ok (.iload_n 1, 1) := by decide +kernel
theorem dX3_readEither_2 : decode cX3_readEither 2 = .ok (.invokevirtual 99, 3) := by decide +kernel
theorem dX3_readEither_5 : decode cX3_readEither 5 = .ok (.ifCond .ne 5, 3) := by decide +kernel
theorem dX3_readEither_8 : decode cX3_readEither 8 = .ok (.iconst 0, 1) := by decide +kernel
theorem dX3_readEither_9 : decode cX3_readEither 9 = .ok (.ireturn, 1) := by decide +kernel
theorem dX3_readEither_10 : decode cX3_readEither 10 = .ok (.iconst 0, 1) := by decide +kernel
theorem dX3_readEither_11 : decode cX3_readEither 11 = .ok (.istore_n 2, 1) := by decide +kernel
theorem dX3_readEither_12 : decode cX3_readEither 12 = .ok (.iconst 1, 1) := by decide +kernel
theorem dX3_readEither_13 : decode cX3_readEither 13 = .ok (.istore_n 3, 1) := by decide +kernel
theorem dX3_readEither_14 : decode cX3_readEither 14 = .ok (.iload_n 3, 1) := by decide +kernel
theorem dX3_readEither_15 : decode cX3_readEither 15 = .ok (.bipush 100, 2) := by decide +kernel
theorem dX3_readEither_17 : decode cX3_readEither 17 = .ok (.if_icmp .gt 86, 3) := by decide +kernel
theorem dX3_readEither_20 : decode cX3_readEither 20 = .ok (.aload_n 0, 1) := by decide +kernel
theorem dX3_readEither_21 : decode cX3_readEither 21 = .ok (.bipush 38, 2) := by decide +kernel
theorem dX3_readEither_23 : decode cX3_readEither 23 = .ok (.invokevirtual 54, 3) := by decide +kernel
theorem dX3_readEither_26 : decode cX3_readEither 26 = .ok (.istore 4, 2) := by decide +kernel
theorem dX3_readEither_28 : decode cX3_readEither 28 = .ok (.iload 4, 2) := by decide +kernel
theorem dX3_readEither_30 : decode cX3_readEither 30 = .ok (.ifCond .ne 20, 3) := by decide +kernel
theorem dX3_readEither_33 : decode cX3_readEither 33 = .ok (.iload_n 2, 1) := by decide +kernel
theorem dX3_readEither_34 : decode cX3_readEither 34 = .ok (.ifCond .eq 16, 3) := by decide +kernel
theorem dX3_readEither_37 : decode cX3_readEither 37 = .ok (.aload_n 0, 1) := by decide +kernel
theorem dX3_readEither_38 : decode cX3_readEither 38 = .ok (.getfield 21, 3) := by decide +kernel
theorem dX3_readEither_41 : decode cX3_readEither 41 = .ok (.bipush (-3), 2) := by decide +kernel
theorem dX3_readEither_43 : decode cX3_readEither 43 = .ok (.iconst 0, 1) := by decide +kernel
theorem dX3_readEither_44 : decode cX3_readEither 44 = .ok (.iconst 0, 1) := by decide +kernel
theorem dX3_readEither_45 : decode cX3_readEither 45 = .ok (.invokevirtual 102, 3) := by decide +kernel
theorem dX3_readEither_48 : decode cX3_readEither 48 = .ok (.iconst 0, 1) := by decide +kernel
theorem dX3_readEither_49 : decode cX3_readEither 49 = .ok (.istore_n 2, 1) := by decide +kernel
theorem dX3_readEither_50 : decode cX3_readEither 50 = .ok (.iload 4, 2) := by decide +kernel
theorem dX3_readEither_52 : decode cX3_readEither 52 = .ok (.ifCond .ne 14, 3) := by decide +kernel
theorem dX3_readEither_55 : decode cX3_readEither 55 = .ok (.aload_n 0, 1) := by decide +kernel
theorem dX3_readEither_56 : decode cX3_readEither 56 = .ok (.bipush 124, 2) := by decide +kernel
theorem dX3_readEither_58 : decode cX3_readEither 58 = .ok (.invokevirtual 54, 3) := by decide +kernel
theorem dX3_readEither_61 : decode cX3_readEither 61 = .ok (.ifCond .ne 5, 3) := by decide +kernel
theorem dX3_readEither_64 : decode cX3_readEither 64 = .ok (.iconst 1, 1) := by decide +kernel
theorem dX3_readEither_65 : decode cX3_readEither 65 = .ok (.ireturn, 1) := by decide +kernel
theorem dX3_readEither_66 : decode cX3_readEither 66 = .ok (.aload_n 0, 1) := by decide +kernel
theorem dX3_readEither_67 : decode cX3_readEither 67 = .ok (.iload_n 1, 1) := by decide +kernel
theorem dX3_readEither_68 : decode cX3_readEither 68 = .ok (.invokevirtual 99, 3) := by decide +kernel
theorem dX3_readEither_71 : decode cX3_readEither 71 = .ok (.ifCond .ne 5, 3) := by decide +kernel
theorem dX3_readEither_74 : decode cX3_readEither 74 = .ok (.iconst 0, 1) := by decide +kernel
theorem dX3_readEither_75 : decode cX3_readEither 75 = .ok (.ireturn, 1) := by decide +kernel
theorem dX3_readEither_76 : decode cX3_readEither 76 = .ok (.iload 4, 2) := by decide +kernel
theorem dX3_readEither_78 : decode cX3_readEither 78 = .ok (.ifCond .eq 17, 3) := by decide +kernel
theorem dX3_readEither_81 : decode cX3_readEither 81 = .ok (.aload_n 0, 1) := by decide +kernel
theorem dX3_readEither_82 : decode cX3_readEither 82 = .ok (.getfield 21, 3) := by decide +kernel
theorem dX3_readEither_85 : decode cX3_readEither 85 = .ok (.bipush (-2), 2) := by decide +kernel
theorem dX3_readEither_87 : decode cX3_readEither 87 = .ok (.iconst 0, 1) := by decide +kernel
theorem dX3_readEither_88 : decode cX3_readEither 88 = .ok (.iconst 0, 1) := by decide +kernel
theorem dX3_readEither_89 : decode cX3_readEither 89 = .ok (.invokevirtual 102, 3) := by decide +kernel
theorem dX3_readEither_92 : decode cX3_readEither 92 = .ok (.goto 5, 3) := by decide +kernel
theorem dX3_readEither_95 : decode cX3_readEither 95 = .ok (.iconst 1, 1) := by decide +kernel
theorem dX3_readEither_96 : decode cX3_readEither 96 = .ok (.istore_n 2, 1) := by decide +kernel
theorem dX3_readEither_97 : decode cX3_readEither 97 = .ok (.iinc 3 1, 3) := by decide +kernel
theorem dX3_readEither_100 : decode cX3_readEither 100 = .ok (.goto (-86), 3) := by decide +kernel
theorem dX3_readEither_103 : decode cX3_readEither 103 = .ok (.iconst 0, 1) := by decide +kernel
theorem dX3_readEither_104 : decode cX3_readEither 104 = .ok (.ireturn, 1) := by decide +kernel
theorem dX3_readPart_0 : decode cX3_readPart 0 = .ok (.aload_n 0, 1) := by decide +kernel
theorem dX3_readPart_1 : decode cX3_readPart 1 = .ok (.getfield 12, 3) := by decide +kernel
theorem dX3_readPart_4 : decode cX3_readPart 4 = .ok (.aload_n 0, 1) := by decide +kernel
theorem dX3_readPart_5 : decode cX3_readPart 5 = .ok (.getfield 25, 3) := by decide +kernel
theorem dX3_readPart_8 : decode cX3_readPart 8 = .ok (.invokevirtual 58, 3) := by decide +kernel
theorem dX3_readPart_11 : decode cX3_readPart 11 = .ok (.istore_n 2, 1) := by decide +kernel
theorem dX3_readPart_12 : decode cX3_readPart 12 = .ok (.iload_n 2, 1) := by decide +kernel
theorem dX3_readPart_13 : decode cX3_readPart 13 = .ok (.bipush 33, 2) := by decide +kernel
theorem dX3_readPart_15 : decode cX3_readPart 15 = .ok (.if_icmp .eq 14, 3) := by decide +kernel
theorem dX3_readPart_18 : decode cX3_readPart 18 = .ok (.iload_n 2, 1) := by decide +kernel
theorem dX3_readPart_19 : decode cX3_readPart 19 = .ok (.bipush 40, 2) := by decide +kernel
theorem dX3_readPart_21 : decode cX3_readPart 21 = .ok (.if_icmp .eq 8, 3) := by decide +kernel
theorem dX3_readPart_24 : decode cX3_readPart 24 = .ok (.aload_n 0, 1) := by decide +kernel
theorem dX3_readPart_25 : decode cX3_readPart 25 = .ok (.invokevirtual 106, 3) := by decide +kernel
theorem dX3_readPart_28 : decode cX3_readPart 28 = .ok (.ireturn, 1) := by decide +kernel
theorem dX3_readPart_29 : decode cX3_readPart 29 = .ok (.iload_n 1, 1) := by decide +kernel
theorem dX3_readPart_30 : decode cX3_readPart 30 = .ok (.iconst 5, 1) := by decide +kernel
theorem dX3_readPart_31 : decode cX3_readPart 31 = .ok (.if_icmp .lt 5, 3) := by decide +kernel
theorem dX3_readPart_34 : decode cX3_readPart 34 = .ok (.iconst 0, 1) := by decide +kernel
theorem dX3_readPart_35 : decode cX3_readPart 35 = .ok (.ireturn, 1) := by decide +kernel
theorem dX3_readPart_36 : decode cX3_readPart 36 = .ok (.aload_n 0, 1) := by decide +kernel
theorem dX3_readPart_37 : decode cX3_readPart 37 = .ok (.dup, 1) := by decide +kernel
theorem dX3_readPart_38 : decode cX3_readPart 38 = .ok (.getfield 25, 3) := by decide +kernel
theorem dX3_readPart_41 : decode cX3_readPart 41 = .ok (.iconst 1, 1) := by decide +kernel
theorem dX3_readPart_42 : decode cX3_readPart 42 = .ok (.iadd, 1) := by decide +kernel
theorem dX3_readPart_43 : decode cX3_readPart 43 = .ok (.putfield 25, 3) := by decide +kernel
theorem dX3_readPart_46 : decode cX3_readPart 46 = .ok (.iload_n 2, 1) := by decide +kernel
theorem dX3_readPart_47 : decode cX3_readPart 47 = .ok (.bipush 40, 2) := by decide +kernel
theorem dX3_readPart_49 : decode cX3_readPart 49 = .ok (.if_icmp .ne 28, 3) := by decide +kernel
theorem dX3_readPart_52 : decode cX3_readPart 52 = .ok (.aload_n 0, 1) := by decide +kernel
theorem dX3_readPart_53 : decode cX3_readPart 53 = .ok (.iload_n 1, 1) := by decide +kernel
theorem dX3_readPart_54 : decode cX3_readPart 54 = .ok (.iconst 1, 1) := by decide +kernel
theorem dX3_readPart_55 : decode cX3_readPart 55 = .ok (.iadd, 1) := by decide +kernel
theorem dX3_readPart_56 : decode cX3_readPart 56 = .ok (.invokevirtual 47, 3) := by decide +kernel
theorem dX3_readPart_59 : decode cX3_readPart 59 = .ok (.ifCond .eq 16, 3) := by decide +kernel
theorem dX3_readPart_62 : decode cX3_readPart 62 = .ok (.aload_n 0, 1) := by decide +kernel
theorem dX3_readPart_63 : decode cX3_readPart 63 = .ok (.bipush 41, 2) := by decide +kernel
theorem dX3_readPart_65 : decode cX3_readPart 65 = .ok (.invokevirtual 54, 3) := by decide +kernel
theorem dX3_readPart_68 : decode cX3_readPart 68 = .ok (.ifCond .eq 7, 3) := by decide +kernel
theorem dX3_readPart_71 : decode cX3_readPart 71 = .ok (.iconst 1, 1) := by decide +kernel
theorem dX3_readPart_72 : decode cX3_readPart 72 = .ok (.goto 4, 3) := by decide +kernel
theorem dX3_readPart_75 : decode cX3_readPart 75 = .ok (.iconst 0, 1) := by decide +kernel
theorem dX3_readPart_76 : decode cX3_readPart 76 = .ok (.ireturn, 1) := by decide +kernel
theorem dX3_readPart_77 : decode cX3_readPart 77 = .ok (.aload_n 0, 1) := by decide +kernel
theorem dX3_readPart_78 : decode cX3_readPart 78 = .ok (.iload_n 1, 1) := by decide +kernel
theorem dX3_readPart_79 : decode cX3_readPart 79 = .ok (.iconst 1, 1) := by decide +kernel
theorem dX3_readPart_80 : decode cX3_readPart 80 = .ok (.iadd, 1) := by decide +kernel
theorem dX3_readPart_81 : decode cX3_readPart 81 = .ok (.invokevirtual 99, 3) := by decide +kernel
theorem dX3_readPart_84 : decode cX3_readPart 84 = .ok (.ifCond .ne 5, 3) := by decide +kernel
theorem dX3_readPart_87 : decode cX3_readPart 87 = .ok (.iconst 0, 1) := by decide +kernel
theorem dX3_readPart_88 : decode cX3_readPart 88 = .ok (.ireturn, 1) := by decide +kernel
theorem dX3_readPart_89 : decode cX3_readPart 89 = .ok (.aload_n 0, 1) := by decide +kernel
theorem dX3_readPart_90 : decode cX3_readPart 90 = .ok (.getfield 21, 3) := by decide +kernel
theorem dX3_readPart_93 : decode cX3_readPart 93 = .ok (.iconst (-1), 1) := by decide +kernel
theorem dX3_readPart_94 : decode cX3_readPart 94 = .ok (.iconst 0, 1) := by decide +kernel
theorem dX3_readPart_95 : decode cX3_readPart 95 = .ok (.iconst 0, 1) := by decide +kernel
theorem dX3_readPart_96 : decode cX3_readPart 96 = .ok (.invokevirtual 102, 3) := by decide +kernel
theorem dX3_readPart_99 : decode cX3_readPart 99 = .ok (.iconst 1, 1) := by decide +kernel
theorem dX3_readPart_100 : decode cX3_readPart 100 = .ok (.ireturn, 1) := by decide +kernel
theorem dX3_readTest_0 : decode cX3_readTest 0 = .ok (.aload_n 0, 1) := by decide +kernel
theorem dX3_readTest_1 : decode cX3_readTest 1 = .ok (.aload_n 0, 1) := by decide +kernel
theorem dX3_readTest_2 : decode cX3_readTest 2 = .ok (.getfield 12, 3) := by decide +kernel
theorem dX3_readTest_5 : decode cX3_readTest 5 = .ok (.aload_n 0, 1) := by decide +kernel
theorem dX3_readTest_6 : decode cX3_readTest 6 = .ok (.getfield 25, 3) := by decide +kernel
theorem dX3_readTest_9 : decode cX3_readTest 9 = .ok (.invokevirtual 58, 3) := by decide +kernel
theorem dX3_readTest_12 : decode cX3_readTest 12 = .ok (.invokevirtual 109, 3) := by decide +kernel
theorem dX3_readTest_15 : decode cX3_readTest 15 = .ok (.istore_n 1, 1) := by decide +kernel
theorem dX3_readTest_16 : decode cX3_readTest 16 = .ok (.iload_n 1, 1) := by decide +kernel
theorem dX3_readTest_17 : decode cX3_readTest 17 = .ok (.iconst (-1), 1) := by decide +kernel
theorem dX3_readTest_18 : decode cX3_readTest 18 = .ok (.if_icmp .ne 5, 3) := by decide +kernel
theorem dX3_readTest_21 : decode cX3_readTest 21 = .ok (.iconst 0, 1) := by decide +kernel
theorem dX3_readTest_22 : decode cX3_readTest 22 = .ok (.ireturn, 1) := by decide +kernel
theorem dX3_readTest_23 : decode cX3_readTest 23 = .ok (.aload_n 0, 1) := by decide +kernel
theorem dX3_readTest_24 : decode cX3_readTest 24 = .ok (.dup, 1) := by decide +kernel
theorem dX3_readTest_25 : decode cX3_readTest 25 = .ok (.getfield 25, 3) := by decide +kernel
theorem dX3_readTest_28 : decode cX3_readTest 28 = .ok (.iconst 1, 1) := by decide +kernel
theorem dX3_readTest_29 : decode cX3_readTest 29 = .ok (.iadd, 1) := by decide +kernel
theorem dX3_readTest_30 : decode cX3_readTest 30 = .ok (.putfield 25, 3) := by decide +kernel
theorem dX3_readTest_33 : decode cX3_readTest 33 = .ok (.aload_n 0, 1) := by decide +kernel
theorem dX3_readTest_34 : decode cX3_readTest 34 = .ok (.getfield 12, 3) := by decide +kernel
theorem dX3_readTest_37 : decode cX3_readTest 37 = .ok (.aload_n 0, 1) := by decide +kernel
theorem dX3_readTest_38 : decode cX3_readTest 38 = .ok (.getfield 25, 3) := by decide +kernel
theorem dX3_readTest_41 : decode cX3_readTest 41 = .ok (.invokevirtual 58, 3) := by decide +kernel
theorem dX3_readTest_44 : decode cX3_readTest 44 = .ok (.istore_n 2, 1) := by decide +kernel
theorem dX3_readTest_45 : decode cX3_readTest 45 = .ok (.iload_n 2, 1) := by decide +kernel
theorem dX3_readTest_46 : decode cX3_readTest 46 = .ok (.bipush 60, 2) := by decide +kernel
theorem dX3_readTest_48 : decode cX3_readTest 48 = .ok (.if_icmp .eq 17, 3) := by decide +kernel
theorem dX3_readTest_51 : decode cX3_readTest 51 = .ok (.iload_n 2, 1) := by decide +kernel
theorem dX3_readTest_52 : decode cX3_readTest 52 = .ok (.bipush 61, 2) := by decide +kernel
theorem dX3_readTest_54 : decode cX3_readTest 54 = .ok (.if_icmp .eq 11, 3) := by decide +kernel
theorem dX3_readTest_57 : decode cX3_readTest 57 = .ok (.iload_n 2, 1) := by decide +kernel
theorem dX3_readTest_58 : decode cX3_readTest 58 = .ok (.bipush 62, 2) := by decide +kernel
theorem dX3_readTest_60 : decode cX3_readTest 60 = .ok (.if_icmp .eq 5, 3) := by decide +kernel
theorem dX3_readTest_63 : decode cX3_readTest 63 = .ok (.iconst 0, 1) := by decide +kernel
theorem dX3_readTest_64 : decode cX3_readTest 64 = .ok (.ireturn, 1) := by decide +kernel
theorem dX3_readTest_65 : decode cX3_readTest 65 = .ok (.aload_n 0, 1) := by decide +kernel
theorem dX3_readTest_66 : decode cX3_readTest 66 = .ok (.dup, 1) := by decide +kernel
theorem dX3_readTest_67 : decode cX3_readTest 67 = .ok (.getfield 25, 3) := by decide +kernel
theorem dX3_readTest_70 : decode cX3_readTest 70 = .ok (.iconst 1, 1) := by decide +kernel
theorem dX3_readTest_71 : decode cX3_readTest 71 = .ok (.iadd, 1) := by decide +kernel
theorem dX3_readTest_72 : decode cX3_readTest 72 = .ok (.putfield 25, 3) := by decide +kernel
theorem dX3_readTest_75 : decode cX3_readTest 75 = .ok (.aload_n 0, 1) := by decide +kernel
theorem dX3_readTest_76 : decode cX3_readTest 76 = .ok (.invokevirtual 86, 3) := by decide +kernel
theorem dX3_readTest_79 : decode cX3_readTest 79 = .ok (.ifCond .ne 5, 3) := by decide +kernel
theorem dX3_readTest_82 : decode cX3_readTest 82 = .ok (.iconst 0, 1) := by decide +kernel
theorem dX3_readTest_83 : decode cX3_readTest 83 = .ok (.ireturn, 1) := by decide +kernel
theorem dX3_readTest_84 : decode cX3_readTest 84 = .ok (.iload_n 2, 1) := by decide +kernel
theorem dX3_readTest_85 : decode cX3_readTest 85 = .ok (.bipush 60, 2) := by decide +kernel
theorem dX3_readTest_87 : decode cX3_readTest 87 = .ok (.if_icmp .ne 21, 3) := by decide +kernel
theorem dX3_readTest_90 : decode cX3_readTest 90 = .ok (.aload_n 0, 1) := by decide +kernel
theorem dX3_readTest_91 : decode cX3_readTest 91 = .ok (.getfield 21, 3) := by decide +kernel
theorem dX3_readTest_94 : decode cX3_readTest 94 = .ok (.iload_n 1, 1) := by decide +kernel
theorem dX3_readTest_95 : decode cX3_readTest 95 = .ok (.iconst 0, 1) := by decide +kernel
theorem dX3_readTest_96 : decode cX3_readTest 96 = .ok (.aload_n 0, 1) := by decide +kernel
theorem dX3_readTest_97 : decode cX3_readTest 97 = .ok (.getfield 29, 3) := by decide +kernel
theorem dX3_readTest_100 : decode cX3_readTest 100 = .ok (.iconst 1, 1) := by decide +kernel
theorem dX3_readTest_101 : decode cX3_readTest 101 = .ok (.isub, 1) := by decide +kernel
theorem dX3_readTest_102 : decode cX3_readTest 102 = .ok (.invokevirtual 102, 3) := by decide +kernel
theorem dX3_readTest_105 : decode cX3_readTest 105 = .ok (.goto 44, 3) := by decide +kernel
theorem dX3_readTest_108 : decode cX3_readTest 108 = .ok (.iload_n 2, 1) := by decide +kernel
theorem dX3_readTest_109 : decode cX3_readTest 109 = .ok (.bipush 61, 2) := by decide +kernel
theorem dX3_readTest_111 : decode cX3_readTest 111 = .ok (.if_icmp .ne 22, 3) := by decide +kernel
theorem dX3_readTest_114 : decode cX3_readTest 114 = .ok (.aload_n 0, 1) := by decide +kernel
theorem dX3_readTest_115 : decode cX3_readTest 115 = .ok (.getfield 21, 3) := by decide +kernel
theorem dX3_readTest_118 : decode cX3_readTest 118 = .ok (.iload_n 1, 1) := by decide +kernel
theorem dX3_readTest_119 : decode cX3_readTest 119 = .ok (.aload_n 0, 1) := by decide +kernel
theorem dX3_readTest_120 : decode cX3_readTest 120 = .ok (.getfield 29, 3) := by decide +kernel
theorem dX3_readTest_123 : decode cX3_readTest 123 = .ok (.aload_n 0, 1) := by decide +kernel
theorem dX3_readTest_124 : decode cX3_readTest 124 = .ok (.getfield 29, 3) := by decide +kernel
theorem dX3_readTest_127 : decode cX3_readTest 127 = .ok (.invokevirtual 102, 3) := by decide +kernel
theorem dX3_readTest_130 : decode cX3_readTest 130 = .ok (.goto 19, 3) := by decide +kernel
theorem dX3_readTest_133 : decode cX3_readTest 133 = .ok (.aload_n 0, 1) := by decide +kernel
theorem dX3_readTest_134 : decode cX3_readTest 134 = .ok (.getfield 21, 3) := by decide +kernel
theorem dX3_readTest_137 : decode cX3_readTest 137 = .ok (.iload_n 1, 1) := by decide +kernel
theorem dX3_readTest_138 : decode cX3_readTest 138 = .ok (.aload_n 0, 1) := by decide +kernel
theorem dX3_readTest_139 : decode cX3_readTest 139 = .ok (.getfield 29, 3) := by decide +kernel
theorem dX3_readTest_142 : decode cX3_readTest 142 = .ok (.iconst 1, 1) := by decide +kernel
theorem dX3_readTest_143 : decode cX3_readTest 143 = .ok (.iadd, 1) := by decide +kernel
theorem dX3_readTest_144 : decode cX3_readTest 144 = .ok (.bipush 99, 2) := by decide +kernel
theorem dX3_readTest_146 : decode cX3_readTest 146 = .ok (.invokevirtual 102, 3) := by decide +kernel
theorem dX3_readTest_149 : decode cX3_readTest 149 = .ok (.iconst 1, 1) := by decide +kernel
theorem dX3_readTest_150 : decode cX3_readTest 150 = .ok (.ireturn, 1) := by decide +kernel
theorem dX3_factOf_0 : decode cX3_factOf 0 = .ok (.iload_n 1, 1) := by decide +kernel
theorem dX3_factOf_1 : decode cX3_factOf 1 = .ok (.tableswitch 77 100 112 #[75, 77, 77, 77, 77, 77, 77, 71, 77, 77, 73, 69, 67], 67) := by decide +kernel
theorem dX3_factOf_68 : decode cX3_factOf 68 = .ok (.iconst 0, 1) := by decide +kernel
theorem dX3_factOf_69 : decode cX3_factOf 69 = .ok (.ireturn, 1) := by decide +kernel
theorem dX3_factOf_70 : decode cX3_factOf 70 = .ok (.iconst 1, 1) := by decide +kernel
theorem dX3_factOf_71 : decode cX3_factOf 71 = .ok (.ireturn, 1) := by decide +kernel
theorem dX3_factOf_72 : decode cX3_factOf 72 = .ok (.iconst 2, 1) := by decide +kernel
theorem dX3_factOf_73 : decode cX3_factOf 73 = .ok (.ireturn, 1) := by decide +kernel
theorem dX3_factOf_74 : decode cX3_factOf 74 = .ok (.iconst 3, 1) := by decide +kernel
theorem dX3_factOf_75 : decode cX3_factOf 75 = .ok (.ireturn, 1) := by decide +kernel
theorem dX3_factOf_76 : decode cX3_factOf 76 = .ok (.iconst 4, 1) := by decide +kernel
theorem dX3_factOf_77 : decode cX3_factOf 77 = .ok (.ireturn, 1) := by decide +kernel
theorem dX3_factOf_78 : decode cX3_factOf 78 = .ok (.iconst (-1), 1) := by decide +kernel
theorem dX3_factOf_79 : decode cX3_factOf 79 = .ok (.ireturn, 1) := by decide +kernel
theorem dX3_readNumber_0 : decode cX3_readNumber 0 = .ok (.aload_n 0, 1) := by decide +kernel
theorem dX3_readNumber_1 : decode cX3_readNumber 1 = .ok (.getfield 12, 3) := by decide +kernel
theorem dX3_readNumber_4 : decode cX3_readNumber 4 = .ok (.aload_n 0, 1) := by decide +kernel
theorem dX3_readNumber_5 : decode cX3_readNumber 5 = .ok (.getfield 25, 3) := by decide +kernel
theorem dX3_readNumber_8 : decode cX3_readNumber 8 = .ok (.invokevirtual 58, 3) := by decide +kernel
theorem dX3_readNumber_11 : decode cX3_readNumber 11 = .ok (.istore_n 1, 1) := by decide +kernel
theorem dX3_readNumber_12 : decode cX3_readNumber 12 = .ok (.iload_n 1, 1) := by decide +kernel
theorem dX3_readNumber_13 : decode cX3_readNumber 13 = .ok (.bipush 48, 2) := by decide +kernel
theorem dX3_readNumber_15 : decode cX3_readNumber 15 = .ok (.if_icmp .lt 9, 3) := by decide +kernel
theorem dX3_readNumber_18 : decode cX3_readNumber 18 = .ok (.iload_n 1, 1) := by decide +kernel
theorem dX3_readNumber_19 : decode cX3_readNumber 19 = .ok (.bipush 57, 2) := by decide +kernel
theorem dX3_readNumber_21 : decode cX3_readNumber 21 = .ok (.if_icmp .le 5, 3) := by decide +kernel
theorem dX3_readNumber_24 : decode cX3_readNumber 24 = .ok (.iconst 0, 1) := by decide +kernel
theorem dX3_readNumber_25 : decode cX3_readNumber 25 = .ok (.ireturn, 1) := by decide +kernel
theorem dX3_readNumber_26 : decode cX3_readNumber 26 = .ok (.aload_n 0, 1) := by decide +kernel
theorem dX3_readNumber_27 : decode cX3_readNumber 27 = .ok (.dup, 1) := by decide +kernel
theorem dX3_readNumber_28 : decode cX3_readNumber 28 = .ok (.getfield 25, 3) := by decide +kernel
theorem dX3_readNumber_31 : decode cX3_readNumber 31 = .ok (.iconst 1, 1) := by decide +kernel
theorem dX3_readNumber_32 : decode cX3_readNumber 32 = .ok (.iadd, 1) := by decide +kernel
theorem dX3_readNumber_33 : decode cX3_readNumber 33 = .ok (.putfield 25, 3) := by decide +kernel
theorem dX3_readNumber_36 : decode cX3_readNumber 36 = .ok (.aload_n 0, 1) := by decide +kernel
theorem dX3_readNumber_37 : decode cX3_readNumber 37 = .ok (.iload_n 1, 1) := by decide +kernel
theorem dX3_readNumber_38 : decode cX3_readNumber 38 = .ok (.bipush 48, 2) := by decide +kernel
theorem dX3_readNumber_40 : decode cX3_readNumber 40 = .ok (.isub, 1) := by decide +kernel
theorem dX3_readNumber_41 : decode cX3_readNumber 41 = .ok (.putfield 29, 3) := by decide +kernel
theorem dX3_readNumber_44 : decode cX3_readNumber 44 = .ok (.aload_n 0, 1) := by decide +kernel
theorem dX3_readNumber_45 : decode cX3_readNumber 45 = .ok (.getfield 12, 3) := by decide +kernel
theorem dX3_readNumber_48 : decode cX3_readNumber 48 = .ok (.aload_n 0, 1) := by decide +kernel
theorem dX3_readNumber_49 : decode cX3_readNumber 49 = .ok (.getfield 25, 3) := by decide +kernel
theorem dX3_readNumber_52 : decode cX3_readNumber 52 = .ok (.invokevirtual 58, 3) := by decide +kernel
theorem dX3_readNumber_55 : decode cX3_readNumber 55 = .ok (.istore_n 2, 1) := by decide +kernel
theorem dX3_readNumber_56 : decode cX3_readNumber 56 = .ok (.aload_n 0, 1) := by decide +kernel
theorem dX3_readNumber_57 : decode cX3_readNumber 57 = .ok (.getfield 29, 3) := by decide +kernel
theorem dX3_readNumber_60 : decode cX3_readNumber 60 = .ok (.ifCond .eq 41, 3) := by decide +kernel
theorem dX3_readNumber_63 : decode cX3_readNumber 63 = .ok (.iload_n 2, 1) := by decide +kernel
theorem dX3_readNumber_64 : decode cX3_readNumber 64 = .ok (.bipush 48, 2) := by decide +kernel
theorem dX3_readNumber_66 : decode cX3_readNumber 66 = .ok (.if_icmp .lt 35, 3) := by decide +kernel
theorem dX3_readNumber_69 : decode cX3_readNumber 69 = .ok (.iload_n 2, 1) := by decide +kernel
theorem dX3_readNumber_70 : decode cX3_readNumber 70 = .ok (.bipush 57, 2) := by decide +kernel
theorem dX3_readNumber_72 : decode cX3_readNumber 72 = .ok (.if_icmp .gt 29, 3) := by decide +kernel
theorem dX3_readNumber_75 : decode cX3_readNumber 75 = .ok (.aload_n 0, 1) := by decide +kernel
theorem dX3_readNumber_76 : decode cX3_readNumber 76 = .ok (.dup, 1) := by decide +kernel
theorem dX3_readNumber_77 : decode cX3_readNumber 77 = .ok (.getfield 25, 3) := by decide +kernel
theorem dX3_readNumber_80 : decode cX3_readNumber 80 = .ok (.iconst 1, 1) := by decide +kernel
theorem dX3_readNumber_81 : decode cX3_readNumber 81 = .ok (.iadd, 1) := by decide +kernel
theorem dX3_readNumber_82 : decode cX3_readNumber 82 = .ok (.putfield 25, 3) := by decide +kernel
theorem dX3_readNumber_85 : decode cX3_readNumber 85 = .ok (.aload_n 0, 1) := by decide +kernel
theorem dX3_readNumber_86 : decode cX3_readNumber 86 = .ok (.bipush 10, 2) := by decide +kernel
theorem dX3_readNumber_88 : decode cX3_readNumber 88 = .ok (.aload_n 0, 1) := by decide +kernel
theorem dX3_readNumber_89 : decode cX3_readNumber 89 = .ok (.getfield 29, 3) := by decide +kernel
theorem dX3_readNumber_92 : decode cX3_readNumber 92 = .ok (.imul, 1) := by decide +kernel
theorem dX3_readNumber_93 : decode cX3_readNumber 93 = .ok (.iload_n 2, 1) := by decide +kernel
theorem dX3_readNumber_94 : decode cX3_readNumber 94 = .ok (.iadd, 1) := by decide +kernel
theorem dX3_readNumber_95 : decode cX3_readNumber 95 = .ok (.bipush 48, 2) := by decide +kernel
theorem dX3_readNumber_97 : decode cX3_readNumber 97 = .ok (.isub, 1) := by decide +kernel
theorem dX3_readNumber_98 : decode cX3_readNumber 98 = .ok (.putfield 29, 3) := by decide +kernel
theorem dX3_readNumber_101 : decode cX3_readNumber 101 = .ok (.iconst 1, 1) := by decide +kernel
theorem dX3_readNumber_102 : decode cX3_readNumber 102 = .ok (.ireturn, 1) := by decide +kernel
theorem dX3_readWord_0 : decode cX3_readWord 0 = .ok (.iconst 0, 1) := by decide +kernel
theorem dX3_readWord_1 : decode cX3_readWord 1 = .ok (.istore_n 2, 1) := by decide +kernel
theorem dX3_readWord_2 : decode cX3_readWord 2 = .ok (.iload_n 2, 1) := by decide +kernel
theorem dX3_readWord_3 : decode cX3_readWord 3 = .ok (.aload_n 1, 1) := by decide +kernel
theorem dX3_readWord_4 : decode cX3_readWord 4 = .ok (.invokevirtual 112, 3) := by decide +kernel
theorem dX3_readWord_7 : decode cX3_readWord 7 = .ok (.if_icmp .ge 23, 3) := by decide +kernel
theorem dX3_readWord_10 : decode cX3_readWord 10 = .ok (.aload_n 0, 1) := by decide +kernel
theorem dX3_readWord_11 : decode cX3_readWord 11 = .ok (.aload_n 1, 1) := by decide +kernel
theorem dX3_readWord_12 : decode cX3_readWord 12 = .ok (.iload_n 2, 1) := by decide +kernel
theorem dX3_readWord_13 : decode cX3_readWord 13 = .ok (.invokevirtual 118, 3) := by decide +kernel
theorem dX3_readWord_16 : decode cX3_readWord 16 = .ok (.invokevirtual 54, 3) := by decide +kernel
theorem dX3_readWord_19 : decode cX3_readWord 19 = .ok (.ifCond .ne 5, 3) := by decide +kernel
theorem dX3_readWord_22 : decode cX3_readWord 22 = .ok (.iconst 0, 1) := by decide +kernel
theorem dX3_readWord_23 : decode cX3_readWord 23 = .ok (.ireturn, 1) := by decide +kernel
theorem dX3_readWord_24 : decode cX3_readWord 24 = .ok (.iinc 2 1, 3) := by decide +kernel
theorem dX3_readWord_27 : decode cX3_readWord 27 = .ok (.goto (-25), 3) := by decide +kernel
theorem dX3_readWord_30 : decode cX3_readWord 30 = .ok (.iconst 1, 1) := by decide +kernel
theorem dX3_readWord_31 : decode cX3_readWord 31 = .ok (.ireturn, 1) := by decide +kernel
theorem dX3_skip_0 : decode cX3_skip 0 = .ok (.aload_n 0, 1) := by decide +kernel
theorem dX3_skip_1 : decode cX3_skip 1 = .ok (.getfield 12, 3) := by decide +kernel
theorem dX3_skip_4 : decode cX3_skip 4 = .ok (.aload_n 0, 1) := by decide +kernel
theorem dX3_skip_5 : decode cX3_skip 5 = .ok (.getfield 25, 3) := by decide +kernel
theorem dX3_skip_8 : decode cX3_skip 8 = .ok (.invokevirtual 58, 3) := by decide +kernel
theorem dX3_skip_11 : decode cX3_skip 11 = .ok (.iload_n 1, 1) := by decide +kernel
theorem dX3_skip_12 : decode cX3_skip 12 = .ok (.if_icmp .eq 5, 3) := by decide +kernel
theorem dX3_skip_15 : decode cX3_skip 15 = .ok (.iconst 0, 1) := by decide +kernel
theorem dX3_skip_16 : decode cX3_skip 16 = .ok (.ireturn, 1) := by decide +kernel
theorem dX3_skip_17 : decode cX3_skip 17 = .ok (.aload_n 0, 1) := by decide +kernel
theorem dX3_skip_18 : decode cX3_skip 18 = .ok (.dup, 1) := by decide +kernel
theorem dX3_skip_19 : decode cX3_skip 19 = .ok (.getfield 25, 3) := by decide +kernel
theorem dX3_skip_22 : decode cX3_skip 22 = .ok (.iconst 1, 1) := by decide +kernel
theorem dX3_skip_23 : decode cX3_skip 23 = .ok (.iadd, 1) := by decide +kernel
theorem dX3_skip_24 : decode cX3_skip 24 = .ok (.putfield 25, 3) := by decide +kernel
theorem dX3_skip_27 : decode cX3_skip 27 = .ok (.iconst 1, 1) := by decide +kernel
theorem dX3_skip_28 : decode cX3_skip 28 = .ok (.ireturn, 1) := by decide +kernel
theorem dX4_init_0 : decode cX4_init 0 = .ok (.aload_n 0, 1) := by decide +kernel
theorem dX4_init_1 : decode cX4_init 1 = .ok (.invokespecial 1, 3) := by decide +kernel
theorem dX4_init_4 : decode cX4_init 4 = .ok (.aload_n 0, 1) := by decide +kernel
theorem dX4_init_5 : decode cX4_init 5 = .ok (.iconst 0, 1) := by decide +kernel
theorem dX4_init_6 : decode cX4_init 6 = .ok (.putfield 7, 3) := by decide +kernel
theorem dX4_init_9 : decode cX4_init 9 = .ok (.aload_n 0, 1) := by decide +kernel
theorem dX4_init_10 : decode cX4_init 10 = .ok (.iconst 0, 1) := by decide +kernel
theorem dX4_init_11 : decode cX4_init 11 = .ok (.iload_n 1, 1) := by decide +kernel
theorem dX4_init_12 : decode cX4_init 12 = .ok (.invokestatic 13, 3) := by decide +kernel
theorem dX4_init_15 : decode cX4_init 15 = .ok (.newarray .int, 2) := by decide +kernel
theorem dX4_init_17 : decode cX4_init 17 = .ok (.putfield 19, 3) := by decide +kernel
theorem dX4_init_20 : decode cX4_init 20 = .ok (.aload_n 0, 1) := by decide +kernel
theorem dX4_init_21 : decode cX4_init 21 = .ok (.iconst 0, 1) := by decide +kernel
theorem dX4_init_22 : decode cX4_init 22 = .ok (.iload_n 1, 1) := by decide +kernel
theorem dX4_init_23 : decode cX4_init 23 = .ok (.invokestatic 13, 3) := by decide +kernel
theorem dX4_init_26 : decode cX4_init 26 = .ok (.newarray .int, 2) := by decide +kernel
theorem dX4_init_28 : decode cX4_init 28 = .ok (.putfield 23, 3) := by decide +kernel
theorem dX4_init_31 : decode cX4_init 31 = .ok (.return_, 1) := by decide +kernel
theorem dX4_add_0 : decode cX4_add 0 = .ok (.aload_n 0, 1) := by decide +kernel
theorem dX4_add_1 : decode cX4_add 1 = .ok (.getfield 7, 3) := by decide +kernel
theorem dX4_add_4 : decode cX4_add 4 = .ok (.aload_n 0, 1) := by decide +kernel
theorem dX4_add_5 : decode cX4_add 5 = .ok (.getfield 19, 3) := by decide +kernel
theorem dX4_add_8 : decode cX4_add 8 = .ok (.arraylength, 1) := by decide +kernel
theorem dX4_add_9 : decode cX4_add 9 = .ok (.if_icmp .ge 15, 3) := by decide +kernel
theorem dX4_add_12 : decode cX4_add 12 = .ok (.aload_n 0, 1) := by decide +kernel
theorem dX4_add_13 : decode cX4_add 13 = .ok (.getfield 7, 3) := by decide +kernel
theorem dX4_add_16 : decode cX4_add 16 = .ok (.aload_n 0, 1) := by decide +kernel
theorem dX4_add_17 : decode cX4_add 17 = .ok (.getfield 23, 3) := by decide +kernel
theorem dX4_add_20 : decode cX4_add 20 = .ok (.arraylength, 1) := by decide +kernel
theorem dX4_add_21 : decode cX4_add 21 = .ok (.if_icmp .lt 5, 3) := by decide +kernel
theorem dX4_add_24 : decode cX4_add 24 = .ok (.iconst 0, 1) := by decide +kernel
theorem dX4_add_25 : decode cX4_add 25 = .ok (.ireturn, 1) := by decide +kernel
theorem dX4_add_26 : decode cX4_add 26 = .ok (.aload_n 0, 1) := by decide +kernel
theorem dX4_add_27 : decode cX4_add 27 = .ok (.getfield 19, 3) := by decide +kernel
theorem dX4_add_30 : decode cX4_add 30 = .ok (.aload_n 0, 1) := by decide +kernel
theorem dX4_add_31 : decode cX4_add 31 = .ok (.getfield 7, 3) := by decide +kernel
theorem dX4_add_34 : decode cX4_add 34 = .ok (.iload_n 1, 1) := by decide +kernel
theorem dX4_add_35 : decode cX4_add 35 = .ok (.iastore, 1) := by decide +kernel
theorem dX4_add_36 : decode cX4_add 36 = .ok (.aload_n 0, 1) := by decide +kernel
theorem dX4_add_37 : decode cX4_add 37 = .ok (.getfield 23, 3) := by decide +kernel
theorem dX4_add_40 : decode cX4_add 40 = .ok (.aload_n 0, 1) := by decide +kernel
theorem dX4_add_41 : decode cX4_add 41 = .ok (.getfield 7, 3) := by decide +kernel
theorem dX4_add_44 : decode cX4_add 44 = .ok (.iload_n 2, 1) := by decide +kernel
theorem dX4_add_45 : decode cX4_add 45 = .ok (.iastore, 1) := by decide +kernel
theorem dX4_add_46 : decode cX4_add 46 = .ok (.aload_n 0, 1) := by decide +kernel
theorem dX4_add_47 : decode cX4_add 47 = .ok (.dup, 1) := by decide +kernel
theorem dX4_add_48 : decode cX4_add 48 = .ok (.getfield 7, 3) := by decide +kernel
theorem dX4_add_51 : decode cX4_add 51 = .ok (.iconst 1, 1) := by decide +kernel
theorem dX4_add_52 : decode cX4_add 52 = .ok (.iadd, 1) := by decide +kernel
theorem dX4_add_53 : decode cX4_add 53 = .ok (.putfield 7, 3) := by decide +kernel
theorem dX4_add_56 : decode cX4_add 56 = .ok (.iconst 1, 1) := by decide +kernel
theorem dX4_add_57 : decode cX4_add 57 = .ok (.ireturn, 1) := by decide +kernel
theorem dX4_copyFrom_0 : decode cX4_copyFrom 0 = .ok (.aload_n 0, 1) := by decide +kernel
theorem dX4_copyFrom_1 : decode cX4_copyFrom 1 = .ok (.iconst 0, 1) := by decide +kernel
theorem dX4_copyFrom_2 : decode cX4_copyFrom 2 = .ok (.putfield 7, 3) := by decide +kernel
theorem dX4_copyFrom_5 : decode cX4_copyFrom 5 = .ok (.iconst 0, 1) := by decide +kernel
theorem dX4_copyFrom_6 : decode cX4_copyFrom 6 = .ok (.istore_n 2, 1) := by decide +kernel
theorem dX4_copyFrom_7 : decode cX4_copyFrom 7 = .ok (.iload_n 2, 1) := by decide +kernel
theorem dX4_copyFrom_8 : decode cX4_copyFrom 8 = .ok (.aload_n 1, 1) := by decide +kernel
theorem dX4_copyFrom_9 : decode cX4_copyFrom 9 = .ok (.getfield 7, 3) := by decide +kernel
theorem dX4_copyFrom_12 : decode cX4_copyFrom 12 = .ok (.if_icmp .ge 26, 3) := by decide +kernel
theorem dX4_copyFrom_15 : decode cX4_copyFrom 15 = .ok (.aload_n 0, 1) := by decide +kernel
theorem dX4_copyFrom_16 : decode cX4_copyFrom 16 = .ok (.aload_n 1, 1) := by decide +kernel
theorem dX4_copyFrom_17 : decode cX4_copyFrom 17 = .ok (.getfield 19, 3) := by decide +kernel
theorem dX4_copyFrom_20 : decode cX4_copyFrom 20 = .ok (.iload_n 2, 1) := by decide +kernel
theorem dX4_copyFrom_21 : decode cX4_copyFrom 21 = .ok (.iaload, 1) := by decide +kernel
theorem dX4_copyFrom_22 : decode cX4_copyFrom 22 = .ok (.aload_n 1, 1) := by decide +kernel
theorem dX4_copyFrom_23 : decode cX4_copyFrom 23 = .ok (.getfield 23, 3) := by decide +kernel
theorem dX4_copyFrom_26 : decode cX4_copyFrom 26 = .ok (.iload_n 2, 1) := by decide +kernel
theorem dX4_copyFrom_27 : decode cX4_copyFrom 27 = .ok (.iaload, 1) := by decide +kernel
theorem dX4_copyFrom_28 : decode cX4_copyFrom 28 = .ok (.invokevirtual 26, 3) := by decide +kernel
theorem dX4_copyFrom_31 : decode cX4_copyFrom 31 = .ok (.pop, 1) := by decide +kernel
theorem dX4_copyFrom_32 : decode cX4_copyFrom 32 = .ok (.iinc 2 1, 3) := by decide +kernel
theorem dX4_copyFrom_35 : decode cX4_copyFrom 35 = .ok (.goto (-28), 3) := by decide +kernel
theorem dX4_copyFrom_38 : decode cX4_copyFrom 38 = .ok (.return_, 1) := by decide +kernel
theorem dX5_init_0 : decode cX5_init 0 = .ok (.aload_n 0, 1) := by decide +kernel
theorem dX5_init_1 : decode cX5_init 1 = .ok (.invokespecial 3, 3) := by decide +kernel
theorem dX5_init_4 : decode cX5_init 4 = .ok (.aload_n 0, 1) := by decide +kernel
theorem dX5_init_5 : decode cX5_init 5 = .ok (.new 9, 3) := by decide +kernel
theorem dX5_init_8 : decode cX5_init 8 = .ok (.dup, 1) := by decide +kernel
theorem dX5_init_9 : decode cX5_init 9 = .ok (.invokespecial 11, 3) := by decide +kernel
theorem dX5_init_12 : decode cX5_init 12 = .ok (.putfield 12, 3) := by decide +kernel
theorem dX5_init_15 : decode cX5_init 15 = .ok (.aload_n 0, 1) := by decide +kernel
theorem dX5_init_16 : decode cX5_init 16 = .ok (.new 18, 3) := by decide +kernel
theorem dX5_init_19 : decode cX5_init 19 = .ok (.dup, 1) := by decide +kernel
theorem dX5_init_20 : decode cX5_init 20 = .ok (.invokespecial 20, 3) := by decide +kernel
theorem dX5_init_23 : decode cX5_init 23 = .ok (.putfield 21, 3) := by decide +kernel
theorem dX5_init_26 : decode cX5_init 26 = .ok (.aload_n 0, 1) := by decide +kernel
theorem dX5_init_27 : decode cX5_init 27 = .ok (.iconst 0, 1) := by decide +kernel
theorem dX5_init_28 : decode cX5_init 28 = .ok (.putfield 25, 3) := by decide +kernel
theorem dX5_init_31 : decode cX5_init 31 = .ok (.aload_n 0, 1) := by decide +kernel
theorem dX5_init_32 : decode cX5_init 32 = .ok (.new 29, 3) := by decide +kernel
theorem dX5_init_35 : decode cX5_init 35 = .ok (.dup, 1) := by decide +kernel
theorem dX5_init_36 : decode cX5_init 36 = .ok (.invokespecial 31, 3) := by decide +kernel
theorem dX5_init_39 : decode cX5_init 39 = .ok (.putfield 32, 3) := by decide +kernel
theorem dX5_init_42 : decode cX5_init 42 = .ok (.aload_n 0, 1) := by decide +kernel
theorem dX5_init_43 : decode cX5_init 43 = .ok (.new 36, 3) := by decide +kernel
theorem dX5_init_46 : decode cX5_init 46 = .ok (.dup, 1) := by decide +kernel
theorem dX5_init_47 : decode cX5_init 47 = .ok (.invokespecial 38, 3) := by decide +kernel
theorem dX5_init_50 : decode cX5_init 50 = .ok (.putfield 39, 3) := by decide +kernel
theorem dX5_init_53 : decode cX5_init 53 = .ok (.aload_n 0, 1) := by decide +kernel
theorem dX5_init_54 : decode cX5_init 54 = .ok (.new 43, 3) := by decide +kernel
theorem dX5_init_57 : decode cX5_init 57 = .ok (.dup, 1) := by decide +kernel
theorem dX5_init_58 : decode cX5_init 58 = .ok (.bipush 6, 2) := by decide +kernel
theorem dX5_init_60 : decode cX5_init 60 = .ok (.invokespecial 45, 3) := by decide +kernel
theorem dX5_init_63 : decode cX5_init 63 = .ok (.putfield 48, 3) := by decide +kernel
theorem dX5_init_66 : decode cX5_init 66 = .ok (.aload_n 0, 1) := by decide +kernel
theorem dX5_init_67 : decode cX5_init 67 = .ok (.new 43, 3) := by decide +kernel
theorem dX5_init_70 : decode cX5_init 70 = .ok (.dup, 1) := by decide +kernel
theorem dX5_init_71 : decode cX5_init 71 = .ok (.bipush 8, 2) := by decide +kernel
theorem dX5_init_73 : decode cX5_init 73 = .ok (.invokespecial 45, 3) := by decide +kernel
theorem dX5_init_76 : decode cX5_init 76 = .ok (.putfield 52, 3) := by decide +kernel
theorem dX5_init_79 : decode cX5_init 79 = .ok (.return_, 1) := by decide +kernel
theorem dX5_copyFrom_0 : decode cX5_copyFrom 0 = .ok (.aload_n 0, 1) := by decide +kernel
theorem dX5_copyFrom_1 : decode cX5_copyFrom 1 = .ok (.getfield 12, 3) := by decide +kernel
theorem dX5_copyFrom_4 : decode cX5_copyFrom 4 = .ok (.aload_n 1, 1) := by decide +kernel
theorem dX5_copyFrom_5 : decode cX5_copyFrom 5 = .ok (.getfield 12, 3) := by decide +kernel
theorem dX5_copyFrom_8 : decode cX5_copyFrom 8 = .ok (.invokevirtual 55, 3) := by decide +kernel
theorem dX5_copyFrom_11 : decode cX5_copyFrom 11 = .ok (.aload_n 0, 1) := by decide +kernel
theorem dX5_copyFrom_12 : decode cX5_copyFrom 12 = .ok (.getfield 21, 3) := by decide +kernel
theorem dX5_copyFrom_15 : decode cX5_copyFrom 15 = .ok (.aload_n 1, 1) := by decide +kernel
theorem dX5_copyFrom_16 : decode cX5_copyFrom 16 = .ok (.getfield 21, 3) := by decide +kernel
theorem dX5_copyFrom_19 : decode cX5_copyFrom 19 = .ok (.invokevirtual 59, 3) := by decide +kernel
theorem dX5_copyFrom_22 : decode cX5_copyFrom 22 = .ok (.aload_n 0, 1) := by decide +kernel
theorem dX5_copyFrom_23 : decode cX5_copyFrom 23 = .ok (.aload_n 1, 1) := by decide +kernel
theorem dX5_copyFrom_24 : decode cX5_copyFrom 24 = .ok (.getfield 25, 3) := by decide +kernel
theorem dX5_copyFrom_27 : decode cX5_copyFrom 27 = .ok (.putfield 25, 3) := by decide +kernel
theorem dX5_copyFrom_30 : decode cX5_copyFrom 30 = .ok (.aload_n 0, 1) := by decide +kernel
theorem dX5_copyFrom_31 : decode cX5_copyFrom 31 = .ok (.getfield 32, 3) := by decide +kernel
theorem dX5_copyFrom_34 : decode cX5_copyFrom 34 = .ok (.aload_n 1, 1) := by decide +kernel
theorem dX5_copyFrom_35 : decode cX5_copyFrom 35 = .ok (.getfield 32, 3) := by decide +kernel
theorem dX5_copyFrom_38 : decode cX5_copyFrom 38 = .ok (.invokevirtual 62, 3) := by decide +kernel
theorem dX5_copyFrom_41 : decode cX5_copyFrom 41 = .ok (.aload_n 0, 1) := by decide +kernel
theorem dX5_copyFrom_42 : decode cX5_copyFrom 42 = .ok (.getfield 39, 3) := by decide +kernel
theorem dX5_copyFrom_45 : decode cX5_copyFrom 45 = .ok (.aload_n 1, 1) := by decide +kernel
theorem dX5_copyFrom_46 : decode cX5_copyFrom 46 = .ok (.getfield 39, 3) := by decide +kernel
theorem dX5_copyFrom_49 : decode cX5_copyFrom 49 = .ok (.invokevirtual 65, 3) := by decide +kernel
theorem dX5_copyFrom_52 : decode cX5_copyFrom 52 = .ok (.aload_n 0, 1) := by decide +kernel
theorem dX5_copyFrom_53 : decode cX5_copyFrom 53 = .ok (.getfield 48, 3) := by decide +kernel
theorem dX5_copyFrom_56 : decode cX5_copyFrom 56 = .ok (.aload_n 1, 1) := by decide +kernel
theorem dX5_copyFrom_57 : decode cX5_copyFrom 57 = .ok (.getfield 48, 3) := by decide +kernel
theorem dX5_copyFrom_60 : decode cX5_copyFrom 60 = .ok (.invokevirtual 68, 3) := by decide +kernel
theorem dX5_copyFrom_63 : decode cX5_copyFrom 63 = .ok (.aload_n 0, 1) := by decide +kernel
theorem dX5_copyFrom_64 : decode cX5_copyFrom 64 = .ok (.getfield 52, 3) := by decide +kernel
theorem dX5_copyFrom_67 : decode cX5_copyFrom 67 = .ok (.aload_n 1, 1) := by decide +kernel
theorem dX5_copyFrom_68 : decode cX5_copyFrom 68 = .ok (.getfield 52, 3) := by decide +kernel
theorem dX5_copyFrom_71 : decode cX5_copyFrom 71 = .ok (.invokevirtual 68, 3) := by decide +kernel
theorem dX5_copyFrom_74 : decode cX5_copyFrom 74 = .ok (.return_, 1) := by decide +kernel
theorem dX6_init_0 : decode cX6_init 0 = .ok (.aload_n 0, 1) := by decide +kernel
theorem dX6_init_1 : decode cX6_init 1 = .ok (.invokespecial 3, 3) := by decide +kernel
theorem dX6_init_4 : decode cX6_init 4 = .ok (.aload_n 0, 1) := by decide +kernel
theorem dX6_init_5 : decode cX6_init 5 = .ok (.bipush 100, 2) := by decide +kernel
theorem dX6_init_7 : decode cX6_init 7 = .ok (.newarray .int, 2) := by decide +kernel
theorem dX6_init_9 : decode cX6_init 9 = .ok (.putfield 9, 3) := by decide +kernel
theorem dX6_init_12 : decode cX6_init 12 = .ok (.aload_n 0, 1) := by decide +kernel
theorem dX6_init_13 : decode cX6_init 13 = .ok (.iconst 0, 1) := by decide +kernel
theorem dX6_init_14 : decode cX6_init 14 = .ok (.putfield 15, 3) := by decide +kernel
theorem dX6_init_17 : decode cX6_init 17 = .ok (.return_, 1) := by decide +kernel
theorem dX6_add_0 : decode cX6_add 0 = .ok (.aload_n 0, 1) := by decide +kernel
theorem dX6_add_1 : decode cX6_add 1 = .ok (.getfield 15, 3) := by decide +kernel
theorem dX6_add_4 : decode cX6_add 4 = .ok (.bipush 100, 2) := by decide +kernel
theorem dX6_add_6 : decode cX6_add 6 = .ok (.if_icmp .lt 5, 3) := by decide +kernel
theorem dX6_add_9 : decode cX6_add 9 = .ok (.iconst 0, 1) := by decide +kernel
theorem dX6_add_10 : decode cX6_add 10 = .ok (.ireturn, 1) := by decide +kernel
theorem dX6_add_11 : decode cX6_add 11 = .ok (.aload_n 0, 1) := by decide +kernel
theorem dX6_add_12 : decode cX6_add 12 = .ok (.getfield 9, 3) := by decide +kernel
theorem dX6_add_15 : decode cX6_add 15 = .ok (.aload_n 0, 1) := by decide +kernel
theorem dX6_add_16 : decode cX6_add 16 = .ok (.getfield 15, 3) := by decide +kernel
theorem dX6_add_19 : decode cX6_add 19 = .ok (.iload_n 1, 1) := by decide +kernel
theorem dX6_add_20 : decode cX6_add 20 = .ok (.iastore, 1) := by decide +kernel
theorem dX6_add_21 : decode cX6_add 21 = .ok (.aload_n 0, 1) := by decide +kernel
theorem dX6_add_22 : decode cX6_add 22 = .ok (.dup, 1) := by decide +kernel
theorem dX6_add_23 : decode cX6_add 23 = .ok (.getfield 15, 3) := by decide +kernel
theorem dX6_add_26 : decode cX6_add 26 = .ok (.iconst 1, 1) := by decide +kernel
theorem dX6_add_27 : decode cX6_add 27 = .ok (.iadd, 1) := by decide +kernel
theorem dX6_add_28 : decode cX6_add 28 = .ok (.putfield 15, 3) := by decide +kernel
theorem dX6_add_31 : decode cX6_add 31 = .ok (.iconst 1, 1) := by decide +kernel
theorem dX6_add_32 : decode cX6_add 32 = .ok (.ireturn, 1) := by decide +kernel
theorem dX6_at_0 : decode cX6_at 0 = .ok (.iload_n 1, 1) := by decide +kernel
theorem dX6_at_1 : decode cX6_at 1 = .ok (.ifCond .lt 20, 3) := by decide +kernel
theorem dX6_at_4 : decode cX6_at 4 = .ok (.iload_n 1, 1) := by decide +kernel
theorem dX6_at_5 : decode cX6_at 5 = .ok (.aload_n 0, 1) := by decide +kernel
theorem dX6_at_6 : decode cX6_at 6 = .ok (.getfield 15, 3) := by decide +kernel
theorem dX6_at_9 : decode cX6_at 9 = .ok (.if_icmp .ge 12, 3) := by decide +kernel
theorem dX6_at_12 : decode cX6_at 12 = .ok (.aload_n 0, 1) := by decide +kernel
theorem dX6_at_13 : decode cX6_at 13 = .ok (.getfield 9, 3) := by decide +kernel
theorem dX6_at_16 : decode cX6_at 16 = .ok (.iload_n 1, 1) := by decide +kernel
theorem dX6_at_17 : decode cX6_at 17 = .ok (.iaload, 1) := by decide +kernel
theorem dX6_at_18 : decode cX6_at 18 = .ok (.goto 4, 3) := by decide +kernel
theorem dX6_at_21 : decode cX6_at 21 = .ok (.iconst (-1), 1) := by decide +kernel
theorem dX6_at_22 : decode cX6_at 22 = .ok (.ireturn, 1) := by decide +kernel
theorem dX6_copyFrom_0 : decode cX6_copyFrom 0 = .ok (.aload_n 1, 1) := by decide +kernel
theorem dX6_copyFrom_1 : decode cX6_copyFrom 1 = .ok (.getfield 9, 3) := by decide +kernel
theorem dX6_copyFrom_4 : decode cX6_copyFrom 4 = .ok (.iconst 0, 1) := by decide +kernel
theorem dX6_copyFrom_5 : decode cX6_copyFrom 5 = .ok (.aload_n 0, 1) := by decide +kernel
theorem dX6_copyFrom_6 : decode cX6_copyFrom 6 = .ok (.getfield 9, 3) := by decide +kernel
theorem dX6_copyFrom_9 : decode cX6_copyFrom 9 = .ok (.iconst 0, 1) := by decide +kernel
theorem dX6_copyFrom_10 : decode cX6_copyFrom 10 = .ok (.bipush 100, 2) := by decide +kernel
theorem dX6_copyFrom_12 : decode cX6_copyFrom 12 = .ok (.invokestatic 19, 3) := by decide +kernel
theorem dX6_copyFrom_15 : decode cX6_copyFrom 15 = .ok (.aload_n 0, 1) := by decide +kernel
theorem dX6_copyFrom_16 : decode cX6_copyFrom 16 = .ok (.aload_n 1, 1) := by decide +kernel
theorem dX6_copyFrom_17 : decode cX6_copyFrom 17 = .ok (.getfield 15, 3) := by decide +kernel
theorem dX6_copyFrom_20 : decode cX6_copyFrom 20 = .ok (.putfield 15, 3) := by decide +kernel
theorem dX6_copyFrom_23 : decode cX6_copyFrom 23 = .ok (.return_, 1) := by decide +kernel
theorem dX7_init_0 : decode cX7_init 0 = .ok (.aload_n 0, 1) := by decide +kernel
theorem dX7_init_1 : decode cX7_init 1 = .ok (.invokespecial 3, 3) := by decide +kernel
theorem dX7_init_4 : decode cX7_init 4 = .ok (.aload_n 0, 1) := by decide +kernel
theorem dX7_init_5 : decode cX7_init 5 = .ok (.new 9, 3) := by decide +kernel
theorem dX7_init_8 : decode cX7_init 8 = .ok (.dup, 1) := by decide +kernel
theorem dX7_init_9 : decode cX7_init 9 = .ok (.invokespecial 11, 3) := by decide +kernel
theorem dX7_init_12 : decode cX7_init 12 = .ok (.putfield 12, 3) := by decide +kernel
theorem dX7_init_15 : decode cX7_init 15 = .ok (.aload_n 0, 1) := by decide +kernel
theorem dX7_init_16 : decode cX7_init 16 = .ok (.iconst 5, 1) := by decide +kernel
theorem dX7_init_17 : decode cX7_init 17 = .ok (.newarray .int, 2) := by decide +kernel
theorem dX7_init_19 : decode cX7_init 19 = .ok (.putfield 20, 3) := by decide +kernel
theorem dX7_init_22 : decode cX7_init 22 = .ok (.return_, 1) := by decide +kernel
theorem dX7_setFacts_0 : decode cX7_setFacts 0 = .ok (.aload_n 0, 1) := by decide +kernel
theorem dX7_setFacts_1 : decode cX7_setFacts 1 = .ok (.getfield 20, 3) := by decide +kernel
theorem dX7_setFacts_4 : decode cX7_setFacts 4 = .ok (.iconst 0, 1) := by decide +kernel
theorem dX7_setFacts_5 : decode cX7_setFacts 5 = .ok (.iload_n 2, 1) := by decide +kernel
theorem dX7_setFacts_6 : decode cX7_setFacts 6 = .ok (.iastore, 1) := by decide +kernel
theorem dX7_setFacts_7 : decode cX7_setFacts 7 = .ok (.aload_n 0, 1) := by decide +kernel
theorem dX7_setFacts_8 : decode cX7_setFacts 8 = .ok (.getfield 20, 3) := by decide +kernel
theorem dX7_setFacts_11 : decode cX7_setFacts 11 = .ok (.iconst 1, 1) := by decide +kernel
theorem dX7_setFacts_12 : decode cX7_setFacts 12 = .ok (.iload_n 3, 1) := by decide +kernel
theorem dX7_setFacts_13 : decode cX7_setFacts 13 = .ok (.iastore, 1) := by decide +kernel
theorem dX7_setFacts_14 : decode cX7_setFacts 14 = .ok (.aload_n 0, 1) := by decide +kernel
theorem dX7_setFacts_15 : decode cX7_setFacts 15 = .ok (.getfield 20, 3) := by decide +kernel
theorem dX7_setFacts_18 : decode cX7_setFacts 18 = .ok (.iconst 2, 1) := by decide +kernel
theorem dX7_setFacts_19 : decode cX7_setFacts 19 = .ok (.aload_n 0, 1) := by decide +kernel
theorem dX7_setFacts_20 : decode cX7_setFacts 20 = .ok (.getfield 12, 3) := by decide +kernel
theorem dX7_setFacts_23 : decode cX7_setFacts 23 = .ok (.getfield 24, 3) := by decide +kernel
theorem dX7_setFacts_26 : decode cX7_setFacts 26 = .ok (.getfield 28, 3) := by decide +kernel
theorem dX7_setFacts_29 : decode cX7_setFacts 29 = .ok (.iload_n 2, 1) := by decide +kernel
theorem dX7_setFacts_30 : decode cX7_setFacts 30 = .ok (.iaload, 1) := by decide +kernel
theorem dX7_setFacts_31 : decode cX7_setFacts 31 = .ok (.iastore, 1) := by decide +kernel
theorem dX7_setFacts_32 : decode cX7_setFacts 32 = .ok (.aload_n 0, 1) := by decide +kernel
theorem dX7_setFacts_33 : decode cX7_setFacts 33 = .ok (.getfield 20, 3) := by decide +kernel
theorem dX7_setFacts_36 : decode cX7_setFacts 36 = .ok (.iconst 3, 1) := by decide +kernel
theorem dX7_setFacts_37 : decode cX7_setFacts 37 = .ok (.aload_n 1, 1) := by decide +kernel
theorem dX7_setFacts_38 : decode cX7_setFacts 38 = .ok (.getfield 33, 3) := by decide +kernel
theorem dX7_setFacts_41 : decode cX7_setFacts 41 = .ok (.iload_n 2, 1) := by decide +kernel
theorem dX7_setFacts_42 : decode cX7_setFacts 42 = .ok (.invokestatic 39, 3) := by decide +kernel
theorem dX7_setFacts_45 : decode cX7_setFacts 45 = .ok (.ifCond .eq 12, 3) := by decide +kernel
theorem dX7_setFacts_48 : decode cX7_setFacts 48 = .ok (.aload_n 1, 1) := by decide +kernel
theorem dX7_setFacts_49 : decode cX7_setFacts 49 = .ok (.getfield 43, 3) := by decide +kernel
theorem dX7_setFacts_52 : decode cX7_setFacts 52 = .ok (.iload_n 2, 1) := by decide +kernel
theorem dX7_setFacts_53 : decode cX7_setFacts 53 = .ok (.iaload, 1) := by decide +kernel
theorem dX7_setFacts_54 : decode cX7_setFacts 54 = .ok (.goto 5, 3) := by decide +kernel
theorem dX7_setFacts_57 : decode cX7_setFacts 57 = .ok (.bipush 9, 2) := by decide +kernel
theorem dX7_setFacts_59 : decode cX7_setFacts 59 = .ok (.iastore, 1) := by decide +kernel
theorem dX7_setFacts_60 : decode cX7_setFacts 60 = .ok (.aload_n 0, 1) := by decide +kernel
theorem dX7_setFacts_61 : decode cX7_setFacts 61 = .ok (.getfield 20, 3) := by decide +kernel
theorem dX7_setFacts_64 : decode cX7_setFacts 64 = .ok (.iconst 4, 1) := by decide +kernel
theorem dX7_setFacts_65 : decode cX7_setFacts 65 = .ok (.aload_n 1, 1) := by decide +kernel
theorem dX7_setFacts_66 : decode cX7_setFacts 66 = .ok (.getfield 46, 3) := by decide +kernel
theorem dX7_setFacts_69 : decode cX7_setFacts 69 = .ok (.bipush 7, 2) := by decide +kernel
theorem dX7_setFacts_71 : decode cX7_setFacts 71 = .ok (.irem, 1) := by decide +kernel
theorem dX7_setFacts_72 : decode cX7_setFacts 72 = .ok (.iastore, 1) := by decide +kernel
theorem dX7_setFacts_73 : decode cX7_setFacts 73 = .ok (.return_, 1) := by decide +kernel
theorem dX7_mayOf_0 : decode cX7_mayOf 0 = .ok (.iconst 0, 1) := by decide +kernel
theorem dX7_mayOf_1 : decode cX7_mayOf 1 = .ok (.istore_n 3, 1) := by decide +kernel
theorem dX7_mayOf_2 : decode cX7_mayOf 2 = .ok (.iconst 0, 1) := by decide +kernel
theorem dX7_mayOf_3 : decode cX7_mayOf 3 = .ok (.istore 4, 2) := by decide +kernel
theorem dX7_mayOf_5 : decode cX7_mayOf 5 = .ok (.iload 4, 2) := by decide +kernel
theorem dX7_mayOf_7 : decode cX7_mayOf 7 = .ok (.aload_n 0, 1) := by decide +kernel
theorem dX7_mayOf_8 : decode cX7_mayOf 8 = .ok (.getfield 12, 3) := by decide +kernel
theorem dX7_mayOf_11 : decode cX7_mayOf 11 = .ok (.getfield 24, 3) := by decide +kernel
theorem dX7_mayOf_14 : decode cX7_mayOf 14 = .ok (.getfield 49, 3) := by decide +kernel
theorem dX7_mayOf_17 : decode cX7_mayOf 17 = .ok (.if_icmp .ge 74, 3) := by decide +kernel
theorem dX7_mayOf_20 : decode cX7_mayOf 20 = .ok (.aload_n 0, 1) := by decide +kernel
theorem dX7_mayOf_21 : decode cX7_mayOf 21 = .ok (.getfield 12, 3) := by decide +kernel
theorem dX7_mayOf_24 : decode cX7_mayOf 24 = .ok (.getfield 24, 3) := by decide +kernel
theorem dX7_mayOf_27 : decode cX7_mayOf 27 = .ok (.getfield 52, 3) := by decide +kernel
theorem dX7_mayOf_30 : decode cX7_mayOf 30 = .ok (.iload_n 2, 1) := by decide +kernel
theorem dX7_mayOf_31 : decode cX7_mayOf 31 = .ok (.iaload, 1) := by decide +kernel
theorem dX7_mayOf_32 : decode cX7_mayOf 32 = .ok (.iload 4, 2) := by decide +kernel
theorem dX7_mayOf_34 : decode cX7_mayOf 34 = .ok (.invokestatic 39, 3) := by decide +kernel
theorem dX7_mayOf_37 : decode cX7_mayOf 37 = .ok (.ifCond .eq 48, 3) := by decide +kernel
theorem dX7_mayOf_40 : decode cX7_mayOf 40 = .ok (.aload_n 1, 1) := by decide +kernel
theorem dX7_mayOf_41 : decode cX7_mayOf 41 = .ok (.getfield 33, 3) := by decide +kernel
theorem dX7_mayOf_44 : decode cX7_mayOf 44 = .ok (.iload 4, 2) := by decide +kernel
theorem dX7_mayOf_46 : decode cX7_mayOf 46 = .ok (.invokestatic 39, 3) := by decide +kernel
theorem dX7_mayOf_49 : decode cX7_mayOf 49 = .ok (.ifCond .ne 36, 3) := by decide +kernel
theorem dX7_mayOf_52 : decode cX7_mayOf 52 = .ok (.aload_n 0, 1) := by decide +kernel
theorem dX7_mayOf_53 : decode cX7_mayOf 53 = .ok (.aload_n 1, 1) := by decide +kernel
theorem dX7_mayOf_54 : decode cX7_mayOf 54 = .ok (.iload_n 2, 1) := by decide +kernel
theorem dX7_mayOf_55 : decode cX7_mayOf 55 = .ok (.iload 4, 2) := by decide +kernel
theorem dX7_mayOf_57 : decode cX7_mayOf 57 = .ok (.invokevirtual 55, 3) := by decide +kernel
theorem dX7_mayOf_60 : decode cX7_mayOf 60 = .ok (.aload_n 0, 1) := by decide +kernel
theorem dX7_mayOf_61 : decode cX7_mayOf 61 = .ok (.getfield 12, 3) := by decide +kernel
theorem dX7_mayOf_64 : decode cX7_mayOf 64 = .ok (.getfield 59, 3) := by decide +kernel
theorem dX7_mayOf_67 : decode cX7_mayOf 67 = .ok (.iconst 0, 1) := by decide +kernel
theorem dX7_mayOf_68 : decode cX7_mayOf 68 = .ok (.aload_n 0, 1) := by decide +kernel
theorem dX7_mayOf_69 : decode cX7_mayOf 69 = .ok (.getfield 20, 3) := by decide +kernel
theorem dX7_mayOf_72 : decode cX7_mayOf 72 = .ok (.invokevirtual 63, 3) := by decide +kernel
theorem dX7_mayOf_75 : decode cX7_mayOf 75 = .ok (.ifCond .ne 10, 3) := by decide +kernel
theorem dX7_mayOf_78 : decode cX7_mayOf 78 = .ok (.iload_n 3, 1) := by decide +kernel
theorem dX7_mayOf_79 : decode cX7_mayOf 79 = .ok (.iconst 1, 1) := by decide +kernel
theorem dX7_mayOf_80 : decode cX7_mayOf 80 = .ok (.iload 4, 2) := by decide +kernel
theorem dX7_mayOf_82 : decode cX7_mayOf 82 = .ok (.ishl, 1) := by decide +kernel
theorem dX7_mayOf_83 : decode cX7_mayOf 83 = .ok (.ior, 1) := by decide +kernel
theorem dX7_mayOf_84 : decode cX7_mayOf 84 = .ok (.istore_n 3, 1) := by decide +kernel
theorem dX7_mayOf_85 : decode cX7_mayOf 85 = .ok (.iinc 4 1, 3) := by decide +kernel
theorem dX7_mayOf_88 : decode cX7_mayOf 88 = .ok (.goto (-83), 3) := by decide +kernel
theorem dX7_mayOf_91 : decode cX7_mayOf 91 = .ok (.iload_n 3, 1) := by decide +kernel
theorem dX7_mayOf_92 : decode cX7_mayOf 92 = .ok (.ireturn, 1) := by decide +kernel
theorem dX7_fineOf_0 : decode cX7_fineOf 0 = .ok (.aload_n 0, 1) := by decide +kernel
theorem dX7_fineOf_1 : decode cX7_fineOf 1 = .ok (.aload_n 1, 1) := by decide +kernel
theorem dX7_fineOf_2 : decode cX7_fineOf 2 = .ok (.iload_n 2, 1) := by decide +kernel
theorem dX7_fineOf_3 : decode cX7_fineOf 3 = .ok (.bipush 9, 2) := by decide +kernel
theorem dX7_fineOf_5 : decode cX7_fineOf 5 = .ok (.invokevirtual 55, 3) := by decide +kernel
theorem dX7_fineOf_8 : decode cX7_fineOf 8 = .ok (.aload_n 0, 1) := by decide +kernel
theorem dX7_fineOf_9 : decode cX7_fineOf 9 = .ok (.getfield 12, 3) := by decide +kernel
theorem dX7_fineOf_12 : decode cX7_fineOf 12 = .ok (.getfield 59, 3) := by decide +kernel
theorem dX7_fineOf_15 : decode cX7_fineOf 15 = .ok (.iconst 1, 1) := by decide +kernel
theorem dX7_fineOf_16 : decode cX7_fineOf 16 = .ok (.aload_n 0, 1) := by decide +kernel
theorem dX7_fineOf_17 : decode cX7_fineOf 17 = .ok (.getfield 20, 3) := by decide +kernel
theorem dX7_fineOf_20 : decode cX7_fineOf 20 = .ok (.invokevirtual 63, 3) := by decide +kernel
theorem dX7_fineOf_23 : decode cX7_fineOf 23 = .ok (.ireturn, 1) := by decide +kernel
theorem dX7_askedOf_0 : decode cX7_askedOf 0 = .ok (.aload_n 1, 1) := by decide +kernel
theorem dX7_askedOf_1 : decode cX7_askedOf 1 = .ok (.getfield 43, 3) := by decide +kernel
theorem dX7_askedOf_4 : decode cX7_askedOf 4 = .ok (.iload_n 2, 1) := by decide +kernel
theorem dX7_askedOf_5 : decode cX7_askedOf 5 = .ok (.iaload, 1) := by decide +kernel
theorem dX7_askedOf_6 : decode cX7_askedOf 6 = .ok (.istore_n 3, 1) := by decide +kernel
theorem dX7_askedOf_7 : decode cX7_askedOf 7 = .ok (.aload_n 0, 1) := by decide +kernel
theorem dX7_askedOf_8 : decode cX7_askedOf 8 = .ok (.getfield 12, 3) := by decide +kernel
theorem dX7_askedOf_11 : decode cX7_askedOf 11 = .ok (.getfield 24, 3) := by decide +kernel
theorem dX7_askedOf_14 : decode cX7_askedOf 14 = .ok (.getfield 28, 3) := by decide +kernel
theorem dX7_askedOf_17 : decode cX7_askedOf 17 = .ok (.iload_n 2, 1) := by decide +kernel
theorem dX7_askedOf_18 : decode cX7_askedOf 18 = .ok (.iaload, 1) := by decide +kernel
theorem dX7_askedOf_19 : decode cX7_askedOf 19 = .ok (.istore 4, 2) := by decide +kernel
theorem dX7_askedOf_21 : decode cX7_askedOf 21 = .ok (.iload 4, 2) := by decide +kernel
theorem dX7_askedOf_23 : decode cX7_askedOf 23 = .ok (.iconst 2, 1) := by decide +kernel
theorem dX7_askedOf_24 : decode cX7_askedOf 24 = .ok (.if_icmp .eq 9, 3) := by decide +kernel
theorem dX7_askedOf_27 : decode cX7_askedOf 27 = .ok (.iload 4, 2) := by decide +kernel
theorem dX7_askedOf_29 : decode cX7_askedOf 29 = .ok (.iconst 5, 1) := by decide +kernel
theorem dX7_askedOf_30 : decode cX7_askedOf 30 = .ok (.if_icmp .ne 27, 3) := by decide +kernel
theorem dX7_askedOf_33 : decode cX7_askedOf 33 = .ok (.iload_n 3, 1) := by decide +kernel
theorem dX7_askedOf_34 : decode cX7_askedOf 34 = .ok (.aload_n 0, 1) := by decide +kernel
theorem dX7_askedOf_35 : decode cX7_askedOf 35 = .ok (.getfield 12, 3) := by decide +kernel
theorem dX7_askedOf_38 : decode cX7_askedOf 38 = .ok (.getfield 24, 3) := by decide +kernel
theorem dX7_askedOf_41 : decode cX7_askedOf 41 = .ok (.getfield 67, 3) := by decide +kernel
theorem dX7_askedOf_44 : decode cX7_askedOf 44 = .ok (.iload_n 2, 1) := by decide +kernel
theorem dX7_askedOf_45 : decode cX7_askedOf 45 = .ok (.iaload, 1) := by decide +kernel
theorem dX7_askedOf_46 : decode cX7_askedOf 46 = .ok (.iconst 3, 1) := by decide +kernel
theorem dX7_askedOf_47 : decode cX7_askedOf 47 = .ok (.irem, 1) := by decide +kernel
theorem dX7_askedOf_48 : decode cX7_askedOf 48 = .ok (.if_icmp .gt 7, 3) := by decide +kernel
theorem dX7_askedOf_51 : decode cX7_askedOf 51 = .ok (.iconst 0, 1) := by decide +kernel
theorem dX7_askedOf_52 : decode cX7_askedOf 52 = .ok (.goto 4, 3) := by decide +kernel
theorem dX7_askedOf_55 : decode cX7_askedOf 55 = .ok (.iload_n 3, 1) := by decide +kernel
theorem dX7_askedOf_56 : decode cX7_askedOf 56 = .ok (.ireturn, 1) := by decide +kernel
theorem dX7_askedOf_57 : decode cX7_askedOf 57 = .ok (.iload 4, 2) := by decide +kernel
theorem dX7_askedOf_59 : decode cX7_askedOf 59 = .ok (.iconst 4, 1) := by decide +kernel
theorem dX7_askedOf_60 : decode cX7_askedOf 60 = .ok (.if_icmp .ne 9, 3) := by decide +kernel
theorem dX7_askedOf_63 : decode cX7_askedOf 63 = .ok (.iload_n 3, 1) := by decide +kernel
theorem dX7_askedOf_64 : decode cX7_askedOf 64 = .ok (.iconst 1, 1) := by decide +kernel
theorem dX7_askedOf_65 : decode cX7_askedOf 65 = .ok (.iadd, 1) := by decide +kernel
theorem dX7_askedOf_66 : decode cX7_askedOf 66 = .ok (.goto 4, 3) := by decide +kernel
theorem dX7_askedOf_69 : decode cX7_askedOf 69 = .ok (.iload_n 3, 1) := by decide +kernel
theorem dX7_askedOf_70 : decode cX7_askedOf 70 = .ok (.ireturn, 1) := by decide +kernel
theorem dX7_goDay_0 : decode cX7_goDay 0 = .ok (.aload_n 1, 1) := by decide +kernel
theorem dX7_goDay_1 : decode cX7_goDay 1 = .ok (.invokevirtual 70, 3) := by decide +kernel
theorem dX7_goDay_4 : decode cX7_goDay 4 = .ok (.istore 5, 2) := by decide +kernel
theorem dX7_goDay_6 : decode cX7_goDay 6 = .ok (.aload_n 0, 1) := by decide +kernel
theorem dX7_goDay_7 : decode cX7_goDay 7 = .ok (.getfield 12, 3) := by decide +kernel
theorem dX7_goDay_10 : decode cX7_goDay 10 = .ok (.getfield 24, 3) := by decide +kernel
theorem dX7_goDay_13 : decode cX7_goDay 13 = .ok (.aload_n 1, 1) := by decide +kernel
theorem dX7_goDay_14 : decode cX7_goDay 14 = .ok (.getfield 46, 3) := by decide +kernel
theorem dX7_goDay_17 : decode cX7_goDay 17 = .ok (.invokevirtual 74, 3) := by decide +kernel
theorem dX7_goDay_20 : decode cX7_goDay 20 = .ok (.iload 4, 2) := by decide +kernel
theorem dX7_goDay_22 : decode cX7_goDay 22 = .ok (.iconst (-1), 1) := by decide +kernel
theorem dX7_goDay_23 : decode cX7_goDay 23 = .ok (.if_icmp .ne 7, 3) := by decide +kernel
theorem dX7_goDay_26 : decode cX7_goDay 26 = .ok (.iconst 0, 1) := by decide +kernel
theorem dX7_goDay_27 : decode cX7_goDay 27 = .ok (.goto 7, 3) := by decide +kernel
theorem dX7_goDay_30 : decode cX7_goDay 30 = .ok (.iconst 1, 1) := by decide +kernel
theorem dX7_goDay_31 : decode cX7_goDay 31 = .ok (.iload 4, 2) := by decide +kernel
theorem dX7_goDay_33 : decode cX7_goDay 33 = .ok (.ishl, 1) := by decide +kernel
theorem dX7_goDay_34 : decode cX7_goDay 34 = .ok (.ior, 1) := by decide +kernel
theorem dX7_goDay_35 : decode cX7_goDay 35 = .ok (.istore 6, 2) := by decide +kernel
theorem dX7_goDay_37 : decode cX7_goDay 37 = .ok (.iconst 0, 1) := by decide +kernel
theorem dX7_goDay_38 : decode cX7_goDay 38 = .ok (.istore 7, 2) := by decide +kernel
theorem dX7_goDay_40 : decode cX7_goDay 40 = .ok (.iconst 0, 1) := by decide +kernel
theorem dX7_goDay_41 : decode cX7_goDay 41 = .ok (.istore 8, 2) := by decide +kernel
theorem dX7_goDay_43 : decode cX7_goDay 43 = .ok (.iload 8, 2) := by decide +kernel
theorem dX7_goDay_45 : decode cX7_goDay 45 = .ok (.aload_n 0, 1) := by decide +kernel
theorem dX7_goDay_46 : decode cX7_goDay 46 = .ok (.getfield 12, 3) := by decide +kernel
theorem dX7_goDay_49 : decode cX7_goDay 49 = .ok (.getfield 24, 3) := by decide +kernel
