theorem dX11_here_1 : decode cX11_here 1 = .ok (.getfield 51, 3) := by decide +kernel
theorem dX11_here_4 : decode cX11_here 4 = .ok (.aload_n 0, 1) := by decide +kernel
theorem dX11_here_5 : decode cX11_here 5 = .ok (.getfield 54, 3) := by decide +kernel
theorem dX11_here_8 : decode cX11_here 8 = .ok (.if_icmp .ge 19, 3) := by decide +kernel
theorem dX11_here_11 : decode cX11_here 11 = .ok (.aload_n 0, 1) := by decide +kernel
theorem dX11_here_12 : decode cX11_here 12 = .ok (.getfield 9, 3) := by decide +kernel
theorem dX11_here_15 : decode cX11_here 15 = .ok (.sipush 129, 3) := by decide +kernel
theorem dX11_here_18 : decode cX11_here 18 = .ok (.aload_n 0, 1) := by decide +kernel
theorem dX11_here_19 : decode cX11_here 19 = .ok (.getfield 51, 3) := by decide +kernel
theorem dX11_here_22 : decode cX11_here 22 = .ok (.iadd, 1) := by decide +kernel
theorem dX11_here_23 : decode cX11_here 23 = .ok (.iaload, 1) := by decide +kernel
theorem dX11_here_24 : decode cX11_here 24 = .ok (.goto 4, 3) := by decide +kernel
theorem dX11_here_27 : decode cX11_here 27 = .ok (.iconst (-1), 1) := by decide +kernel
theorem dX11_here_28 : decode cX11_here 28 = .ok (.ireturn, 1) := by decide +kernel
theorem dX11_must_0 : decode cX11_must 0 = .ok (.aload_n 0, 1) := by decide +kernel
theorem dX11_must_1 : decode cX11_must 1 = .ok (.aload_n 0, 1) := by decide +kernel
theorem dX11_must_2 : decode cX11_must 2 = .ok (.getfield 57, 3) := by decide +kernel
theorem dX11_must_5 : decode cX11_must 5 = .ok (.ifCond .ne 11, 3) := by decide +kernel
theorem dX11_must_8 : decode cX11_must 8 = .ok (.aload_n 0, 1) := by decide +kernel
theorem dX11_must_9 : decode cX11_must 9 = .ok (.invokevirtual 61, 3) := by decide +kernel
theorem dX11_must_12 : decode cX11_must 12 = .ok (.iload_n 1, 1) := by decide +kernel
theorem dX11_must_13 : decode cX11_must 13 = .ok (.if_icmp .eq 7, 3) := by decide +kernel
theorem dX11_must_16 : decode cX11_must 16 = .ok (.iconst 1, 1) := by decide +kernel
theorem dX11_must_17 : decode cX11_must 17 = .ok (.goto 4, 3) := by decide +kernel
theorem dX11_must_20 : decode cX11_must 20 = .ok (.iconst 0, 1) := by decide +kernel
theorem dX11_must_21 : decode cX11_must 21 = .ok (.putfield 57, 3) := by decide +kernel
theorem dX11_must_24 : decode cX11_must 24 = .ok (.aload_n 0, 1) := by decide +kernel
theorem dX11_must_25 : decode cX11_must 25 = .ok (.dup, 1) := by decide +kernel
theorem dX11_must_26 : decode cX11_must 26 = .ok (.getfield 51, 3) := by decide +kernel
theorem dX11_must_29 : decode cX11_must 29 = .ok (.aload_n 0, 1) := by decide +kernel
theorem dX11_must_30 : decode cX11_must 30 = .ok (.getfield 57, 3) := by decide +kernel
theorem dX11_must_33 : decode cX11_must 33 = .ok (.ifCond .eq 7, 3) := by decide +kernel
theorem dX11_must_36 : decode cX11_must 36 = .ok (.iconst 0, 1) := by decide +kernel
theorem dX11_must_37 : decode cX11_must 37 = .ok (.goto 4, 3) := by decide +kernel
theorem dX11_must_40 : decode cX11_must 40 = .ok (.iconst 1, 1) := by decide +kernel
theorem dX11_must_41 : decode cX11_must 41 = .ok (.iadd, 1) := by decide +kernel
theorem dX11_must_42 : decode cX11_must 42 = .ok (.putfield 51, 3) := by decide +kernel
theorem dX11_must_45 : decode cX11_must 45 = .ok (.return_, 1) := by decide +kernel
theorem dX11_spells_0 : decode cX11_spells 0 = .ok (.iconst 0, 1) := by decide +kernel
theorem dX11_spells_1 : decode cX11_spells 1 = .ok (.istore_n 2, 1) := by decide +kernel
theorem dX11_spells_2 : decode cX11_spells 2 = .ok (.iload_n 2, 1) := by decide +kernel
theorem dX11_spells_3 : decode cX11_spells 3 = .ok (.aload_n 1, 1) := by decide +kernel
theorem dX11_spells_4 : decode cX11_spells 4 = .ok (.invokevirtual 65, 3) := by decide +kernel
theorem dX11_spells_7 : decode cX11_spells 7 = .ok (.if_icmp .ge 18, 3) := by decide +kernel
theorem dX11_spells_10 : decode cX11_spells 10 = .ok (.aload_n 0, 1) := by decide +kernel
theorem dX11_spells_11 : decode cX11_spells 11 = .ok (.aload_n 1, 1) := by decide +kernel
theorem dX11_spells_12 : decode cX11_spells 12 = .ok (.iload_n 2, 1) := by decide +kernel
theorem dX11_spells_13 : decode cX11_spells 13 = .ok (.invokevirtual 70, 3) := by decide +kernel
theorem dX11_spells_16 : decode cX11_spells 16 = .ok (.invokevirtual 74, 3) := by decide +kernel
theorem dX11_spells_19 : decode cX11_spells 19 = .ok (.iinc 2 1, 3) := by decide +kernel
theorem dX11_spells_22 : decode cX11_spells 22 = .ok (.goto (-20), 3) := by decide +kernel
theorem dX11_spells_25 : decode cX11_spells 25 = .ok (.return_, 1) := by decide +kernel
theorem dX11_figures_0 : decode cX11_figures 0 = .ok (.aload_n 0, 1) := by decide +kernel
theorem dX11_figures_1 : decode cX11_figures 1 = .ok (.aload_n 0, 1) := by decide +kernel
theorem dX11_figures_2 : decode cX11_figures 2 = .ok (.getfield 57, 3) := by decide +kernel
theorem dX11_figures_5 : decode cX11_figures 5 = .ok (.ifCond .ne 17, 3) := by decide +kernel
theorem dX11_figures_8 : decode cX11_figures 8 = .ok (.aload_n 0, 1) := by decide +kernel
theorem dX11_figures_9 : decode cX11_figures 9 = .ok (.invokevirtual 61, 3) := by decide +kernel
theorem dX11_figures_12 : decode cX11_figures 12 = .ok (.bipush 48, 2) := by decide +kernel
theorem dX11_figures_14 : decode cX11_figures 14 = .ok (.bipush 57, 2) := by decide +kernel
theorem dX11_figures_16 : decode cX11_figures 16 = .ok (.invokestatic 47, 3) := by decide +kernel
theorem dX11_figures_19 : decode cX11_figures 19 = .ok (.ifCond .ne 7, 3) := by decide +kernel
theorem dX11_figures_22 : decode cX11_figures 22 = .ok (.iconst 1, 1) := by decide +kernel
theorem dX11_figures_23 : decode cX11_figures 23 = .ok (.goto 4, 3) := by decide +kernel
theorem dX11_figures_26 : decode cX11_figures 26 = .ok (.iconst 0, 1) := by decide +kernel
theorem dX11_figures_27 : decode cX11_figures 27 = .ok (.putfield 57, 3) := by decide +kernel
theorem dX11_figures_30 : decode cX11_figures 30 = .ok (.iconst 0, 1) := by decide +kernel
theorem dX11_figures_31 : decode cX11_figures 31 = .ok (.istore_n 1, 1) := by decide +kernel
theorem dX11_figures_32 : decode cX11_figures 32 = .ok (.iconst 0, 1) := by decide +kernel
theorem dX11_figures_33 : decode cX11_figures 33 = .ok (.istore_n 2, 1) := by decide +kernel
theorem dX11_figures_34 : decode cX11_figures 34 = .ok (.iload_n 2, 1) := by decide +kernel
theorem dX11_figures_35 : decode cX11_figures 35 = .ok (.iconst 2, 1) := by decide +kernel
theorem dX11_figures_36 : decode cX11_figures 36 = .ok (.if_icmp .ge 61, 3) := by decide +kernel
theorem dX11_figures_39 : decode cX11_figures 39 = .ok (.aload_n 0, 1) := by decide +kernel
theorem dX11_figures_40 : decode cX11_figures 40 = .ok (.getfield 57, 3) := by decide +kernel
theorem dX11_figures_43 : decode cX11_figures 43 = .ok (.ifCond .ne 54, 3) := by decide +kernel
theorem dX11_figures_46 : decode cX11_figures 46 = .ok (.aload_n 0, 1) := by decide +kernel
theorem dX11_figures_47 : decode cX11_figures 47 = .ok (.invokevirtual 61, 3) := by decide +kernel
theorem dX11_figures_50 : decode cX11_figures 50 = .ok (.bipush 48, 2) := by decide +kernel
theorem dX11_figures_52 : decode cX11_figures 52 = .ok (.bipush 57, 2) := by decide +kernel
theorem dX11_figures_54 : decode cX11_figures 54 = .ok (.invokestatic 47, 3) := by decide +kernel
theorem dX11_figures_57 : decode cX11_figures 57 = .ok (.ifCond .eq 40, 3) := by decide +kernel
theorem dX11_figures_60 : decode cX11_figures 60 = .ok (.iload_n 2, 1) := by decide +kernel
theorem dX11_figures_61 : decode cX11_figures 61 = .ok (.ifCond .eq 7, 3) := by decide +kernel
theorem dX11_figures_64 : decode cX11_figures 64 = .ok (.iload_n 1, 1) := by decide +kernel
theorem dX11_figures_65 : decode cX11_figures 65 = .ok (.ifCond .le 32, 3) := by decide +kernel
theorem dX11_figures_68 : decode cX11_figures 68 = .ok (.bipush 10, 2) := by decide +kernel
theorem dX11_figures_70 : decode cX11_figures 70 = .ok (.iload_n 1, 1) := by decide +kernel
theorem dX11_figures_71 : decode cX11_figures 71 = .ok (.imul, 1) := by decide +kernel
theorem dX11_figures_72 : decode cX11_figures 72 = .ok (.aload_n 0, 1) := by decide +kernel
theorem dX11_figures_73 : decode cX11_figures 73 = .ok (.invokevirtual 61, 3) := by decide +kernel
theorem dX11_figures_76 : decode cX11_figures 76 = .ok (.iadd, 1) := by decide +kernel
theorem dX11_figures_77 : decode cX11_figures 77 = .ok (.bipush 48, 2) := by decide +kernel
theorem dX11_figures_79 : decode cX11_figures 79 = .ok (.isub, 1) := by decide +kernel
theorem dX11_figures_80 : decode cX11_figures 80 = .ok (.istore_n 1, 1) := by decide +kernel
theorem dX11_figures_81 : decode cX11_figures 81 = .ok (.aload_n 0, 1) := by decide +kernel
theorem dX11_figures_82 : decode cX11_figures 82 = .ok (.dup, 1) := by decide +kernel
theorem dX11_figures_83 : decode cX11_figures 83 = .ok (.getfield 51, 3) := by decide +kernel
theorem dX11_figures_86 : decode cX11_figures 86 = .ok (.iconst 1, 1) := by decide +kernel
theorem dX11_figures_87 : decode cX11_figures 87 = .ok (.iadd, 1) := by decide +kernel
theorem dX11_figures_88 : decode cX11_figures 88 = .ok (.putfield 51, 3) := by decide +kernel
theorem dX11_figures_91 : decode cX11_figures 91 = .ok (.iinc 2 1, 3) := by decide +kernel
theorem dX11_figures_94 : decode cX11_figures 94 = .ok (.goto (-60), 3) := by decide +kernel
theorem dX11_figures_97 : decode cX11_figures 97 = .ok (.iload_n 1, 1) := by decide +kernel
theorem dX11_figures_98 : decode cX11_figures 98 = .ok (.ireturn, 1) := by decide +kernel
theorem dX11_among_0 : decode cX11_among 0 = .ok (.iconst 0, 1) := by decide +kernel
theorem dX11_among_1 : decode cX11_among 1 = .ok (.istore_n 2, 1) := by decide +kernel
theorem dX11_among_2 : decode cX11_among 2 = .ok (.iload_n 2, 1) := by decide +kernel
theorem dX11_among_3 : decode cX11_among 3 = .ok (.aload_n 1, 1) := by decide +kernel
theorem dX11_among_4 : decode cX11_among 4 = .ok (.invokevirtual 65, 3) := by decide +kernel
theorem dX11_among_7 : decode cX11_among 7 = .ok (.if_icmp .ge 33, 3) := by decide +kernel
theorem dX11_among_10 : decode cX11_among 10 = .ok (.aload_n 0, 1) := by decide +kernel
theorem dX11_among_11 : decode cX11_among 11 = .ok (.invokevirtual 61, 3) := by decide +kernel
theorem dX11_among_14 : decode cX11_among 14 = .ok (.aload_n 1, 1) := by decide +kernel
theorem dX11_among_15 : decode cX11_among 15 = .ok (.iload_n 2, 1) := by decide +kernel
theorem dX11_among_16 : decode cX11_among 16 = .ok (.invokevirtual 70, 3) := by decide +kernel
theorem dX11_among_19 : decode cX11_among 19 = .ok (.if_icmp .ne 15, 3) := by decide +kernel
theorem dX11_among_22 : decode cX11_among 22 = .ok (.aload_n 0, 1) := by decide +kernel
theorem dX11_among_23 : decode cX11_among 23 = .ok (.dup, 1) := by decide +kernel
theorem dX11_among_24 : decode cX11_among 24 = .ok (.getfield 51, 3) := by decide +kernel
theorem dX11_among_27 : decode cX11_among 27 = .ok (.iconst 1, 1) := by decide +kernel
theorem dX11_among_28 : decode cX11_among 28 = .ok (.iadd, 1) := by decide +kernel
theorem dX11_among_29 : decode cX11_among 29 = .ok (.putfield 51, 3) := by decide +kernel
theorem dX11_among_32 : decode cX11_among 32 = .ok (.iload_n 2, 1) := by decide +kernel
theorem dX11_among_33 : decode cX11_among 33 = .ok (.ireturn, 1) := by decide +kernel
theorem dX11_among_34 : decode cX11_among 34 = .ok (.iinc 2 1, 3) := by decide +kernel
theorem dX11_among_37 : decode cX11_among 37 = .ok (.goto (-35), 3) := by decide +kernel
theorem dX11_among_40 : decode cX11_among 40 = .ok (.iconst (-1), 1) := by decide +kernel
theorem dX11_among_41 : decode cX11_among 41 = .ok (.ireturn, 1) := by decide +kernel
theorem dX11_emits_0 : decode cX11_emits 0 = .ok (.aload_n 0, 1) := by decide +kernel
theorem dX11_emits_1 : decode cX11_emits 1 = .ok (.getfield 57, 3) := by decide +kernel
theorem dX11_emits_4 : decode cX11_emits 4 = .ok (.ifCond .ne 52, 3) := by decide +kernel
theorem dX11_emits_7 : decode cX11_emits 7 = .ok (.aload_n 0, 1) := by decide +kernel
theorem dX11_emits_8 : decode cX11_emits 8 = .ok (.getfield 9, 3) := by decide +kernel
theorem dX11_emits_11 : decode cX11_emits 11 = .ok (.sipush 244, 3) := by decide +kernel
theorem dX11_emits_14 : decode cX11_emits 14 = .ok (.sipush 140, 3) := by decide +kernel
theorem dX11_emits_17 : decode cX11_emits 17 = .ok (.aload_n 0, 1) := by decide +kernel
theorem dX11_emits_18 : decode cX11_emits 18 = .ok (.getfield 78, 3) := by decide +kernel
theorem dX11_emits_21 : decode cX11_emits 21 = .ok (.imul, 1) := by decide +kernel
theorem dX11_emits_22 : decode cX11_emits 22 = .ok (.iadd, 1) := by decide +kernel
theorem dX11_emits_23 : decode cX11_emits 23 = .ok (.aload_n 0, 1) := by decide +kernel
theorem dX11_emits_24 : decode cX11_emits 24 = .ok (.getfield 9, 3) := by decide +kernel
theorem dX11_emits_27 : decode cX11_emits 27 = .ok (.sipush 239, 3) := by decide +kernel
theorem dX11_emits_30 : decode cX11_emits 30 = .ok (.aload_n 0, 1) := by decide +kernel
theorem dX11_emits_31 : decode cX11_emits 31 = .ok (.getfield 78, 3) := by decide +kernel
theorem dX11_emits_34 : decode cX11_emits 34 = .ok (.iadd, 1) := by decide +kernel
theorem dX11_emits_35 : decode cX11_emits 35 = .ok (.iaload, 1) := by decide +kernel
theorem dX11_emits_36 : decode cX11_emits 36 = .ok (.iadd, 1) := by decide +kernel
theorem dX11_emits_37 : decode cX11_emits 37 = .ok (.iload_n 1, 1) := by decide +kernel
theorem dX11_emits_38 : decode cX11_emits 38 = .ok (.iastore, 1) := by decide +kernel
theorem dX11_emits_39 : decode cX11_emits 39 = .ok (.aload_n 0, 1) := by decide +kernel
theorem dX11_emits_40 : decode cX11_emits 40 = .ok (.getfield 9, 3) := by decide +kernel
theorem dX11_emits_43 : decode cX11_emits 43 = .ok (.sipush 239, 3) := by decide +kernel
theorem dX11_emits_46 : decode cX11_emits 46 = .ok (.aload_n 0, 1) := by decide +kernel
theorem dX11_emits_47 : decode cX11_emits 47 = .ok (.getfield 78, 3) := by decide +kernel
theorem dX11_emits_50 : decode cX11_emits 50 = .ok (.iadd, 1) := by decide +kernel
theorem dX11_emits_51 : decode cX11_emits 51 = .ok (.dup2, 1) := by decide +kernel
theorem dX11_emits_52 : decode cX11_emits 52 = .ok (.iaload, 1) := by decide +kernel
theorem dX11_emits_53 : decode cX11_emits 53 = .ok (.iconst 1, 1) := by decide +kernel
theorem dX11_emits_54 : decode cX11_emits 54 = .ok (.iadd, 1) := by decide +kernel
theorem dX11_emits_55 : decode cX11_emits 55 = .ok (.iastore, 1) := by decide +kernel
theorem dX11_emits_56 : decode cX11_emits 56 = .ok (.return_, 1) := by decide +kernel
theorem dX11_factor_0 : decode cX11_factor 0 = .ok (.aload_n 0, 1) := by decide +kernel
theorem dX11_factor_1 : decode cX11_factor 1 = .ok (.getfield 57, 3) := by decide +kernel
theorem dX11_factor_4 : decode cX11_factor 4 = .ok (.ifCond .eq 4, 3) := by decide +kernel
theorem dX11_factor_7 : decode cX11_factor 7 = .ok (.return_, 1) := by decide +kernel
theorem dX11_factor_8 : decode cX11_factor 8 = .ok (.aload_n 0, 1) := by decide +kernel
theorem dX11_factor_9 : decode cX11_factor 9 = .ok (.invokevirtual 61, 3) := by decide +kernel
theorem dX11_factor_12 : decode cX11_factor 12 = .ok (.istore_n 1, 1) := by decide +kernel
theorem dX11_factor_13 : decode cX11_factor 13 = .ok (.iload_n 1, 1) := by decide +kernel
theorem dX11_factor_14 : decode cX11_factor 14 = .ok (.bipush 33, 2) := by decide +kernel
theorem dX11_factor_16 : decode cX11_factor 16 = .ok (.if_icmp .eq 9, 3) := by decide +kernel
theorem dX11_factor_19 : decode cX11_factor 19 = .ok (.iload_n 1, 1) := by decide +kernel
theorem dX11_factor_20 : decode cX11_factor 20 = .ok (.bipush 40, 2) := by decide +kernel
theorem dX11_factor_22 : decode cX11_factor 22 = .ok (.if_icmp .ne 90, 3) := by decide +kernel
theorem dX11_factor_25 : decode cX11_factor 25 = .ok (.aload_n 0, 1) := by decide +kernel
theorem dX11_factor_26 : decode cX11_factor 26 = .ok (.aload_n 0, 1) := by decide +kernel
theorem dX11_factor_27 : decode cX11_factor 27 = .ok (.getfield 81, 3) := by decide +kernel
theorem dX11_factor_30 : decode cX11_factor 30 = .ok (.iconst 5, 1) := by decide +kernel
theorem dX11_factor_31 : decode cX11_factor 31 = .ok (.if_icmp .ne 7, 3) := by decide +kernel
theorem dX11_factor_34 : decode cX11_factor 34 = .ok (.iconst 1, 1) := by decide +kernel
theorem dX11_factor_35 : decode cX11_factor 35 = .ok (.goto 4, 3) := by decide +kernel
theorem dX11_factor_38 : decode cX11_factor 38 = .ok (.iconst 0, 1) := by decide +kernel
theorem dX11_factor_39 : decode cX11_factor 39 = .ok (.putfield 57, 3) := by decide +kernel
theorem dX11_factor_42 : decode cX11_factor 42 = .ok (.aload_n 0, 1) := by decide +kernel
theorem dX11_factor_43 : decode cX11_factor 43 = .ok (.dup, 1) := by decide +kernel
theorem dX11_factor_44 : decode cX11_factor 44 = .ok (.getfield 81, 3) := by decide +kernel
theorem dX11_factor_47 : decode cX11_factor 47 = .ok (.iconst 1, 1) := by decide +kernel
theorem dX11_factor_48 : decode cX11_factor 48 = .ok (.iadd, 1) := by decide +kernel
theorem dX11_factor_49 : decode cX11_factor 49 = .ok (.putfield 81, 3) := by decide +kernel
theorem dX11_factor_52 : decode cX11_factor 52 = .ok (.aload_n 0, 1) := by decide +kernel
theorem dX11_factor_53 : decode cX11_factor 53 = .ok (.dup, 1) := by decide +kernel
theorem dX11_factor_54 : decode cX11_factor 54 = .ok (.getfield 51, 3) := by decide +kernel
theorem dX11_factor_57 : decode cX11_factor 57 = .ok (.aload_n 0, 1) := by decide +kernel
theorem dX11_factor_58 : decode cX11_factor 58 = .ok (.getfield 57, 3) := by decide +kernel
theorem dX11_factor_61 : decode cX11_factor 61 = .ok (.ifCond .eq 7, 3) := by decide +kernel
theorem dX11_factor_64 : decode cX11_factor 64 = .ok (.iconst 0, 1) := by decide +kernel
theorem dX11_factor_65 : decode cX11_factor 65 = .ok (.goto 4, 3) := by decide +kernel
theorem dX11_factor_68 : decode cX11_factor 68 = .ok (.iconst 1, 1) := by decide +kernel
theorem dX11_factor_69 : decode cX11_factor 69 = .ok (.iadd, 1) := by decide +kernel
theorem dX11_factor_70 : decode cX11_factor 70 = .ok (.putfield 51, 3) := by decide +kernel
theorem dX11_factor_73 : decode cX11_factor 73 = .ok (.iload_n 1, 1) := by decide +kernel
theorem dX11_factor_74 : decode cX11_factor 74 = .ok (.bipush 33, 2) := by decide +kernel
theorem dX11_factor_76 : decode cX11_factor 76 = .ok (.if_icmp .ne 15, 3) := by decide +kernel
theorem dX11_factor_79 : decode cX11_factor 79 = .ok (.aload_n 0, 1) := by decide +kernel
theorem dX11_factor_80 : decode cX11_factor 80 = .ok (.invokevirtual 84, 3) := by decide +kernel
theorem dX11_factor_83 : decode cX11_factor 83 = .ok (.aload_n 0, 1) := by decide +kernel
theorem dX11_factor_84 : decode cX11_factor 84 = .ok (.iconst (-1), 1) := by decide +kernel
theorem dX11_factor_85 : decode cX11_factor 85 = .ok (.invokevirtual 87, 3) := by decide +kernel
theorem dX11_factor_88 : decode cX11_factor 88 = .ok (.goto 13, 3) := by decide +kernel
theorem dX11_factor_91 : decode cX11_factor 91 = .ok (.aload_n 0, 1) := by decide +kernel
theorem dX11_factor_92 : decode cX11_factor 92 = .ok (.invokevirtual 90, 3) := by decide +kernel
theorem dX11_factor_95 : decode cX11_factor 95 = .ok (.aload_n 0, 1) := by decide +kernel
theorem dX11_factor_96 : decode cX11_factor 96 = .ok (.bipush 41, 2) := by decide +kernel
theorem dX11_factor_98 : decode cX11_factor 98 = .ok (.invokevirtual 74, 3) := by decide +kernel
theorem dX11_factor_101 : decode cX11_factor 101 = .ok (.aload_n 0, 1) := by decide +kernel
theorem dX11_factor_102 : decode cX11_factor 102 = .ok (.dup, 1) := by decide +kernel
theorem dX11_factor_103 : decode cX11_factor 103 = .ok (.getfield 81, 3) := by decide +kernel
theorem dX11_factor_106 : decode cX11_factor 106 = .ok (.iconst 1, 1) := by decide +kernel
theorem dX11_factor_107 : decode cX11_factor 107 = .ok (.isub, 1) := by decide +kernel
theorem dX11_factor_108 : decode cX11_factor 108 = .ok (.putfield 81, 3) := by decide +kernel
theorem dX11_factor_111 : decode cX11_factor 111 = .ok (.return_, 1) := by decide +kernel
theorem dX11_factor_112 : decode cX11_factor 112 = .ok (.aload_n 0, 1) := by decide +kernel
theorem dX11_factor_113 : decode cX11_factor 113 = .ok (.ldc 93, 2) := by decide +kernel
theorem dX11_factor_115 : decode cX11_factor 115 = .ok (.invokevirtual 95, 3) := by decide +kernel
theorem dX11_factor_118 : decode cX11_factor 118 = .ok (.istore_n 2, 1) := by decide +kernel
theorem dX11_factor_119 : decode cX11_factor 119 = .ok (.aload_n 0, 1) := by decide +kernel
theorem dX11_factor_120 : decode cX11_factor 120 = .ok (.iload_n 2, 1) := by decide +kernel
theorem dX11_factor_121 : decode cX11_factor 121 = .ok (.iconst (-1), 1) := by decide +kernel
theorem dX11_factor_122 : decode cX11_factor 122 = .ok (.if_icmp .ne 7, 3) := by decide +kernel
theorem dX11_factor_125 : decode cX11_factor 125 = .ok (.iconst 1, 1) := by decide +kernel
theorem dX11_factor_126 : decode cX11_factor 126 = .ok (.goto 4, 3) := by decide +kernel
theorem dX11_factor_129 : decode cX11_factor 129 = .ok (.iconst 0, 1) := by decide +kernel
theorem dX11_factor_130 : decode cX11_factor 130 = .ok (.putfield 57, 3) := by decide +kernel
theorem dX11_factor_133 : decode cX11_factor 133 = .ok (.aload_n 0, 1) := by decide +kernel
theorem dX11_factor_134 : decode cX11_factor 134 = .ok (.getfield 57, 3) := by decide +kernel
theorem dX11_factor_137 : decode cX11_factor 137 = .ok (.ifCond .eq 7, 3) := by decide +kernel
theorem dX11_factor_140 : decode cX11_factor 140 = .ok (.iconst 0, 1) := by decide +kernel
theorem dX11_factor_141 : decode cX11_factor 141 = .ok (.goto 9, 3) := by decide +kernel
theorem dX11_factor_144 : decode cX11_factor 144 = .ok (.aload_n 0, 1) := by decide +kernel
theorem dX11_factor_145 : decode cX11_factor 145 = .ok (.ldc 99, 2) := by decide +kernel
theorem dX11_factor_147 : decode cX11_factor 147 = .ok (.invokevirtual 95, 3) := by decide +kernel
theorem dX11_factor_150 : decode cX11_factor 150 = .ok (.istore_n 3, 1) := by decide +kernel
theorem dX11_factor_151 : decode cX11_factor 151 = .ok (.aload_n 0, 1) := by decide +kernel
theorem dX11_factor_152 : decode cX11_factor 152 = .ok (.aload_n 0, 1) := by decide +kernel
theorem dX11_factor_153 : decode cX11_factor 153 = .ok (.getfield 57, 3) := by decide +kernel
theorem dX11_factor_156 : decode cX11_factor 156 = .ok (.ifCond .ne 8, 3) := by decide +kernel
theorem dX11_factor_159 : decode cX11_factor 159 = .ok (.iload_n 3, 1) := by decide +kernel
theorem dX11_factor_160 : decode cX11_factor 160 = .ok (.iconst (-1), 1) := by decide +kernel
theorem dX11_factor_161 : decode cX11_factor 161 = .ok (.if_icmp .ne 7, 3) := by decide +kernel
theorem dX11_factor_164 : decode cX11_factor 164 = .ok (.iconst 1, 1) := by decide +kernel
theorem dX11_factor_165 : decode cX11_factor 165 = .ok (.goto 4, 3) := by decide +kernel
theorem dX11_factor_168 : decode cX11_factor 168 = .ok (.iconst 0, 1) := by decide +kernel
theorem dX11_factor_169 : decode cX11_factor 169 = .ok (.putfield 57, 3) := by decide +kernel
theorem dX11_factor_172 : decode cX11_factor 172 = .ok (.aload_n 0, 1) := by decide +kernel
theorem dX11_factor_173 : decode cX11_factor 173 = .ok (.invokevirtual 101, 3) := by decide +kernel
theorem dX11_factor_176 : decode cX11_factor 176 = .ok (.istore 4, 2) := by decide +kernel
theorem dX11_factor_178 : decode cX11_factor 178 = .ok (.aload_n 0, 1) := by decide +kernel
theorem dX11_factor_179 : decode cX11_factor 179 = .ok (.iload_n 2, 1) := by decide +kernel
theorem dX11_factor_180 : decode cX11_factor 180 = .ok (.bipush 8, 2) := by decide +kernel
theorem dX11_factor_182 : decode cX11_factor 182 = .ok (.iload_n 3, 1) := by decide +kernel
theorem dX11_factor_183 : decode cX11_factor 183 = .ok (.imul, 1) := by decide +kernel
theorem dX11_factor_184 : decode cX11_factor 184 = .ok (.iadd, 1) := by decide +kernel
theorem dX11_factor_185 : decode cX11_factor 185 = .ok (.bipush 32, 2) := by decide +kernel
theorem dX11_factor_187 : decode cX11_factor 187 = .ok (.iload 4, 2) := by decide +kernel
theorem dX11_factor_189 : decode cX11_factor 189 = .ok (.imul, 1) := by decide +kernel
theorem dX11_factor_190 : decode cX11_factor 190 = .ok (.iadd, 1) := by decide +kernel
theorem dX11_factor_191 : decode cX11_factor 191 = .ok (.invokevirtual 87, 3) := by decide +kernel
theorem dX11_factor_194 : decode cX11_factor 194 = .ok (.return_, 1) := by decide +kernel
theorem dX11_every_0 : decode cX11_every 0 = .ok (.aload_n 0, 1) := by decide +kernel
theorem dX11_every_1 : decode cX11_every 1 = .ok (.invokevirtual 84, 3) := by decide +kernel
theorem dX11_every_4 : decode cX11_every 4 = .ok (.aload_n 0, 1) := by decide +kernel
theorem dX11_every_5 : decode cX11_every 5 = .ok (.getfield 57, 3) := by decide +kernel
theorem dX11_every_8 : decode cX11_every 8 = .ok (.ifCond .ne 35, 3) := by decide +kernel
theorem dX11_every_11 : decode cX11_every 11 = .ok (.aload_n 0, 1) := by decide +kernel
theorem dX11_every_12 : decode cX11_every 12 = .ok (.invokevirtual 61, 3) := by decide +kernel
theorem dX11_every_15 : decode cX11_every 15 = .ok (.bipush 38, 2) := by decide +kernel
theorem dX11_every_17 : decode cX11_every 17 = .ok (.if_icmp .ne 26, 3) := by decide +kernel
theorem dX11_every_20 : decode cX11_every 20 = .ok (.aload_n 0, 1) := by decide +kernel
theorem dX11_every_21 : decode cX11_every 21 = .ok (.dup, 1) := by decide +kernel
theorem dX11_every_22 : decode cX11_every 22 = .ok (.getfield 51, 3) := by decide +kernel
theorem dX11_every_25 : decode cX11_every 25 = .ok (.iconst 1, 1) := by decide +kernel
theorem dX11_every_26 : decode cX11_every 26 = .ok (.iadd, 1) := by decide +kernel
theorem dX11_every_27 : decode cX11_every 27 = .ok (.putfield 51, 3) := by decide +kernel
theorem dX11_every_30 : decode cX11_every 30 = .ok (.aload_n 0, 1) := by decide +kernel
theorem dX11_every_31 : decode cX11_every 31 = .ok (.invokevirtual 84, 3) := by decide +kernel
theorem dX11_every_34 : decode cX11_every 34 = .ok (.aload_n 0, 1) := by decide +kernel
theorem dX11_every_35 : decode cX11_every 35 = .ok (.bipush (-2), 2) := by decide +kernel
theorem dX11_every_37 : decode cX11_every 37 = .ok (.invokevirtual 87, 3) := by decide +kernel
theorem dX11_every_40 : decode cX11_every 40 = .ok (.goto (-36), 3) := by decide +kernel
theorem dX11_every_43 : decode cX11_every 43 = .ok (.return_, 1) := by decide +kernel
theorem dX11_some_0 : decode cX11_some 0 = .ok (.aload_n 0, 1) := by decide +kernel
theorem dX11_some_1 : decode cX11_some 1 = .ok (.invokevirtual 104, 3) := by decide +kernel
theorem dX11_some_4 : decode cX11_some 4 = .ok (.aload_n 0, 1) := by decide +kernel
theorem dX11_some_5 : decode cX11_some 5 = .ok (.getfield 57, 3) := by decide +kernel
theorem dX11_some_8 : decode cX11_some 8 = .ok (.ifCond .ne 35, 3) := by decide +kernel
theorem dX11_some_11 : decode cX11_some 11 = .ok (.aload_n 0, 1) := by decide +kernel
theorem dX11_some_12 : decode cX11_some 12 = .ok (.invokevirtual 61, 3) := by decide +kernel
theorem dX11_some_15 : decode cX11_some 15 = .ok (.bipush 124, 2) := by decide +kernel
theorem dX11_some_17 : decode cX11_some 17 = .ok (.if_icmp .ne 26, 3) := by decide +kernel
theorem dX11_some_20 : decode cX11_some 20 = .ok (.aload_n 0, 1) := by decide +kernel
theorem dX11_some_21 : decode cX11_some 21 = .ok (.dup, 1) := by decide +kernel
theorem dX11_some_22 : decode cX11_some 22 = .ok (.getfield 51, 3) := by decide +kernel
theorem dX11_some_25 : decode cX11_some 25 = .ok (.iconst 1, 1) := by decide +kernel
theorem dX11_some_26 : decode cX11_some 26 = .ok (.iadd, 1) := by decide +kernel
theorem dX11_some_27 : decode cX11_some 27 = .ok (.putfield 51, 3) := by decide +kernel
theorem dX11_some_30 : decode cX11_some 30 = .ok (.aload_n 0, 1) := by decide +kernel
theorem dX11_some_31 : decode cX11_some 31 = .ok (.invokevirtual 104, 3) := by decide +kernel
theorem dX11_some_34 : decode cX11_some 34 = .ok (.aload_n 0, 1) := by decide +kernel
theorem dX11_some_35 : decode cX11_some 35 = .ok (.bipush (-3), 2) := by decide +kernel
theorem dX11_some_37 : decode cX11_some 37 = .ok (.invokevirtual 87, 3) := by decide +kernel
theorem dX11_some_40 : decode cX11_some 40 = .ok (.goto (-36), 3) := by decide +kernel
theorem dX11_some_43 : decode cX11_some 43 = .ok (.return_, 1) := by decide +kernel
theorem dX11_tellsHere_0 : decode cX11_tellsHere 0 = .ok (.aload_n 0, 1) := by decide +kernel
theorem dX11_tellsHere_1 : decode cX11_tellsHere 1 = .ok (.aload_n 2, 1) := by decide +kernel
theorem dX11_tellsHere_2 : decode cX11_tellsHere 2 = .ok (.invokevirtual 107, 3) := by decide +kernel
theorem dX11_tellsHere_5 : decode cX11_tellsHere 5 = .ok (.aload_n 0, 1) := by decide +kernel
theorem dX11_tellsHere_6 : decode cX11_tellsHere 6 = .ok (.invokevirtual 101, 3) := by decide +kernel
theorem dX11_tellsHere_9 : decode cX11_tellsHere 9 = .ok (.istore_n 3, 1) := by decide +kernel
theorem dX11_tellsHere_10 : decode cX11_tellsHere 10 = .ok (.aload_n 0, 1) := by decide +kernel
theorem dX11_tellsHere_11 : decode cX11_tellsHere 11 = .ok (.getfield 57, 3) := by decide +kernel
theorem dX11_tellsHere_14 : decode cX11_tellsHere 14 = .ok (.ifCond .ne 15, 3) := by decide +kernel
theorem dX11_tellsHere_17 : decode cX11_tellsHere 17 = .ok (.aload_n 0, 1) := by decide +kernel
theorem dX11_tellsHere_18 : decode cX11_tellsHere 18 = .ok (.getfield 9, 3) := by decide +kernel
theorem dX11_tellsHere_21 : decode cX11_tellsHere 21 = .ok (.iload_n 1, 1) := by decide +kernel
theorem dX11_tellsHere_22 : decode cX11_tellsHere 22 = .ok (.aload_n 0, 1) := by decide +kernel
theorem dX11_tellsHere_23 : decode cX11_tellsHere 23 = .ok (.getfield 78, 3) := by decide +kernel
theorem dX11_tellsHere_26 : decode cX11_tellsHere 26 = .ok (.iadd, 1) := by decide +kernel
theorem dX11_tellsHere_27 : decode cX11_tellsHere 27 = .ok (.iload_n 3, 1) := by decide +kernel
theorem dX11_tellsHere_28 : decode cX11_tellsHere 28 = .ok (.iastore, 1) := by decide +kernel
theorem dX11_tellsHere_29 : decode cX11_tellsHere 29 = .ok (.return_, 1) := by decide +kernel
theorem dX11_clauseOfF_0 : decode cX11_clauseOfF 0 = .ok (.aload_n 0, 1) := by decide +kernel
theorem dX11_clauseOfF_1 : decode cX11_clauseOfF 1 = .ok (.bipush 102, 2) := by decide +kernel
theorem dX11_clauseOfF_3 : decode cX11_clauseOfF 3 = .ok (.invokevirtual 74, 3) := by decide +kernel
theorem dX11_clauseOfF_6 : decode cX11_clauseOfF 6 = .ok (.aload_n 0, 1) := by decide +kernel
theorem dX11_clauseOfF_7 : decode cX11_clauseOfF 7 = .ok (.invokevirtual 61, 3) := by decide +kernel
theorem dX11_clauseOfF_10 : decode cX11_clauseOfF 10 = .ok (.bipush 105, 2) := by decide +kernel
theorem dX11_clauseOfF_12 : decode cX11_clauseOfF 12 = .ok (.if_icmp .ne 36, 3) := by decide +kernel
theorem dX11_clauseOfF_15 : decode cX11_clauseOfF 15 = .ok (.aload_n 0, 1) := by decide +kernel
theorem dX11_clauseOfF_16 : decode cX11_clauseOfF 16 = .ok (.ldc 111, 2) := by decide +kernel
theorem dX11_clauseOfF_18 : decode cX11_clauseOfF 18 = .ok (.invokevirtual 107, 3) := by decide +kernel
theorem dX11_clauseOfF_21 : decode cX11_clauseOfF 21 = .ok (.aload_n 0, 1) := by decide +kernel
theorem dX11_clauseOfF_22 : decode cX11_clauseOfF 22 = .ok (.invokevirtual 101, 3) := by decide +kernel
theorem dX11_clauseOfF_25 : decode cX11_clauseOfF 25 = .ok (.istore_n 1, 1) := by decide +kernel
theorem dX11_clauseOfF_26 : decode cX11_clauseOfF 26 = .ok (.aload_n 0, 1) := by decide +kernel
theorem dX11_clauseOfF_27 : decode cX11_clauseOfF 27 = .ok (.bipush 32, 2) := by decide +kernel
theorem dX11_clauseOfF_29 : decode cX11_clauseOfF 29 = .ok (.invokevirtual 74, 3) := by decide +kernel
theorem dX11_clauseOfF_32 : decode cX11_clauseOfF 32 = .ok (.aload_n 0, 1) := by decide +kernel
theorem dX11_clauseOfF_33 : decode cX11_clauseOfF 33 = .ok (.invokevirtual 90, 3) := by decide +kernel
theorem dX11_clauseOfF_36 : decode cX11_clauseOfF 36 = .ok (.aload_n 0, 1) := by decide +kernel
theorem dX11_clauseOfF_37 : decode cX11_clauseOfF 37 = .ok (.sipush (-200), 3) := by decide +kernel
theorem dX11_clauseOfF_40 : decode cX11_clauseOfF 40 = .ok (.iload_n 1, 1) := by decide +kernel
theorem dX11_clauseOfF_41 : decode cX11_clauseOfF 41 = .ok (.isub, 1) := by decide +kernel
theorem dX11_clauseOfF_42 : decode cX11_clauseOfF 42 = .ok (.invokevirtual 87, 3) := by decide +kernel
theorem dX11_clauseOfF_45 : decode cX11_clauseOfF 45 = .ok (.goto 12, 3) := by decide +kernel
theorem dX11_clauseOfF_48 : decode cX11_clauseOfF 48 = .ok (.aload_n 0, 1) := by decide +kernel
theorem dX11_clauseOfF_49 : decode cX11_clauseOfF 49 = .ok (.sipush 229, 3) := by decide +kernel
theorem dX11_clauseOfF_52 : decode cX11_clauseOfF 52 = .ok (.ldc 113, 2) := by decide +kernel
theorem dX11_clauseOfF_54 : decode cX11_clauseOfF 54 = .ok (.invokevirtual 115, 3) := by decide +kernel
theorem dX11_clauseOfF_57 : decode cX11_clauseOfF 57 = .ok (.return_, 1) := by decide +kernel
theorem dX11_clauseHere_0 : decode cX11_clauseHere 0 = .ok (.aload_n 0, 1) := by decide +kernel
theorem dX11_clauseHere_1 : decode cX11_clauseHere 1 = .ok (.invokevirtual 61, 3) := by decide +kernel
theorem dX11_clauseHere_4 : decode cX11_clauseHere 4 = .ok (.lookupswitch 74 #[(102, 55), (108, 62), (115, 36)], 36) := by decide +kernel
theorem dX11_clauseHere_40 : decode cX11_clauseHere 40 = .ok (.aload_n 0, 1) := by decide +kernel
theorem dX11_clauseHere_41 : decode cX11_clauseHere 41 = .ok (.ldc 119, 2) := by decide +kernel
theorem dX11_clauseHere_43 : decode cX11_clauseHere 43 = .ok (.invokevirtual 107, 3) := by decide +kernel
theorem dX11_clauseHere_46 : decode cX11_clauseHere 46 = .ok (.aload_n 0, 1) := by decide +kernel
theorem dX11_clauseHere_47 : decode cX11_clauseHere 47 = .ok (.invokevirtual 90, 3) := by decide +kernel
theorem dX11_clauseHere_50 : decode cX11_clauseHere 50 = .ok (.aload_n 0, 1) := by decide +kernel
theorem dX11_clauseHere_51 : decode cX11_clauseHere 51 = .ok (.bipush (-10), 2) := by decide +kernel
theorem dX11_clauseHere_53 : decode cX11_clauseHere 53 = .ok (.invokevirtual 87, 3) := by decide +kernel
theorem dX11_clauseHere_56 : decode cX11_clauseHere 56 = .ok (.goto 27, 3) := by decide +kernel
theorem dX11_clauseHere_59 : decode cX11_clauseHere 59 = .ok (.aload_n 0, 1) := by decide +kernel
theorem dX11_clauseHere_60 : decode cX11_clauseHere 60 = .ok (.invokevirtual 121, 3) := by decide +kernel
theorem dX11_clauseHere_63 : decode cX11_clauseHere 63 = .ok (.goto 20, 3) := by decide +kernel
theorem dX11_clauseHere_66 : decode cX11_clauseHere 66 = .ok (.aload_n 0, 1) := by decide +kernel
theorem dX11_clauseHere_67 : decode cX11_clauseHere 67 = .ok (.sipush 234, 3) := by decide +kernel
theorem dX11_clauseHere_70 : decode cX11_clauseHere 70 = .ok (.ldc 124, 2) := by decide +kernel
theorem dX11_clauseHere_72 : decode cX11_clauseHere 72 = .ok (.invokevirtual 115, 3) := by decide +kernel
theorem dX11_clauseHere_75 : decode cX11_clauseHere 75 = .ok (.goto 8, 3) := by decide +kernel
theorem dX11_clauseHere_78 : decode cX11_clauseHere 78 = .ok (.aload_n 0, 1) := by decide +kernel
theorem dX11_clauseHere_79 : decode cX11_clauseHere 79 = .ok (.iconst 1, 1) := by decide +kernel
theorem dX11_clauseHere_80 : decode cX11_clauseHere 80 = .ok (.putfield 57, 3) := by decide +kernel
theorem dX11_clauseHere_83 : decode cX11_clauseHere 83 = .ok (.return_, 1) := by decide +kernel
theorem dX11_town_0 : decode cX11_town 0 = .ok (.aload_n 0, 1) := by decide +kernel
theorem dX11_town_1 : decode cX11_town 1 = .ok (.getfield 9, 3) := by decide +kernel
theorem dX11_town_4 : decode cX11_town 4 = .ok (.bipush 19, 2) := by decide +kernel
theorem dX11_town_6 : decode cX11_town 6 = .ok (.iaload, 1) := by decide +kernel
theorem dX11_town_7 : decode cX11_town 7 = .ok (.iconst 5, 1) := by decide +kernel
theorem dX11_town_8 : decode cX11_town 8 = .ok (.if_icmp .ne 6, 3) := by decide +kernel
theorem dX11_town_11 : decode cX11_town 11 = .ok (.bipush (-4), 2) := by decide +kernel
theorem dX11_town_13 : decode cX11_town 13 = .ok (.ireturn, 1) := by decide +kernel
theorem dX11_town_14 : decode cX11_town 14 = .ok (.aload_n 0, 1) := by decide +kernel
theorem dX11_town_15 : decode cX11_town 15 = .ok (.aload_n 0, 1) := by decide +kernel
theorem dX11_town_16 : decode cX11_town 16 = .ok (.getfield 9, 3) := by decide +kernel
theorem dX11_town_19 : decode cX11_town 19 = .ok (.bipush 19, 2) := by decide +kernel
theorem dX11_town_21 : decode cX11_town 21 = .ok (.iaload, 1) := by decide +kernel
theorem dX11_town_22 : decode cX11_town 22 = .ok (.putfield 78, 3) := by decide +kernel
theorem dX11_town_25 : decode cX11_town 25 = .ok (.aload_n 0, 1) := by decide +kernel
theorem dX11_town_26 : decode cX11_town 26 = .ok (.aload_n 0, 1) := by decide +kernel
theorem dX11_town_27 : decode cX11_town 27 = .ok (.getfield 9, 3) := by decide +kernel
theorem dX11_town_30 : decode cX11_town 30 = .ok (.bipush 22, 2) := by decide +kernel
theorem dX11_town_32 : decode cX11_town 32 = .ok (.iaload, 1) := by decide +kernel
theorem dX11_town_33 : decode cX11_town 33 = .ok (.putfield 54, 3) := by decide +kernel
theorem dX11_town_36 : decode cX11_town 36 = .ok (.aload_n 0, 1) := by decide +kernel
theorem dX11_town_37 : decode cX11_town 37 = .ok (.getfield 9, 3) := by decide +kernel
theorem dX11_town_40 : decode cX11_town 40 = .ok (.bipush 22, 2) := by decide +kernel
theorem dX11_town_42 : decode cX11_town 42 = .ok (.iconst 0, 1) := by decide +kernel
theorem dX11_town_43 : decode cX11_town 43 = .ok (.iastore, 1) := by decide +kernel
theorem dX11_town_44 : decode cX11_town 44 = .ok (.aload_n 0, 1) := by decide +kernel
theorem dX11_town_45 : decode cX11_town 45 = .ok (.getfield 9, 3) := by decide +kernel
theorem dX11_town_48 : decode cX11_town 48 = .ok (.sipush 229, 3) := by decide +kernel
theorem dX11_town_51 : decode cX11_town 51 = .ok (.aload_n 0, 1) := by decide +kernel
theorem dX11_town_52 : decode cX11_town 52 = .ok (.getfield 78, 3) := by decide +kernel
theorem dX11_town_55 : decode cX11_town 55 = .ok (.iadd, 1) := by decide +kernel
theorem dX11_town_56 : decode cX11_town 56 = .ok (.iconst 1, 1) := by decide +kernel
theorem dX11_town_57 : decode cX11_town 57 = .ok (.iastore, 1) := by decide +kernel
theorem dX11_town_58 : decode cX11_town 58 = .ok (.aload_n 0, 1) := by decide +kernel
theorem dX11_town_59 : decode cX11_town 59 = .ok (.getfield 9, 3) := by decide +kernel
theorem dX11_town_62 : decode cX11_town 62 = .ok (.sipush 234, 3) := by decide +kernel
theorem dX11_town_65 : decode cX11_town 65 = .ok (.aload_n 0, 1) := by decide +kernel
theorem dX11_town_66 : decode cX11_town 66 = .ok (.getfield 78, 3) := by decide +kernel
theorem dX11_town_69 : decode cX11_town 69 = .ok (.iadd, 1) := by decide +kernel
theorem dX11_town_70 : decode cX11_town 70 = .ok (.iconst 0, 1) := by decide +kernel
theorem dX11_town_71 : decode cX11_town 71 = .ok (.iastore, 1) := by decide +kernel
theorem dX11_town_72 : decode cX11_town 72 = .ok (.aload_n 0, 1) := by decide +kernel
theorem dX11_town_73 : decode cX11_town 73 = .ok (.getfield 9, 3) := by decide +kernel
theorem dX11_town_76 : decode cX11_town 76 = .ok (.sipush 239, 3) := by decide +kernel
theorem dX11_town_79 : decode cX11_town 79 = .ok (.aload_n 0, 1) := by decide +kernel
theorem dX11_town_80 : decode cX11_town 80 = .ok (.getfield 78, 3) := by decide +kernel
theorem dX11_town_83 : decode cX11_town 83 = .ok (.iadd, 1) := by decide +kernel
theorem dX11_town_84 : decode cX11_town 84 = .ok (.iconst 0, 1) := by decide +kernel
theorem dX11_town_85 : decode cX11_town 85 = .ok (.iastore, 1) := by decide +kernel
theorem dX11_town_86 : decode cX11_town 86 = .ok (.aload_n 0, 1) := by decide +kernel
theorem dX11_town_87 : decode cX11_town 87 = .ok (.iconst 0, 1) := by decide +kernel
theorem dX11_town_88 : decode cX11_town 88 = .ok (.putfield 51, 3) := by decide +kernel
theorem dX11_town_91 : decode cX11_town 91 = .ok (.aload_n 0, 1) := by decide +kernel
theorem dX11_town_92 : decode cX11_town 92 = .ok (.iconst 0, 1) := by decide +kernel
theorem dX11_town_93 : decode cX11_town 93 = .ok (.putfield 57, 3) := by decide +kernel
theorem dX11_town_96 : decode cX11_town 96 = .ok (.aload_n 0, 1) := by decide +kernel
theorem dX11_town_97 : decode cX11_town 97 = .ok (.iconst 0, 1) := by decide +kernel
theorem dX11_town_98 : decode cX11_town 98 = .ok (.putfield 81, 3) := by decide +kernel
theorem dX11_town_101 : decode cX11_town 101 = .ok (.iconst 1, 1) := by decide +kernel
theorem dX11_town_102 : decode cX11_town 102 = .ok (.istore_n 1, 1) := by decide +kernel
theorem dX11_town_103 : decode cX11_town 103 = .ok (.aload_n 0, 1) := by decide +kernel
theorem dX11_town_104 : decode cX11_town 104 = .ok (.invokevirtual 126, 3) := by decide +kernel
theorem dX11_town_107 : decode cX11_town 107 = .ok (.aload_n 0, 1) := by decide +kernel
theorem dX11_town_108 : decode cX11_town 108 = .ok (.getfield 57, 3) := by decide +kernel
theorem dX11_town_111 : decode cX11_town 111 = .ok (.ifCond .ne 38, 3) := by decide +kernel
theorem dX11_town_114 : decode cX11_town 114 = .ok (.iload_n 1, 1) := by decide +kernel
theorem dX11_town_115 : decode cX11_town 115 = .ok (.bipush 10, 2) := by decide +kernel
theorem dX11_town_117 : decode cX11_town 117 = .ok (.if_icmp .ge 32, 3) := by decide +kernel
theorem dX11_town_120 : decode cX11_town 120 = .ok (.aload_n 0, 1) := by decide +kernel
theorem dX11_town_121 : decode cX11_town 121 = .ok (.invokevirtual 61, 3) := by decide +kernel
theorem dX11_town_124 : decode cX11_town 124 = .ok (.bipush 59, 2) := by decide +kernel
theorem dX11_town_126 : decode cX11_town 126 = .ok (.if_icmp .ne 23, 3) := by decide +kernel
theorem dX11_town_129 : decode cX11_town 129 = .ok (.aload_n 0, 1) := by decide +kernel
theorem dX11_town_130 : decode cX11_town 130 = .ok (.dup, 1) := by decide +kernel
theorem dX11_town_131 : decode cX11_town 131 = .ok (.getfield 51, 3) := by decide +kernel
theorem dX11_town_134 : decode cX11_town 134 = .ok (.iconst 1, 1) := by decide +kernel
theorem dX11_town_135 : decode cX11_town 135 = .ok (.iadd, 1) := by decide +kernel
theorem dX11_town_136 : decode cX11_town 136 = .ok (.putfield 51, 3) := by decide +kernel
theorem dX11_town_139 : decode cX11_town 139 = .ok (.aload_n 0, 1) := by decide +kernel
theorem dX11_town_140 : decode cX11_town 140 = .ok (.invokevirtual 126, 3) := by decide +kernel
theorem dX11_town_143 : decode cX11_town 143 = .ok (.iinc 1 1, 3) := by decide +kernel
theorem dX11_town_146 : decode cX11_town 146 = .ok (.goto (-39), 3) := by decide +kernel
theorem dX11_town_149 : decode cX11_town 149 = .ok (.aload_n 0, 1) := by decide +kernel
theorem dX11_town_150 : decode cX11_town 150 = .ok (.getfield 57, 3) := by decide +kernel
theorem dX11_town_153 : decode cX11_town 153 = .ok (.ifCond .ne 14, 3) := by decide +kernel
theorem dX11_town_156 : decode cX11_town 156 = .ok (.aload_n 0, 1) := by decide +kernel
theorem dX11_town_157 : decode cX11_town 157 = .ok (.getfield 51, 3) := by decide +kernel
theorem dX11_town_160 : decode cX11_town 160 = .ok (.aload_n 0, 1) := by decide +kernel
theorem dX11_town_161 : decode cX11_town 161 = .ok (.getfield 54, 3) := by decide +kernel
theorem dX11_town_164 : decode cX11_town 164 = .ok (.if_icmp .eq 11, 3) := by decide +kernel
theorem dX11_town_167 : decode cX11_town 167 = .ok (.bipush (-10), 2) := by decide +kernel
theorem dX11_town_169 : decode cX11_town 169 = .ok (.aload_n 0, 1) := by decide +kernel
theorem dX11_town_170 : decode cX11_town 170 = .ok (.getfield 51, 3) := by decide +kernel
theorem dX11_town_173 : decode cX11_town 173 = .ok (.isub, 1) := by decide +kernel
theorem dX11_town_174 : decode cX11_town 174 = .ok (.ireturn, 1) := by decide +kernel
theorem dX11_town_175 : decode cX11_town 175 = .ok (.aload_n 0, 1) := by decide +kernel
theorem dX11_town_176 : decode cX11_town 176 = .ok (.getfield 9, 3) := by decide +kernel
theorem dX11_town_179 : decode cX11_town 179 = .ok (.bipush 19, 2) := by decide +kernel
theorem dX11_town_181 : decode cX11_town 181 = .ok (.dup2, 1) := by decide +kernel
theorem dX11_town_182 : decode cX11_town 182 = .ok (.iaload, 1) := by decide +kernel
theorem dX11_town_183 : decode cX11_town 183 = .ok (.iconst 1, 1) := by decide +kernel
theorem dX11_town_184 : decode cX11_town 184 = .ok (.iadd, 1) := by decide +kernel
theorem dX11_town_185 : decode cX11_town 185 = .ok (.iastore, 1) := by decide +kernel
theorem dX11_town_186 : decode cX11_town 186 = .ok (.aload_n 0, 1) := by decide +kernel
theorem dX11_town_187 : decode cX11_town 187 = .ok (.getfield 9, 3) := by decide +kernel
theorem dX11_town_190 : decode cX11_town 190 = .ok (.bipush 23, 2) := by decide +kernel
theorem dX11_town_192 : decode cX11_town 192 = .ok (.aload_n 0, 1) := by decide +kernel
theorem dX11_town_193 : decode cX11_town 193 = .ok (.getfield 78, 3) := by decide +kernel
theorem dX11_town_196 : decode cX11_town 196 = .ok (.iastore, 1) := by decide +kernel
theorem dX11_town_197 : decode cX11_town 197 = .ok (.aload_n 0, 1) := by decide +kernel
theorem dX11_town_198 : decode cX11_town 198 = .ok (.getfield 78, 3) := by decide +kernel
theorem dX11_town_201 : decode cX11_town 201 = .ok (.ireturn, 1) := by decide +kernel
theorem dX11_tellsOf_0 : decode cX11_tellsOf 0 = .ok (.aload_n 0, 1) := by decide +kernel
theorem dX11_tellsOf_1 : decode cX11_tellsOf 1 = .ok (.getfield 9, 3) := by decide +kernel
theorem dX11_tellsOf_4 : decode cX11_tellsOf 4 = .ok (.bipush 23, 2) := by decide +kernel
theorem dX11_tellsOf_6 : decode cX11_tellsOf 6 = .ok (.iaload, 1) := by decide +kernel
theorem dX11_tellsOf_7 : decode cX11_tellsOf 7 = .ok (.iconst (-1), 1) := by decide +kernel
theorem dX11_tellsOf_8 : decode cX11_tellsOf 8 = .ok (.if_icmp .ne 7, 3) := by decide +kernel
theorem dX11_tellsOf_11 : decode cX11_tellsOf 11 = .ok (.iload_n 2, 1) := by decide +kernel
theorem dX11_tellsOf_12 : decode cX11_tellsOf 12 = .ok (.goto 17, 3) := by decide +kernel
theorem dX11_tellsOf_15 : decode cX11_tellsOf 15 = .ok (.aload_n 0, 1) := by decide +kernel
theorem dX11_tellsOf_16 : decode cX11_tellsOf 16 = .ok (.getfield 9, 3) := by decide +kernel
theorem dX11_tellsOf_19 : decode cX11_tellsOf 19 = .ok (.iload_n 1, 1) := by decide +kernel
theorem dX11_tellsOf_20 : decode cX11_tellsOf 20 = .ok (.aload_n 0, 1) := by decide +kernel
theorem dX11_tellsOf_21 : decode cX11_tellsOf 21 = .ok (.getfield 9, 3) := by decide +kernel
theorem dX11_tellsOf_24 : decode cX11_tellsOf 24 = .ok (.bipush 23, 2) := by decide +kernel
theorem dX11_tellsOf_26 : decode cX11_tellsOf 26 = .ok (.iaload, 1) := by decide +kernel
theorem dX11_tellsOf_27 : decode cX11_tellsOf 27 = .ok (.iadd, 1) := by decide +kernel
theorem dX11_tellsOf_28 : decode cX11_tellsOf 28 = .ok (.iaload, 1) := by decide +kernel
theorem dX11_tellsOf_29 : decode cX11_tellsOf 29 = .ok (.ireturn, 1) := by decide +kernel
theorem dX11_looks_0 : decode cX11_looks 0 = .ok (.aload_n 0, 1) := by decide +kernel
theorem dX11_looks_1 : decode cX11_looks 1 = .ok (.getfield 21, 3) := by decide +kernel
theorem dX11_looks_4 : decode cX11_looks 4 = .ok (.iconst 0, 1) := by decide +kernel
theorem dX11_looks_5 : decode cX11_looks 5 = .ok (.iload_n 1, 1) := by decide +kernel
theorem dX11_looks_6 : decode cX11_looks 6 = .ok (.iastore, 1) := by decide +kernel
theorem dX11_looks_7 : decode cX11_looks 7 = .ok (.aload_n 0, 1) := by decide +kernel
theorem dX11_looks_8 : decode cX11_looks 8 = .ok (.getfield 21, 3) := by decide +kernel
theorem dX11_looks_11 : decode cX11_looks 11 = .ok (.iconst 1, 1) := by decide +kernel
theorem dX11_looks_12 : decode cX11_looks 12 = .ok (.iload_n 2, 1) := by decide +kernel
theorem dX11_looks_13 : decode cX11_looks 13 = .ok (.iastore, 1) := by decide +kernel
theorem dX11_looks_14 : decode cX11_looks 14 = .ok (.aload_n 0, 1) := by decide +kernel
theorem dX11_looks_15 : decode cX11_looks 15 = .ok (.getfield 21, 3) := by decide +kernel
theorem dX11_looks_18 : decode cX11_looks 18 = .ok (.iconst 2, 1) := by decide +kernel
theorem dX11_looks_19 : decode cX11_looks 19 = .ok (.aload_n 0, 1) := by decide +kernel
theorem dX11_looks_20 : decode cX11_looks 20 = .ok (.getfield 9, 3) := by decide +kernel
theorem dX11_looks_23 : decode cX11_looks 23 = .ok (.bipush 24, 2) := by decide +kernel
theorem dX11_looks_25 : decode cX11_looks 25 = .ok (.iload_n 1, 1) := by decide +kernel
theorem dX11_looks_26 : decode cX11_looks 26 = .ok (.iadd, 1) := by decide +kernel
theorem dX11_looks_27 : decode cX11_looks 27 = .ok (.iaload, 1) := by decide +kernel
theorem dX11_looks_28 : decode cX11_looks 28 = .ok (.iastore, 1) := by decide +kernel
theorem dX11_looks_29 : decode cX11_looks 29 = .ok (.aload_n 0, 1) := by decide +kernel
theorem dX11_looks_30 : decode cX11_looks 30 = .ok (.getfield 21, 3) := by decide +kernel
theorem dX11_looks_33 : decode cX11_looks 33 = .ok (.iconst 3, 1) := by decide +kernel
theorem dX11_looks_34 : decode cX11_looks 34 = .ok (.aload_n 0, 1) := by decide +kernel
theorem dX11_looks_35 : decode cX11_looks 35 = .ok (.iload_n 1, 1) := by decide +kernel
theorem dX11_looks_36 : decode cX11_looks 36 = .ok (.invokevirtual 129, 3) := by decide +kernel
theorem dX11_looks_39 : decode cX11_looks 39 = .ok (.ifCond .eq 14, 3) := by decide +kernel
theorem dX11_looks_42 : decode cX11_looks 42 = .ok (.aload_n 0, 1) := by decide +kernel
theorem dX11_looks_43 : decode cX11_looks 43 = .ok (.getfield 9, 3) := by decide +kernel
theorem dX11_looks_46 : decode cX11_looks 46 = .ok (.iconst 4, 1) := by decide +kernel
theorem dX11_looks_47 : decode cX11_looks 47 = .ok (.iload_n 1, 1) := by decide +kernel
theorem dX11_looks_48 : decode cX11_looks 48 = .ok (.iadd, 1) := by decide +kernel
theorem dX11_looks_49 : decode cX11_looks 49 = .ok (.iaload, 1) := by decide +kernel
theorem dX11_looks_50 : decode cX11_looks 50 = .ok (.goto 5, 3) := by decide +kernel
theorem dX11_looks_53 : decode cX11_looks 53 = .ok (.bipush 9, 2) := by decide +kernel
theorem dX11_looks_55 : decode cX11_looks 55 = .ok (.iastore, 1) := by decide +kernel
theorem dX11_looks_56 : decode cX11_looks 56 = .ok (.aload_n 0, 1) := by decide +kernel
theorem dX11_looks_57 : decode cX11_looks 57 = .ok (.getfield 21, 3) := by decide +kernel
theorem dX11_looks_60 : decode cX11_looks 60 = .ok (.iconst 4, 1) := by decide +kernel
theorem dX11_looks_61 : decode cX11_looks 61 = .ok (.aload_n 0, 1) := by decide +kernel
theorem dX11_looks_62 : decode cX11_looks 62 = .ok (.getfield 9, 3) := by decide +kernel
theorem dX11_looks_65 : decode cX11_looks 65 = .ok (.iconst 0, 1) := by decide +kernel
theorem dX11_looks_66 : decode cX11_looks 66 = .ok (.iaload, 1) := by decide +kernel
theorem dX11_looks_67 : decode cX11_looks 67 = .ok (.bipush 7, 2) := by decide +kernel
theorem dX11_looks_69 : decode cX11_looks 69 = .ok (.irem, 1) := by decide +kernel
theorem dX11_looks_70 : decode cX11_looks 70 = .ok (.iastore, 1) := by decide +kernel
theorem dX11_looks_71 : decode cX11_looks 71 = .ok (.aload_n 0, 1) := by decide +kernel
theorem dX11_looks_72 : decode cX11_looks 72 = .ok (.iconst 0, 1) := by decide +kernel
theorem dX11_looks_73 : decode cX11_looks 73 = .ok (.putfield 133, 3) := by decide +kernel
theorem dX11_looks_76 : decode cX11_looks 76 = .ok (.aload_n 0, 1) := by decide +kernel
theorem dX11_looks_77 : decode cX11_looks 77 = .ok (.iconst 0, 1) := by decide +kernel
theorem dX11_looks_78 : decode cX11_looks 78 = .ok (.putfield 136, 3) := by decide +kernel
theorem dX11_looks_81 : decode cX11_looks 81 = .ok (.aload_n 0, 1) := by decide +kernel
theorem dX11_looks_82 : decode cX11_looks 82 = .ok (.sipush 239, 3) := by decide +kernel
theorem dX11_looks_85 : decode cX11_looks 85 = .ok (.iconst 0, 1) := by decide +kernel
theorem dX11_looks_86 : decode cX11_looks 86 = .ok (.invokevirtual 139, 3) := by decide +kernel
theorem dX11_looks_89 : decode cX11_looks 89 = .ok (.istore_n 3, 1) := by decide +kernel
theorem dX11_looks_90 : decode cX11_looks 90 = .ok (.sipush 244, 3) := by decide +kernel
theorem dX11_looks_93 : decode cX11_looks 93 = .ok (.sipush 140, 3) := by decide +kernel
theorem dX11_looks_96 : decode cX11_looks 96 = .ok (.aload_n 0, 1) := by decide +kernel
theorem dX11_looks_97 : decode cX11_looks 97 = .ok (.getfield 9, 3) := by decide +kernel
theorem dX11_looks_100 : decode cX11_looks 100 = .ok (.bipush 23, 2) := by decide +kernel
theorem dX11_looks_102 : decode cX11_looks 102 = .ok (.iaload, 1) := by decide +kernel
theorem dX11_looks_103 : decode cX11_looks 103 = .ok (.imul, 1) := by decide +kernel
theorem dX11_looks_104 : decode cX11_looks 104 = .ok (.iadd, 1) := by decide +kernel
theorem dX11_looks_105 : decode cX11_looks 105 = .ok (.istore 4, 2) := by decide +kernel
theorem dX11_looks_107 : decode cX11_looks 107 = .ok (.iconst 0, 1) := by decide +kernel
theorem dX11_looks_108 : decode cX11_looks 108 = .ok (.istore 5, 2) := by decide +kernel
theorem dX11_looks_110 : decode cX11_looks 110 = .ok (.iload 4, 2) := by decide +kernel
theorem dX11_looks_112 : decode cX11_looks 112 = .ok (.istore 6, 2) := by decide +kernel
theorem dX11_looks_114 : decode cX11_looks 114 = .ok (.iload 6, 2) := by decide +kernel
theorem dX11_looks_116 : decode cX11_looks 116 = .ok (.iload 4, 2) := by decide +kernel
theorem dX11_looks_118 : decode cX11_looks 118 = .ok (.iload_n 3, 1) := by decide +kernel
theorem dX11_looks_119 : decode cX11_looks 119 = .ok (.iadd, 1) := by decide +kernel
theorem dX11_looks_120 : decode cX11_looks 120 = .ok (.if_icmp .ge 309, 3) := by decide +kernel
theorem dX11_looks_123 : decode cX11_looks 123 = .ok (.aload_n 0, 1) := by decide +kernel
theorem dX11_looks_124 : decode cX11_looks 124 = .ok (.getfield 9, 3) := by decide +kernel
theorem dX11_looks_127 : decode cX11_looks 127 = .ok (.iload 6, 2) := by decide +kernel
theorem dX11_looks_129 : decode cX11_looks 129 = .ok (.iaload, 1) := by decide +kernel
theorem dX11_looks_130 : decode cX11_looks 130 = .ok (.istore 7, 2) := by decide +kernel
theorem dX11_looks_132 : decode cX11_looks 132 = .ok (.iload 7, 2) := by decide +kernel
theorem dX11_looks_134 : decode cX11_looks 134 = .ok (.ifCond .lt 97, 3) := by decide +kernel
theorem dX11_looks_137 : decode cX11_looks 137 = .ok (.aload_n 0, 1) := by decide +kernel
theorem dX11_looks_138 : decode cX11_looks 138 = .ok (.getfield 21, 3) := by decide +kernel
theorem dX11_looks_141 : decode cX11_looks 141 = .ok (.iload 7, 2) := by decide +kernel
theorem dX11_looks_143 : decode cX11_looks 143 = .ok (.bipush 8, 2) := by decide +kernel
theorem dX11_looks_145 : decode cX11_looks 145 = .ok (.irem, 1) := by decide +kernel
theorem dX11_looks_146 : decode cX11_looks 146 = .ok (.iaload, 1) := by decide +kernel
theorem dX11_looks_147 : decode cX11_looks 147 = .ok (.istore 8, 2) := by decide +kernel
theorem dX11_looks_149 : decode cX11_looks 149 = .ok (.iload 7, 2) := by decide +kernel
theorem dX11_looks_151 : decode cX11_looks 151 = .ok (.bipush 8, 2) := by decide +kernel
theorem dX11_looks_153 : decode cX11_looks 153 = .ok (.idiv, 1) := by decide +kernel
theorem dX11_looks_154 : decode cX11_looks 154 = .ok (.iconst 4, 1) := by decide +kernel
theorem dX11_looks_155 : decode cX11_looks 155 = .ok (.irem, 1) := by decide +kernel
theorem dX11_looks_156 : decode cX11_looks 156 = .ok (.istore 9, 2) := by decide +kernel
theorem dX11_looks_158 : decode cX11_looks 158 = .ok (.iload 7, 2) := by decide +kernel
theorem dX11_looks_160 : decode cX11_looks 160 = .ok (.bipush 32, 2) := by decide +kernel
theorem dX11_looks_162 : decode cX11_looks 162 = .ok (.idiv, 1) := by decide +kernel
theorem dX11_looks_163 : decode cX11_looks 163 = .ok (.istore 10, 2) := by decide +kernel
theorem dX11_looks_165 : decode cX11_looks 165 = .ok (.aload_n 0, 1) := by decide +kernel
theorem dX11_looks_166 : decode cX11_looks 166 = .ok (.getfield 24, 3) := by decide +kernel
theorem dX11_looks_169 : decode cX11_looks 169 = .ok (.iload 5, 2) := by decide +kernel
theorem dX11_looks_171 : decode cX11_looks 171 = .ok (.iload 9, 2) := by decide +kernel
theorem dX11_looks_173 : decode cX11_looks 173 = .ok (.ifCond .ne 18, 3) := by decide +kernel
theorem dX11_looks_176 : decode cX11_looks 176 = .ok (.iload 8, 2) := by decide +kernel
theorem dX11_looks_178 : decode cX11_looks 178 = .ok (.iload 10, 2) := by decide +kernel
theorem dX11_looks_180 : decode cX11_looks 180 = .ok (.if_icmp .ge 7, 3) := by decide +kernel
theorem dX11_looks_183 : decode cX11_looks 183 = .ok (.iconst 1, 1) := by decide +kernel
theorem dX11_looks_184 : decode cX11_looks 184 = .ok (.goto 40, 3) := by decide +kernel
theorem dX11_looks_187 : decode cX11_looks 187 = .ok (.iconst 0, 1) := by decide +kernel
theorem dX11_looks_188 : decode cX11_looks 188 = .ok (.goto 36, 3) := by decide +kernel
theorem dX11_looks_191 : decode cX11_looks 191 = .ok (.iload 9, 2) := by decide +kernel
theorem dX11_looks_193 : decode cX11_looks 193 = .ok (.iconst 1, 1) := by decide +kernel
theorem dX11_looks_194 : decode cX11_looks 194 = .ok (.if_icmp .ne 18, 3) := by decide +kernel
theorem dX11_looks_197 : decode cX11_looks 197 = .ok (.iload 8, 2) := by decide +kernel
theorem dX11_looks_199 : decode cX11_looks 199 = .ok (.iload 10, 2) := by decide +kernel
theorem dX11_looks_201 : decode cX11_looks 201 = .ok (.if_icmp .ne 7, 3) := by decide +kernel
theorem dX11_looks_204 : decode cX11_looks 204 = .ok (.iconst 1, 1) := by decide +kernel
theorem dX11_looks_205 : decode cX11_looks 205 = .ok (.goto 19, 3) := by decide +kernel
theorem dX11_looks_208 : decode cX11_looks 208 = .ok (.iconst 0, 1) := by decide +kernel
theorem dX11_looks_209 : decode cX11_looks 209 = .ok (.goto 15, 3) := by decide +kernel
theorem dX11_looks_212 : decode cX11_looks 212 = .ok (.iload 8, 2) := by decide +kernel
theorem dX11_looks_214 : decode cX11_looks 214 = .ok (.iload 10, 2) := by decide +kernel
theorem dX11_looks_216 : decode cX11_looks 216 = .ok (.if_icmp .le 7, 3) := by decide +kernel
theorem dX11_looks_219 : decode cX11_looks 219 = .ok (.iconst 1, 1) := by decide +kernel
theorem dX11_looks_220 : decode cX11_looks 220 = .ok (.goto 4, 3) := by decide +kernel
theorem dX11_looks_223 : decode cX11_looks 223 = .ok (.iconst 0, 1) := by decide +kernel
theorem dX11_looks_224 : decode cX11_looks 224 = .ok (.bastore, 1) := by decide +kernel
theorem dX11_looks_225 : decode cX11_looks 225 = .ok (.iinc 5 1, 3) := by decide +kernel
theorem dX11_looks_228 : decode cX11_looks 228 = .ok (.goto 195, 3) := by decide +kernel
theorem dX11_looks_231 : decode cX11_looks 231 = .ok (.iload 7, 2) := by decide +kernel
theorem dX11_looks_233 : decode cX11_looks 233 = .ok (.iconst (-1), 1) := by decide +kernel
theorem dX11_looks_234 : decode cX11_looks 234 = .ok (.if_icmp .ne 32, 3) := by decide +kernel
theorem dX11_looks_237 : decode cX11_looks 237 = .ok (.aload_n 0, 1) := by decide +kernel
theorem dX11_looks_238 : decode cX11_looks 238 = .ok (.getfield 24, 3) := by decide +kernel
theorem dX11_looks_241 : decode cX11_looks 241 = .ok (.iload 5, 2) := by decide +kernel
theorem dX11_looks_243 : decode cX11_looks 243 = .ok (.iconst 1, 1) := by decide +kernel
theorem dX11_looks_244 : decode cX11_looks 244 = .ok (.isub, 1) := by decide +kernel
theorem dX11_looks_245 : decode cX11_looks 245 = .ok (.aload_n 0, 1) := by decide +kernel
theorem dX11_looks_246 : decode cX11_looks 246 = .ok (.getfield 24, 3) := by decide +kernel
theorem dX11_looks_249 : decode cX11_looks 249 = .ok (.iload 5, 2) := by decide +kernel
theorem dX11_looks_251 : decode cX11_looks 251 = .ok (.iconst 1, 1) := by decide +kernel
theorem dX11_looks_252 : decode cX11_looks 252 = .ok (.isub, 1) := by decide +kernel
theorem dX11_looks_253 : decode cX11_looks 253 = .ok (.baload, 1) := by decide +kernel
theorem dX11_looks_254 : decode cX11_looks 254 = .ok (.ifCond .ne 7, 3) := by decide +kernel
theorem dX11_looks_257 : decode cX11_looks 257 = .ok (.iconst 1, 1) := by decide +kernel
theorem dX11_looks_258 : decode cX11_looks 258 = .ok (.goto 4, 3) := by decide +kernel
theorem dX11_looks_261 : decode cX11_looks 261 = .ok (.iconst 0, 1) := by decide +kernel
theorem dX11_looks_262 : decode cX11_looks 262 = .ok (.bastore, 1) := by decide +kernel
theorem dX11_looks_263 : decode cX11_looks 263 = .ok (.goto 160, 3) := by decide +kernel
theorem dX11_looks_266 : decode cX11_looks 266 = .ok (.iload 7, 2) := by decide +kernel
theorem dX11_looks_268 : decode cX11_looks 268 = .ok (.bipush (-10), 2) := by decide +kernel
theorem dX11_looks_270 : decode cX11_looks 270 = .ok (.if_icmp .le 82, 3) := by decide +kernel
theorem dX11_looks_273 : decode cX11_looks 273 = .ok (.iinc 5 (-1), 3) := by decide +kernel
theorem dX11_looks_276 : decode cX11_looks 276 = .ok (.aload_n 0, 1) := by decide +kernel
theorem dX11_looks_277 : decode cX11_looks 277 = .ok (.getfield 24, 3) := by decide +kernel
theorem dX11_looks_280 : decode cX11_looks 280 = .ok (.iload 5, 2) := by decide +kernel
theorem dX11_looks_282 : decode cX11_looks 282 = .ok (.iconst 1, 1) := by decide +kernel
theorem dX11_looks_283 : decode cX11_looks 283 = .ok (.isub, 1) := by decide +kernel
theorem dX11_looks_284 : decode cX11_looks 284 = .ok (.iload 7, 2) := by decide +kernel
theorem dX11_looks_286 : decode cX11_looks 286 = .ok (.bipush (-2), 2) := by decide +kernel
theorem dX11_looks_288 : decode cX11_looks 288 = .ok (.if_icmp .ne 33, 3) := by decide +kernel
theorem dX11_looks_291 : decode cX11_looks 291 = .ok (.aload_n 0, 1) := by decide +kernel
theorem dX11_looks_292 : decode cX11_looks 292 = .ok (.getfield 24, 3) := by decide +kernel
theorem dX11_looks_295 : decode cX11_looks 295 = .ok (.iload 5, 2) := by decide +kernel
theorem dX11_looks_297 : decode cX11_looks 297 = .ok (.iconst 1, 1) := by decide +kernel
theorem dX11_looks_298 : decode cX11_looks 298 = .ok (.isub, 1) := by decide +kernel
theorem dX11_looks_299 : decode cX11_looks 299 = .ok (.baload, 1) := by decide +kernel
theorem dX11_looks_300 : decode cX11_looks 300 = .ok (.ifCond .eq 17, 3) := by decide +kernel
theorem dX11_looks_303 : decode cX11_looks 303 = .ok (.aload_n 0, 1) := by decide +kernel
theorem dX11_looks_304 : decode cX11_looks 304 = .ok (.getfield 24, 3) := by decide +kernel
theorem dX11_looks_307 : decode cX11_looks 307 = .ok (.iload 5, 2) := by decide +kernel
theorem dX11_looks_309 : decode cX11_looks 309 = .ok (.baload, 1) := by decide +kernel
theorem dX11_looks_310 : decode cX11_looks 310 = .ok (.ifCond .eq 7, 3) := by decide +kernel
theorem dX11_looks_313 : decode cX11_looks 313 = .ok (.iconst 1, 1) := by decide +kernel
theorem dX11_looks_314 : decode cX11_looks 314 = .ok (.goto 34, 3) := by decide +kernel
theorem dX11_looks_317 : decode cX11_looks 317 = .ok (.iconst 0, 1) := by decide +kernel
theorem dX11_looks_318 : decode cX11_looks 318 = .ok (.goto 30, 3) := by decide +kernel
theorem dX11_looks_321 : decode cX11_looks 321 = .ok (.aload_n 0, 1) := by decide +kernel
theorem dX11_looks_322 : decode cX11_looks 322 = .ok (.getfield 24, 3) := by decide +kernel
theorem dX11_looks_325 : decode cX11_looks 325 = .ok (.iload 5, 2) := by decide +kernel
theorem dX11_looks_327 : decode cX11_looks 327 = .ok (.iconst 1, 1) := by decide +kernel
theorem dX11_looks_328 : decode cX11_looks 328 = .ok (.isub, 1) := by decide +kernel
theorem dX11_looks_329 : decode cX11_looks 329 = .ok (.baload, 1) := by decide +kernel
theorem dX11_looks_330 : decode cX11_looks 330 = .ok (.ifCond .ne 13, 3) := by decide +kernel
theorem dX11_looks_333 : decode cX11_looks 333 = .ok (.aload_n 0, 1) := by decide +kernel
theorem dX11_looks_334 : decode cX11_looks 334 = .ok (.getfield 24, 3) := by decide +kernel
theorem dX11_looks_337 : decode cX11_looks 337 = .ok (.iload 5, 2) := by decide +kernel
theorem dX11_looks_339 : decode cX11_looks 339 = .ok (.baload, 1) := by decide +kernel
theorem dX11_looks_340 : decode cX11_looks 340 = .ok (.ifCond .eq 7, 3) := by decide +kernel
theorem dX11_looks_343 : decode cX11_looks 343 = .ok (.iconst 1, 1) := by decide +kernel
theorem dX11_looks_344 : decode cX11_looks 344 = .ok (.goto 4, 3) := by decide +kernel
theorem dX11_looks_347 : decode cX11_looks 347 = .ok (.iconst 0, 1) := by decide +kernel
theorem dX11_looks_348 : decode cX11_looks 348 = .ok (.bastore, 1) := by decide +kernel
theorem dX11_looks_349 : decode cX11_looks 349 = .ok (.goto 74, 3) := by decide +kernel
theorem dX11_looks_352 : decode cX11_looks 352 = .ok (.iconst 0, 1) := by decide +kernel
theorem dX11_looks_353 : decode cX11_looks 353 = .ok (.istore 5, 2) := by decide +kernel
theorem dX11_looks_355 : decode cX11_looks 355 = .ok (.aload_n 0, 1) := by decide +kernel
theorem dX11_looks_356 : decode cX11_looks 356 = .ok (.aload_n 0, 1) := by decide +kernel
theorem dX11_looks_357 : decode cX11_looks 357 = .ok (.getfield 133, 3) := by decide +kernel
theorem dX11_looks_360 : decode cX11_looks 360 = .ok (.ifCond .ne 19, 3) := by decide +kernel
theorem dX11_looks_363 : decode cX11_looks 363 = .ok (.aload_n 0, 1) := by decide +kernel
theorem dX11_looks_364 : decode cX11_looks 364 = .ok (.getfield 24, 3) := by decide +kernel
theorem dX11_looks_367 : decode cX11_looks 367 = .ok (.iconst 0, 1) := by decide +kernel
theorem dX11_looks_368 : decode cX11_looks 368 = .ok (.baload, 1) := by decide +kernel
theorem dX11_looks_369 : decode cX11_looks 369 = .ok (.ifCond .eq 14, 3) := by decide +kernel
theorem dX11_looks_372 : decode cX11_looks 372 = .ok (.iload 7, 2) := by decide +kernel
theorem dX11_looks_374 : decode cX11_looks 374 = .ok (.bipush (-10), 2) := by decide +kernel
theorem dX11_looks_376 : decode cX11_looks 376 = .ok (.if_icmp .ne 7, 3) := by decide +kernel
theorem dX11_looks_379 : decode cX11_looks 379 = .ok (.iconst 1, 1) := by decide +kernel
theorem dX11_looks_380 : decode cX11_looks 380 = .ok (.goto 4, 3) := by decide +kernel
theorem dX11_looks_383 : decode cX11_looks 383 = .ok (.iconst 0, 1) := by decide +kernel
theorem dX11_looks_384 : decode cX11_looks 384 = .ok (.putfield 133, 3) := by decide +kernel
theorem dX11_looks_387 : decode cX11_looks 387 = .ok (.aload_n 0, 1) := by decide +kernel
theorem dX11_looks_388 : decode cX11_looks 388 = .ok (.dup, 1) := by decide +kernel
theorem dX11_looks_389 : decode cX11_looks 389 = .ok (.getfield 136, 3) := by decide +kernel
theorem dX11_looks_392 : decode cX11_looks 392 = .ok (.aload_n 0, 1) := by decide +kernel
theorem dX11_looks_393 : decode cX11_looks 393 = .ok (.getfield 24, 3) := by decide +kernel
theorem dX11_looks_396 : decode cX11_looks 396 = .ok (.iconst 0, 1) := by decide +kernel
theorem dX11_looks_397 : decode cX11_looks 397 = .ok (.baload, 1) := by decide +kernel
theorem dX11_looks_398 : decode cX11_looks 398 = .ok (.ifCond .eq 20, 3) := by decide +kernel
theorem dX11_looks_401 : decode cX11_looks 401 = .ok (.iload 7, 2) := by decide +kernel
theorem dX11_looks_403 : decode cX11_looks 403 = .ok (.sipush (-200), 3) := by decide +kernel
theorem dX11_looks_406 : decode cX11_looks 406 = .ok (.if_icmp .gt 12, 3) := by decide +kernel
theorem dX11_looks_409 : decode cX11_looks 409 = .ok (.sipush (-200), 3) := by decide +kernel
theorem dX11_looks_412 : decode cX11_looks 412 = .ok (.iload 7, 2) := by decide +kernel
theorem dX11_looks_414 : decode cX11_looks 414 = .ok (.isub, 1) := by decide +kernel
theorem dX11_looks_415 : decode cX11_looks 415 = .ok (.goto 4, 3) := by decide +kernel
theorem dX11_looks_418 : decode cX11_looks 418 = .ok (.iconst 0, 1) := by decide +kernel
theorem dX11_looks_419 : decode cX11_looks 419 = .ok (.iadd, 1) := by decide +kernel
theorem dX11_looks_420 : decode cX11_looks 420 = .ok (.putfield 136, 3) := by decide +kernel
theorem dX11_looks_423 : decode cX11_looks 423 = .ok (.iinc 6 1, 3) := by decide +kernel
theorem dX11_looks_426 : decode cX11_looks 426 = .ok (.goto (-312), 3) := by decide +kernel
theorem dX11_looks_429 : decode cX11_looks 429 = .ok (.return_, 1) := by decide +kernel
theorem dX11_fineOf_0 : decode cX11_fineOf 0 = .ok (.aload_n 0, 1) := by decide +kernel
theorem dX11_fineOf_1 : decode cX11_fineOf 1 = .ok (.iload_n 1, 1) := by decide +kernel
theorem dX11_fineOf_2 : decode cX11_fineOf 2 = .ok (.bipush 9, 2) := by decide +kernel
theorem dX11_fineOf_4 : decode cX11_fineOf 4 = .ok (.invokevirtual 143, 3) := by decide +kernel
theorem dX11_fineOf_7 : decode cX11_fineOf 7 = .ok (.aload_n 0, 1) := by decide +kernel
theorem dX11_fineOf_8 : decode cX11_fineOf 8 = .ok (.getfield 136, 3) := by decide +kernel
theorem dX11_fineOf_11 : decode cX11_fineOf 11 = .ok (.ireturn, 1) := by decide +kernel
theorem dX11_person_0 : decode cX11_person 0 = .ok (.iload_n 1, 1) := by decide +kernel
theorem dX11_person_1 : decode cX11_person 1 = .ok (.iconst 0, 1) := by decide +kernel
theorem dX11_person_2 : decode cX11_person 2 = .ok (.bipush 6, 2) := by decide +kernel
theorem dX11_person_4 : decode cX11_person 4 = .ok (.invokestatic 47, 3) := by decide +kernel
theorem dX11_person_7 : decode cX11_person 7 = .ok (.ifCond .ne 5, 3) := by decide +kernel
theorem dX11_person_10 : decode cX11_person 10 = .ok (.iconst (-1), 1) := by decide +kernel
theorem dX11_person_11 : decode cX11_person 11 = .ok (.ireturn, 1) := by decide +kernel
theorem dX11_person_12 : decode cX11_person 12 = .ok (.iload_n 2, 1) := by decide +kernel
theorem dX11_person_13 : decode cX11_person 13 = .ok (.iconst 0, 1) := by decide +kernel
theorem dX11_person_14 : decode cX11_person 14 = .ok (.bipush 9, 2) := by decide +kernel
theorem dX11_person_16 : decode cX11_person 16 = .ok (.invokestatic 47, 3) := by decide +kernel
theorem dX11_person_19 : decode cX11_person 19 = .ok (.ifCond .ne 6, 3) := by decide +kernel
theorem dX11_person_22 : decode cX11_person 22 = .ok (.bipush (-2), 2) := by decide +kernel
theorem dX11_person_24 : decode cX11_person 24 = .ok (.ireturn, 1) := by decide +kernel
theorem dX11_person_25 : decode cX11_person 25 = .ok (.aload_n 0, 1) := by decide +kernel
theorem dX11_person_26 : decode cX11_person 26 = .ok (.getfield 9, 3) := by decide +kernel
theorem dX11_person_29 : decode cX11_person 29 = .ok (.bipush 18, 2) := by decide +kernel
theorem dX11_person_31 : decode cX11_person 31 = .ok (.iaload, 1) := by decide +kernel
theorem dX11_person_32 : decode cX11_person 32 = .ok (.bipush 7, 2) := by decide +kernel
theorem dX11_person_34 : decode cX11_person 34 = .ok (.if_icmp .ne 6, 3) := by decide +kernel
theorem dX11_person_37 : decode cX11_person 37 = .ok (.bipush (-4), 2) := by decide +kernel
theorem dX11_person_39 : decode cX11_person 39 = .ok (.ireturn, 1) := by decide +kernel
theorem dX11_person_40 : decode cX11_person 40 = .ok (.aload_n 0, 1) := by decide +kernel
theorem dX11_person_41 : decode cX11_person 41 = .ok (.getfield 9, 3) := by decide +kernel
theorem dX11_person_44 : decode cX11_person 44 = .ok (.bipush 18, 2) := by decide +kernel
theorem dX11_person_46 : decode cX11_person 46 = .ok (.iaload, 1) := by decide +kernel
theorem dX11_person_47 : decode cX11_person 47 = .ok (.istore_n 3, 1) := by decide +kernel
theorem dX11_person_48 : decode cX11_person 48 = .ok (.aload_n 0, 1) := by decide +kernel
theorem dX11_person_49 : decode cX11_person 49 = .ok (.getfield 9, 3) := by decide +kernel
theorem dX11_person_52 : decode cX11_person 52 = .ok (.bipush 24, 2) := by decide +kernel
theorem dX11_person_54 : decode cX11_person 54 = .ok (.iload_n 3, 1) := by decide +kernel
theorem dX11_person_55 : decode cX11_person 55 = .ok (.iadd, 1) := by decide +kernel
theorem dX11_person_56 : decode cX11_person 56 = .ok (.iload_n 1, 1) := by decide +kernel
theorem dX11_person_57 : decode cX11_person 57 = .ok (.iastore, 1) := by decide +kernel
theorem dX11_person_58 : decode cX11_person 58 = .ok (.aload_n 0, 1) := by decide +kernel
theorem dX11_person_59 : decode cX11_person 59 = .ok (.getfield 9, 3) := by decide +kernel
theorem dX11_person_62 : decode cX11_person 62 = .ok (.bipush 31, 2) := by decide +kernel
theorem dX11_person_64 : decode cX11_person 64 = .ok (.iload_n 3, 1) := by decide +kernel
theorem dX11_person_65 : decode cX11_person 65 = .ok (.iadd, 1) := by decide +kernel
theorem dX11_person_66 : decode cX11_person 66 = .ok (.iload_n 2, 1) := by decide +kernel
theorem dX11_person_67 : decode cX11_person 67 = .ok (.iastore, 1) := by decide +kernel
theorem dX11_person_68 : decode cX11_person 68 = .ok (.aload_n 0, 1) := by decide +kernel
theorem dX11_person_69 : decode cX11_person 69 = .ok (.getfield 9, 3) := by decide +kernel
theorem dX11_person_72 : decode cX11_person 72 = .ok (.bipush 38, 2) := by decide +kernel
theorem dX11_person_74 : decode cX11_person 74 = .ok (.iload_n 3, 1) := by decide +kernel
theorem dX11_person_75 : decode cX11_person 75 = .ok (.iadd, 1) := by decide +kernel
theorem dX11_person_76 : decode cX11_person 76 = .ok (.iconst 0, 1) := by decide +kernel
theorem dX11_person_77 : decode cX11_person 77 = .ok (.iastore, 1) := by decide +kernel
theorem dX11_person_78 : decode cX11_person 78 = .ok (.aload_n 0, 1) := by decide +kernel
theorem dX11_person_79 : decode cX11_person 79 = .ok (.getfield 9, 3) := by decide +kernel
theorem dX11_person_82 : decode cX11_person 82 = .ok (.bipush 45, 2) := by decide +kernel
theorem dX11_person_84 : decode cX11_person 84 = .ok (.iload_n 3, 1) := by decide +kernel
theorem dX11_person_85 : decode cX11_person 85 = .ok (.iadd, 1) := by decide +kernel
theorem dX11_person_86 : decode cX11_person 86 = .ok (.iconst 0, 1) := by decide +kernel
theorem dX11_person_87 : decode cX11_person 87 = .ok (.iastore, 1) := by decide +kernel
theorem dX11_person_88 : decode cX11_person 88 = .ok (.aload_n 0, 1) := by decide +kernel
theorem dX11_person_89 : decode cX11_person 89 = .ok (.getfield 9, 3) := by decide +kernel
theorem dX11_person_92 : decode cX11_person 92 = .ok (.iconst 4, 1) := by decide +kernel
theorem dX11_person_93 : decode cX11_person 93 = .ok (.iload_n 3, 1) := by decide +kernel
theorem dX11_person_94 : decode cX11_person 94 = .ok (.iadd, 1) := by decide +kernel
theorem dX11_person_95 : decode cX11_person 95 = .ok (.iconst 0, 1) := by decide +kernel
theorem dX11_person_96 : decode cX11_person 96 = .ok (.iastore, 1) := by decide +kernel
theorem dX11_person_97 : decode cX11_person 97 = .ok (.aload_n 0, 1) := by decide +kernel
theorem dX11_person_98 : decode cX11_person 98 = .ok (.getfield 9, 3) := by decide +kernel
theorem dX11_person_101 : decode cX11_person 101 = .ok (.bipush 11, 2) := by decide +kernel
theorem dX11_person_103 : decode cX11_person 103 = .ok (.iload_n 3, 1) := by decide +kernel
theorem dX11_person_104 : decode cX11_person 104 = .ok (.iadd, 1) := by decide +kernel
theorem dX11_person_105 : decode cX11_person 105 = .ok (.iconst 0, 1) := by decide +kernel
theorem dX11_person_106 : decode cX11_person 106 = .ok (.iastore, 1) := by decide +kernel
theorem dX11_person_107 : decode cX11_person 107 = .ok (.aload_n 0, 1) := by decide +kernel
theorem dX11_person_108 : decode cX11_person 108 = .ok (.getfield 9, 3) := by decide +kernel
theorem dX11_person_111 : decode cX11_person 111 = .ok (.bipush 18, 2) := by decide +kernel
theorem dX11_person_113 : decode cX11_person 113 = .ok (.dup2, 1) := by decide +kernel
theorem dX11_person_114 : decode cX11_person 114 = .ok (.iaload, 1) := by decide +kernel
theorem dX11_person_115 : decode cX11_person 115 = .ok (.iconst 1, 1) := by decide +kernel
theorem dX11_person_116 : decode cX11_person 116 = .ok (.iadd, 1) := by decide +kernel
theorem dX11_person_117 : decode cX11_person 117 = .ok (.iastore, 1) := by decide +kernel
theorem dX11_person_118 : decode cX11_person 118 = .ok (.iload_n 3, 1) := by decide +kernel
theorem dX11_person_119 : decode cX11_person 119 = .ok (.ireturn, 1) := by decide +kernel
theorem dX11_hasHeard_0 : decode cX11_hasHeard 0 = .ok (.aload_n 0, 1) := by decide +kernel
theorem dX11_hasHeard_1 : decode cX11_hasHeard 1 = .ok (.getfield 9, 3) := by decide +kernel
theorem dX11_hasHeard_4 : decode cX11_hasHeard 4 = .ok (.iconst 2, 1) := by decide +kernel
theorem dX11_hasHeard_5 : decode cX11_hasHeard 5 = .ok (.iaload, 1) := by decide +kernel
theorem dX11_hasHeard_6 : decode cX11_hasHeard 6 = .ok (.iload_n 1, 1) := by decide +kernel
theorem dX11_hasHeard_7 : decode cX11_hasHeard 7 = .ok (.ishr, 1) := by decide +kernel
theorem dX11_hasHeard_8 : decode cX11_hasHeard 8 = .ok (.iconst 1, 1) := by decide +kernel
theorem dX11_hasHeard_9 : decode cX11_hasHeard 9 = .ok (.iand, 1) := by decide +kernel
theorem dX11_hasHeard_10 : decode cX11_hasHeard 10 = .ok (.iconst 1, 1) := by decide +kernel
theorem dX11_hasHeard_11 : decode cX11_hasHeard 11 = .ok (.if_icmp .ne 7, 3) := by decide +kernel
theorem dX11_hasHeard_14 : decode cX11_hasHeard 14 = .ok (.iconst 1, 1) := by decide +kernel
theorem dX11_hasHeard_15 : decode cX11_hasHeard 15 = .ok (.goto 4, 3) := by decide +kernel
theorem dX11_hasHeard_18 : decode cX11_hasHeard 18 = .ok (.iconst 0, 1) := by decide +kernel
theorem dX11_hasHeard_19 : decode cX11_hasHeard 19 = .ok (.ireturn, 1) := by decide +kernel
theorem dX11_hasTold_0 : decode cX11_hasTold 0 = .ok (.aload_n 0, 1) := by decide +kernel
theorem dX11_hasTold_1 : decode cX11_hasTold 1 = .ok (.getfield 9, 3) := by decide +kernel
theorem dX11_hasTold_4 : decode cX11_hasTold 4 = .ok (.iconst 3, 1) := by decide +kernel
theorem dX11_hasTold_5 : decode cX11_hasTold 5 = .ok (.iaload, 1) := by decide +kernel
theorem dX11_hasTold_6 : decode cX11_hasTold 6 = .ok (.iload_n 1, 1) := by decide +kernel
theorem dX11_hasTold_7 : decode cX11_hasTold 7 = .ok (.ishr, 1) := by decide +kernel
theorem dX11_hasTold_8 : decode cX11_hasTold 8 = .ok (.iconst 1, 1) := by decide +kernel
theorem dX11_hasTold_9 : decode cX11_hasTold 9 = .ok (.iand, 1) := by decide +kernel
theorem dX11_hasTold_10 : decode cX11_hasTold 10 = .ok (.iconst 1, 1) := by decide +kernel
theorem dX11_hasTold_11 : decode cX11_hasTold 11 = .ok (.if_icmp .ne 7, 3) := by decide +kernel
theorem dX11_hasTold_14 : decode cX11_hasTold 14 = .ok (.iconst 1, 1) := by decide +kernel
theorem dX11_hasTold_15 : decode cX11_hasTold 15 = .ok (.goto 4, 3) := by decide +kernel
theorem dX11_hasTold_18 : decode cX11_hasTold 18 = .ok (.iconst 0, 1) := by decide +kernel
theorem dX11_hasTold_19 : decode cX11_hasTold 19 = .ok (.ireturn, 1) := by decide +kernel
theorem dX11_mayOf_0 : decode cX11_mayOf 0 = .ok (.iconst 0, 1) := by decide +kernel
theorem dX11_mayOf_1 : decode cX11_mayOf 1 = .ok (.istore_n 2, 1) := by decide +kernel
theorem dX11_mayOf_2 : decode cX11_mayOf 2 = .ok (.iconst 0, 1) := by decide +kernel
theorem dX11_mayOf_3 : decode cX11_mayOf 3 = .ok (.istore_n 3, 1) := by decide +kernel
theorem dX11_mayOf_4 : decode cX11_mayOf 4 = .ok (.iload_n 3, 1) := by decide +kernel
theorem dX11_mayOf_5 : decode cX11_mayOf 5 = .ok (.aload_n 0, 1) := by decide +kernel
theorem dX11_mayOf_6 : decode cX11_mayOf 6 = .ok (.getfield 9, 3) := by decide +kernel
theorem dX11_mayOf_9 : decode cX11_mayOf 9 = .ok (.bipush 18, 2) := by decide +kernel
theorem dX11_mayOf_11 : decode cX11_mayOf 11 = .ok (.iaload, 1) := by decide +kernel
theorem dX11_mayOf_12 : decode cX11_mayOf 12 = .ok (.if_icmp .ge 57, 3) := by decide +kernel
theorem dX11_mayOf_15 : decode cX11_mayOf 15 = .ok (.aload_n 0, 1) := by decide +kernel
theorem dX11_mayOf_16 : decode cX11_mayOf 16 = .ok (.getfield 9, 3) := by decide +kernel
theorem dX11_mayOf_19 : decode cX11_mayOf 19 = .ok (.bipush 38, 2) := by decide +kernel
theorem dX11_mayOf_21 : decode cX11_mayOf 21 = .ok (.iload_n 1, 1) := by decide +kernel
theorem dX11_mayOf_22 : decode cX11_mayOf 22 = .ok (.iadd, 1) := by decide +kernel
theorem dX11_mayOf_23 : decode cX11_mayOf 23 = .ok (.iaload, 1) := by decide +kernel
theorem dX11_mayOf_24 : decode cX11_mayOf 24 = .ok (.iload_n 3, 1) := by decide +kernel
theorem dX11_mayOf_25 : decode cX11_mayOf 25 = .ok (.ishr, 1) := by decide +kernel
theorem dX11_mayOf_26 : decode cX11_mayOf 26 = .ok (.iconst 1, 1) := by decide +kernel
theorem dX11_mayOf_27 : decode cX11_mayOf 27 = .ok (.iand, 1) := by decide +kernel
theorem dX11_mayOf_28 : decode cX11_mayOf 28 = .ok (.iconst 1, 1) := by decide +kernel
theorem dX11_mayOf_29 : decode cX11_mayOf 29 = .ok (.if_icmp .ne 34, 3) := by decide +kernel
theorem dX11_mayOf_32 : decode cX11_mayOf 32 = .ok (.aload_n 0, 1) := by decide +kernel
theorem dX11_mayOf_33 : decode cX11_mayOf 33 = .ok (.iload_n 3, 1) := by decide +kernel
theorem dX11_mayOf_34 : decode cX11_mayOf 34 = .ok (.invokevirtual 129, 3) := by decide +kernel
theorem dX11_mayOf_37 : decode cX11_mayOf 37 = .ok (.ifCond .ne 26, 3) := by decide +kernel
theorem dX11_mayOf_40 : decode cX11_mayOf 40 = .ok (.aload_n 0, 1) := by decide +kernel
theorem dX11_mayOf_41 : decode cX11_mayOf 41 = .ok (.iload_n 1, 1) := by decide +kernel
theorem dX11_mayOf_42 : decode cX11_mayOf 42 = .ok (.iload_n 3, 1) := by decide +kernel
theorem dX11_mayOf_43 : decode cX11_mayOf 43 = .ok (.invokevirtual 143, 3) := by decide +kernel
theorem dX11_mayOf_46 : decode cX11_mayOf 46 = .ok (.iload_n 2, 1) := by decide +kernel
theorem dX11_mayOf_47 : decode cX11_mayOf 47 = .ok (.aload_n 0, 1) := by decide +kernel
theorem dX11_mayOf_48 : decode cX11_mayOf 48 = .ok (.getfield 133, 3) := by decide +kernel
theorem dX11_mayOf_51 : decode cX11_mayOf 51 = .ok (.ifCond .eq 7, 3) := by decide +kernel
theorem dX11_mayOf_54 : decode cX11_mayOf 54 = .ok (.iconst 0, 1) := by decide +kernel
theorem dX11_mayOf_55 : decode cX11_mayOf 55 = .ok (.goto 6, 3) := by decide +kernel
theorem dX11_mayOf_58 : decode cX11_mayOf 58 = .ok (.iconst 1, 1) := by decide +kernel
theorem dX11_mayOf_59 : decode cX11_mayOf 59 = .ok (.iload_n 3, 1) := by decide +kernel
theorem dX11_mayOf_60 : decode cX11_mayOf 60 = .ok (.ishl, 1) := by decide +kernel
theorem dX11_mayOf_61 : decode cX11_mayOf 61 = .ok (.ior, 1) := by decide +kernel
theorem dX11_mayOf_62 : decode cX11_mayOf 62 = .ok (.istore_n 2, 1) := by decide +kernel
theorem dX11_mayOf_63 : decode cX11_mayOf 63 = .ok (.iinc 3 1, 3) := by decide +kernel
theorem dX11_mayOf_66 : decode cX11_mayOf 66 = .ok (.goto (-62), 3) := by decide +kernel
theorem dX11_mayOf_69 : decode cX11_mayOf 69 = .ok (.iload_n 2, 1) := by decide +kernel
theorem dX11_mayOf_70 : decode cX11_mayOf 70 = .ok (.ireturn, 1) := by decide +kernel
theorem dX11_askedOf_0 : decode cX11_askedOf 0 = .ok (.aload_n 0, 1) := by decide +kernel
theorem dX11_askedOf_1 : decode cX11_askedOf 1 = .ok (.getfield 9, 3) := by decide +kernel
theorem dX11_askedOf_4 : decode cX11_askedOf 4 = .ok (.iconst 4, 1) := by decide +kernel
theorem dX11_askedOf_5 : decode cX11_askedOf 5 = .ok (.iload_n 1, 1) := by decide +kernel
theorem dX11_askedOf_6 : decode cX11_askedOf 6 = .ok (.iadd, 1) := by decide +kernel
theorem dX11_askedOf_7 : decode cX11_askedOf 7 = .ok (.iaload, 1) := by decide +kernel
theorem dX11_askedOf_8 : decode cX11_askedOf 8 = .ok (.istore_n 2, 1) := by decide +kernel
theorem dX11_askedOf_9 : decode cX11_askedOf 9 = .ok (.aload_n 0, 1) := by decide +kernel
theorem dX11_askedOf_10 : decode cX11_askedOf 10 = .ok (.getfield 9, 3) := by decide +kernel
theorem dX11_askedOf_13 : decode cX11_askedOf 13 = .ok (.bipush 24, 2) := by decide +kernel
theorem dX11_askedOf_15 : decode cX11_askedOf 15 = .ok (.iload_n 1, 1) := by decide +kernel
theorem dX11_askedOf_16 : decode cX11_askedOf 16 = .ok (.iadd, 1) := by decide +kernel
theorem dX11_askedOf_17 : decode cX11_askedOf 17 = .ok (.iaload, 1) := by decide +kernel
theorem dX11_askedOf_18 : decode cX11_askedOf 18 = .ok (.istore_n 3, 1) := by decide +kernel
theorem dX11_askedOf_19 : decode cX11_askedOf 19 = .ok (.iload_n 3, 1) := by decide +kernel
theorem dX11_askedOf_20 : decode cX11_askedOf 20 = .ok (.iconst 2, 1) := by decide +kernel
theorem dX11_askedOf_21 : decode cX11_askedOf 21 = .ok (.if_icmp .eq 8, 3) := by decide +kernel
theorem dX11_askedOf_24 : decode cX11_askedOf 24 = .ok (.iload_n 3, 1) := by decide +kernel
theorem dX11_askedOf_25 : decode cX11_askedOf 25 = .ok (.iconst 5, 1) := by decide +kernel
theorem dX11_askedOf_26 : decode cX11_askedOf 26 = .ok (.if_icmp .ne 22, 3) := by decide +kernel
theorem dX11_askedOf_29 : decode cX11_askedOf 29 = .ok (.iload_n 2, 1) := by decide +kernel
theorem dX11_askedOf_30 : decode cX11_askedOf 30 = .ok (.aload_n 0, 1) := by decide +kernel
theorem dX11_askedOf_31 : decode cX11_askedOf 31 = .ok (.getfield 9, 3) := by decide +kernel
theorem dX11_askedOf_34 : decode cX11_askedOf 34 = .ok (.bipush 31, 2) := by decide +kernel
theorem dX11_askedOf_36 : decode cX11_askedOf 36 = .ok (.iload_n 1, 1) := by decide +kernel
theorem dX11_askedOf_37 : decode cX11_askedOf 37 = .ok (.iadd, 1) := by decide +kernel
theorem dX11_askedOf_38 : decode cX11_askedOf 38 = .ok (.iaload, 1) := by decide +kernel
theorem dX11_askedOf_39 : decode cX11_askedOf 39 = .ok (.iconst 3, 1) := by decide +kernel
theorem dX11_askedOf_40 : decode cX11_askedOf 40 = .ok (.irem, 1) := by decide +kernel
theorem dX11_askedOf_41 : decode cX11_askedOf 41 = .ok (.if_icmp .gt 7, 3) := by decide +kernel
theorem dX11_askedOf_44 : decode cX11_askedOf 44 = .ok (.iconst 1, 1) := by decide +kernel
theorem dX11_askedOf_45 : decode cX11_askedOf 45 = .ok (.goto 4, 3) := by decide +kernel
theorem dX11_askedOf_48 : decode cX11_askedOf 48 = .ok (.iconst 0, 1) := by decide +kernel
theorem dX11_askedOf_49 : decode cX11_askedOf 49 = .ok (.istore 4, 2) := by decide +kernel
theorem dX11_askedOf_51 : decode cX11_askedOf 51 = .ok (.iload 4, 2) := by decide +kernel
theorem dX11_askedOf_53 : decode cX11_askedOf 53 = .ok (.ifCond .eq 7, 3) := by decide +kernel
theorem dX11_askedOf_56 : decode cX11_askedOf 56 = .ok (.iconst 0, 1) := by decide +kernel
theorem dX11_askedOf_57 : decode cX11_askedOf 57 = .ok (.goto 15, 3) := by decide +kernel
theorem dX11_askedOf_60 : decode cX11_askedOf 60 = .ok (.iload_n 2, 1) := by decide +kernel
theorem dX11_askedOf_61 : decode cX11_askedOf 61 = .ok (.iload_n 3, 1) := by decide +kernel
theorem dX11_askedOf_62 : decode cX11_askedOf 62 = .ok (.iconst 4, 1) := by decide +kernel
theorem dX11_askedOf_63 : decode cX11_askedOf 63 = .ok (.if_icmp .ne 7, 3) := by decide +kernel
theorem dX11_askedOf_66 : decode cX11_askedOf 66 = .ok (.iconst 1, 1) := by decide +kernel
theorem dX11_askedOf_67 : decode cX11_askedOf 67 = .ok (.goto 4, 3) := by decide +kernel
theorem dX11_askedOf_70 : decode cX11_askedOf 70 = .ok (.iconst 0, 1) := by decide +kernel
theorem dX11_askedOf_71 : decode cX11_askedOf 71 = .ok (.iadd, 1) := by decide +kernel
theorem dX11_askedOf_72 : decode cX11_askedOf 72 = .ok (.ireturn, 1) := by decide +kernel
theorem dX11_firstOf_0 : decode cX11_firstOf 0 = .ok (.aload_n 0, 1) := by decide +kernel
theorem dX11_firstOf_1 : decode cX11_firstOf 1 = .ok (.getfield 9, 3) := by decide +kernel
theorem dX11_firstOf_4 : decode cX11_firstOf 4 = .ok (.bipush 24, 2) := by decide +kernel
theorem dX11_firstOf_6 : decode cX11_firstOf 6 = .ok (.iload_n 1, 1) := by decide +kernel
theorem dX11_firstOf_7 : decode cX11_firstOf 7 = .ok (.iadd, 1) := by decide +kernel
theorem dX11_firstOf_8 : decode cX11_firstOf 8 = .ok (.iaload, 1) := by decide +kernel
theorem dX11_firstOf_9 : decode cX11_firstOf 9 = .ok (.istore_n 3, 1) := by decide +kernel
theorem dX11_firstOf_10 : decode cX11_firstOf 10 = .ok (.iconst 0, 1) := by decide +kernel
theorem dX11_firstOf_11 : decode cX11_firstOf 11 = .ok (.istore 4, 2) := by decide +kernel
theorem dX11_firstOf_13 : decode cX11_firstOf 13 = .ok (.iload 4, 2) := by decide +kernel
theorem dX11_firstOf_15 : decode cX11_firstOf 15 = .ok (.aload_n 0, 1) := by decide +kernel
theorem dX11_firstOf_16 : decode cX11_firstOf 16 = .ok (.getfield 9, 3) := by decide +kernel
theorem dX11_firstOf_19 : decode cX11_firstOf 19 = .ok (.bipush 45, 2) := by decide +kernel
theorem dX11_firstOf_21 : decode cX11_firstOf 21 = .ok (.iload_n 1, 1) := by decide +kernel
theorem dX11_firstOf_22 : decode cX11_firstOf 22 = .ok (.iadd, 1) := by decide +kernel
theorem dX11_firstOf_23 : decode cX11_firstOf 23 = .ok (.iaload, 1) := by decide +kernel
theorem dX11_firstOf_24 : decode cX11_firstOf 24 = .ok (.if_icmp .ge 48, 3) := by decide +kernel
theorem dX11_firstOf_27 : decode cX11_firstOf 27 = .ok (.iload_n 2, 1) := by decide +kernel
theorem dX11_firstOf_28 : decode cX11_firstOf 28 = .ok (.aload_n 0, 1) := by decide +kernel
theorem dX11_firstOf_29 : decode cX11_firstOf 29 = .ok (.getfield 9, 3) := by decide +kernel
theorem dX11_firstOf_32 : decode cX11_firstOf 32 = .ok (.bipush 52, 2) := by decide +kernel
theorem dX11_firstOf_34 : decode cX11_firstOf 34 = .ok (.bipush 7, 2) := by decide +kernel
theorem dX11_firstOf_36 : decode cX11_firstOf 36 = .ok (.iload_n 1, 1) := by decide +kernel
theorem dX11_firstOf_37 : decode cX11_firstOf 37 = .ok (.imul, 1) := by decide +kernel
theorem dX11_firstOf_38 : decode cX11_firstOf 38 = .ok (.iadd, 1) := by decide +kernel
theorem dX11_firstOf_39 : decode cX11_firstOf 39 = .ok (.iload 4, 2) := by decide +kernel
theorem dX11_firstOf_41 : decode cX11_firstOf 41 = .ok (.iadd, 1) := by decide +kernel
theorem dX11_firstOf_42 : decode cX11_firstOf 42 = .ok (.iaload, 1) := by decide +kernel
theorem dX11_firstOf_43 : decode cX11_firstOf 43 = .ok (.ishr, 1) := by decide +kernel
theorem dX11_firstOf_44 : decode cX11_firstOf 44 = .ok (.iconst 1, 1) := by decide +kernel
theorem dX11_firstOf_45 : decode cX11_firstOf 45 = .ok (.iand, 1) := by decide +kernel
theorem dX11_firstOf_46 : decode cX11_firstOf 46 = .ok (.iconst 1, 1) := by decide +kernel
theorem dX11_firstOf_47 : decode cX11_firstOf 47 = .ok (.if_icmp .ne 19, 3) := by decide +kernel
theorem dX11_firstOf_50 : decode cX11_firstOf 50 = .ok (.aload_n 0, 1) := by decide +kernel
theorem dX11_firstOf_51 : decode cX11_firstOf 51 = .ok (.getfield 9, 3) := by decide +kernel
theorem dX11_firstOf_54 : decode cX11_firstOf 54 = .ok (.bipush 52, 2) := by decide +kernel
theorem dX11_firstOf_56 : decode cX11_firstOf 56 = .ok (.bipush 7, 2) := by decide +kernel
theorem dX11_firstOf_58 : decode cX11_firstOf 58 = .ok (.iload_n 1, 1) := by decide +kernel
theorem dX11_firstOf_59 : decode cX11_firstOf 59 = .ok (.imul, 1) := by decide +kernel
theorem dX11_firstOf_60 : decode cX11_firstOf 60 = .ok (.iadd, 1) := by decide +kernel
theorem dX11_firstOf_61 : decode cX11_firstOf 61 = .ok (.iload 4, 2) := by decide +kernel
theorem dX11_firstOf_63 : decode cX11_firstOf 63 = .ok (.iadd, 1) := by decide +kernel
theorem dX11_firstOf_64 : decode cX11_firstOf 64 = .ok (.iaload, 1) := by decide +kernel
theorem dX11_firstOf_65 : decode cX11_firstOf 65 = .ok (.ireturn, 1) := by decide +kernel
theorem dX11_firstOf_66 : decode cX11_firstOf 66 = .ok (.iinc 4 1, 3) := by decide +kernel
theorem dX11_firstOf_69 : decode cX11_firstOf 69 = .ok (.goto (-56), 3) := by decide +kernel
theorem dX11_firstOf_72 : decode cX11_firstOf 72 = .ok (.iconst (-1), 1) := by decide +kernel
theorem dX11_firstOf_73 : decode cX11_firstOf 73 = .ok (.istore 4, 2) := by decide +kernel
theorem dX11_firstOf_75 : decode cX11_firstOf 75 = .ok (.iconst 0, 1) := by decide +kernel
theorem dX11_firstOf_76 : decode cX11_firstOf 76 = .ok (.istore 5, 2) := by decide +kernel
theorem dX11_firstOf_78 : decode cX11_firstOf 78 = .ok (.iload 5, 2) := by decide +kernel
theorem dX11_firstOf_80 : decode cX11_firstOf 80 = .ok (.aload_n 0, 1) := by decide +kernel
theorem dX11_firstOf_81 : decode cX11_firstOf 81 = .ok (.getfield 9, 3) := by decide +kernel
theorem dX11_firstOf_84 : decode cX11_firstOf 84 = .ok (.bipush 18, 2) := by decide +kernel
theorem dX11_firstOf_86 : decode cX11_firstOf 86 = .ok (.iaload, 1) := by decide +kernel
theorem dX11_firstOf_87 : decode cX11_firstOf 87 = .ok (.if_icmp .ge 102, 3) := by decide +kernel
theorem dX11_firstOf_90 : decode cX11_firstOf 90 = .ok (.iload_n 3, 1) := by decide +kernel
theorem dX11_firstOf_91 : decode cX11_firstOf 91 = .ok (.iconst 3, 1) := by decide +kernel
theorem dX11_firstOf_92 : decode cX11_firstOf 92 = .ok (.if_icmp .eq 54, 3) := by decide +kernel
theorem dX11_firstOf_95 : decode cX11_firstOf 95 = .ok (.iload_n 3, 1) := by decide +kernel
theorem dX11_firstOf_96 : decode cX11_firstOf 96 = .ok (.bipush 6, 2) := by decide +kernel
theorem dX11_firstOf_98 : decode cX11_firstOf 98 = .ok (.if_icmp .eq 48, 3) := by decide +kernel
theorem dX11_firstOf_101 : decode cX11_firstOf 101 = .ok (.iload_n 3, 1) := by decide +kernel
theorem dX11_firstOf_102 : decode cX11_firstOf 102 = .ok (.iconst 1, 1) := by decide +kernel
theorem dX11_firstOf_103 : decode cX11_firstOf 103 = .ok (.if_icmp .eq 8, 3) := by decide +kernel
theorem dX11_firstOf_106 : decode cX11_firstOf 106 = .ok (.iload_n 3, 1) := by decide +kernel
theorem dX11_firstOf_107 : decode cX11_firstOf 107 = .ok (.iconst 4, 1) := by decide +kernel
theorem dX11_firstOf_108 : decode cX11_firstOf 108 = .ok (.if_icmp .ne 42, 3) := by decide +kernel
theorem dX11_firstOf_111 : decode cX11_firstOf 111 = .ok (.iload 4, 2) := by decide +kernel
theorem dX11_firstOf_113 : decode cX11_firstOf 113 = .ok (.iconst (-1), 1) := by decide +kernel
theorem dX11_firstOf_114 : decode cX11_firstOf 114 = .ok (.if_icmp .eq 36, 3) := by decide +kernel
theorem dX11_firstOf_117 : decode cX11_firstOf 117 = .ok (.aload_n 0, 1) := by decide +kernel
theorem dX11_firstOf_118 : decode cX11_firstOf 118 = .ok (.getfield 9, 3) := by decide +kernel
theorem dX11_firstOf_121 : decode cX11_firstOf 121 = .ok (.bipush 38, 2) := by decide +kernel
theorem dX11_firstOf_123 : decode cX11_firstOf 123 = .ok (.iload 5, 2) := by decide +kernel
theorem dX11_firstOf_125 : decode cX11_firstOf 125 = .ok (.iadd, 1) := by decide +kernel
theorem dX11_firstOf_126 : decode cX11_firstOf 126 = .ok (.iaload, 1) := by decide +kernel
theorem dX11_firstOf_127 : decode cX11_firstOf 127 = .ok (.invokestatic 147, 3) := by decide +kernel
theorem dX11_firstOf_130 : decode cX11_firstOf 130 = .ok (.aload_n 0, 1) := by decide +kernel
theorem dX11_firstOf_131 : decode cX11_firstOf 131 = .ok (.getfield 9, 3) := by decide +kernel
theorem dX11_firstOf_134 : decode cX11_firstOf 134 = .ok (.bipush 38, 2) := by decide +kernel
theorem dX11_firstOf_136 : decode cX11_firstOf 136 = .ok (.iload 4, 2) := by decide +kernel
theorem dX11_firstOf_138 : decode cX11_firstOf 138 = .ok (.iadd, 1) := by decide +kernel
theorem dX11_firstOf_139 : decode cX11_firstOf 139 = .ok (.iaload, 1) := by decide +kernel
theorem dX11_firstOf_140 : decode cX11_firstOf 140 = .ok (.invokestatic 147, 3) := by decide +kernel
theorem dX11_firstOf_143 : decode cX11_firstOf 143 = .ok (.if_icmp .le 7, 3) := by decide +kernel
theorem dX11_firstOf_146 : decode cX11_firstOf 146 = .ok (.iconst 1, 1) := by decide +kernel
theorem dX11_firstOf_147 : decode cX11_firstOf 147 = .ok (.goto 4, 3) := by decide +kernel
theorem dX11_firstOf_150 : decode cX11_firstOf 150 = .ok (.iconst 0, 1) := by decide +kernel
theorem dX11_firstOf_151 : decode cX11_firstOf 151 = .ok (.istore 6, 2) := by decide +kernel
theorem dX11_firstOf_153 : decode cX11_firstOf 153 = .ok (.iload_n 2, 1) := by decide +kernel
theorem dX11_firstOf_154 : decode cX11_firstOf 154 = .ok (.iload 5, 2) := by decide +kernel
theorem dX11_firstOf_156 : decode cX11_firstOf 156 = .ok (.ishr, 1) := by decide +kernel
theorem dX11_firstOf_157 : decode cX11_firstOf 157 = .ok (.iconst 1, 1) := by decide +kernel
theorem dX11_firstOf_158 : decode cX11_firstOf 158 = .ok (.iand, 1) := by decide +kernel
theorem dX11_firstOf_159 : decode cX11_firstOf 159 = .ok (.iconst 1, 1) := by decide +kernel
theorem dX11_firstOf_160 : decode cX11_firstOf 160 = .ok (.if_icmp .ne 19, 3) := by decide +kernel
theorem dX11_firstOf_163 : decode cX11_firstOf 163 = .ok (.iload 4, 2) := by decide +kernel
theorem dX11_firstOf_165 : decode cX11_firstOf 165 = .ok (.iconst (-1), 1) := by decide +kernel
theorem dX11_firstOf_166 : decode cX11_firstOf 166 = .ok (.if_icmp .eq 8, 3) := by decide +kernel
theorem dX11_firstOf_169 : decode cX11_firstOf 169 = .ok (.iload 6, 2) := by decide +kernel
theorem dX11_firstOf_171 : decode cX11_firstOf 171 = .ok (.ifCond .eq 8, 3) := by decide +kernel
theorem dX11_firstOf_174 : decode cX11_firstOf 174 = .ok (.iload 5, 2) := by decide +kernel
theorem dX11_firstOf_176 : decode cX11_firstOf 176 = .ok (.goto 5, 3) := by decide +kernel
theorem dX11_firstOf_179 : decode cX11_firstOf 179 = .ok (.iload 4, 2) := by decide +kernel
theorem dX11_firstOf_181 : decode cX11_firstOf 181 = .ok (.istore 4, 2) := by decide +kernel
theorem dX11_firstOf_183 : decode cX11_firstOf 183 = .ok (.iinc 5 1, 3) := by decide +kernel
theorem dX11_firstOf_186 : decode cX11_firstOf 186 = .ok (.goto (-108), 3) := by decide +kernel
theorem dX11_firstOf_189 : decode cX11_firstOf 189 = .ok (.iload 4, 2) := by decide +kernel
theorem dX11_firstOf_191 : decode cX11_firstOf 191 = .ok (.ireturn, 1) := by decide +kernel
theorem dX11_choiceOf_0 : decode cX11_choiceOf 0 = .ok (.aload_n 0, 1) := by decide +kernel
theorem dX11_choiceOf_1 : decode cX11_choiceOf 1 = .ok (.iload_n 1, 1) := by decide +kernel
theorem dX11_choiceOf_2 : decode cX11_choiceOf 2 = .ok (.invokevirtual 151, 3) := by decide +kernel
theorem dX11_choiceOf_5 : decode cX11_choiceOf 5 = .ok (.istore_n 2, 1) := by decide +kernel
theorem dX11_choiceOf_6 : decode cX11_choiceOf 6 = .ok (.iconst 0, 1) := by decide +kernel
theorem dX11_choiceOf_7 : decode cX11_choiceOf 7 = .ok (.istore_n 3, 1) := by decide +kernel
theorem dX11_choiceOf_8 : decode cX11_choiceOf 8 = .ok (.iconst 0, 1) := by decide +kernel
theorem dX11_choiceOf_9 : decode cX11_choiceOf 9 = .ok (.istore 4, 2) := by decide +kernel
theorem dX11_choiceOf_11 : decode cX11_choiceOf 11 = .ok (.iload 4, 2) := by decide +kernel
theorem dX11_choiceOf_13 : decode cX11_choiceOf 13 = .ok (.aload_n 0, 1) := by decide +kernel
theorem dX11_choiceOf_14 : decode cX11_choiceOf 14 = .ok (.iload_n 1, 1) := by decide +kernel
theorem dX11_choiceOf_15 : decode cX11_choiceOf 15 = .ok (.invokevirtual 154, 3) := by decide +kernel
theorem dX11_choiceOf_18 : decode cX11_choiceOf 18 = .ok (.if_icmp .ge 37, 3) := by decide +kernel
theorem dX11_choiceOf_21 : decode cX11_choiceOf 21 = .ok (.iload_n 2, 1) := by decide +kernel
theorem dX11_choiceOf_22 : decode cX11_choiceOf 22 = .ok (.ifCond .eq 33, 3) := by decide +kernel
theorem dX11_choiceOf_25 : decode cX11_choiceOf 25 = .ok (.aload_n 0, 1) := by decide +kernel
theorem dX11_choiceOf_26 : decode cX11_choiceOf 26 = .ok (.iload_n 1, 1) := by decide +kernel
theorem dX11_choiceOf_27 : decode cX11_choiceOf 27 = .ok (.iload_n 2, 1) := by decide +kernel
theorem dX11_choiceOf_28 : decode cX11_choiceOf 28 = .ok (.invokevirtual 157, 3) := by decide +kernel
theorem dX11_choiceOf_31 : decode cX11_choiceOf 31 = .ok (.istore 5, 2) := by decide +kernel
theorem dX11_choiceOf_33 : decode cX11_choiceOf 33 = .ok (.iload_n 3, 1) := by decide +kernel
theorem dX11_choiceOf_34 : decode cX11_choiceOf 34 = .ok (.iconst 1, 1) := by decide +kernel
theorem dX11_choiceOf_35 : decode cX11_choiceOf 35 = .ok (.iload 5, 2) := by decide +kernel
theorem dX11_choiceOf_37 : decode cX11_choiceOf 37 = .ok (.ishl, 1) := by decide +kernel
theorem dX11_choiceOf_38 : decode cX11_choiceOf 38 = .ok (.ior, 1) := by decide +kernel
theorem dX11_choiceOf_39 : decode cX11_choiceOf 39 = .ok (.istore_n 3, 1) := by decide +kernel
theorem dX11_choiceOf_40 : decode cX11_choiceOf 40 = .ok (.iload_n 2, 1) := by decide +kernel
theorem dX11_choiceOf_41 : decode cX11_choiceOf 41 = .ok (.iconst 1, 1) := by decide +kernel
theorem dX11_choiceOf_42 : decode cX11_choiceOf 42 = .ok (.iload 5, 2) := by decide +kernel
theorem dX11_choiceOf_44 : decode cX11_choiceOf 44 = .ok (.ishl, 1) := by decide +kernel
theorem dX11_choiceOf_45 : decode cX11_choiceOf 45 = .ok (.iconst (-1), 1) := by decide +kernel
theorem dX11_choiceOf_46 : decode cX11_choiceOf 46 = .ok (.ixor, 1) := by decide +kernel
theorem dX11_choiceOf_47 : decode cX11_choiceOf 47 = .ok (.iand, 1) := by decide +kernel
theorem dX11_choiceOf_48 : decode cX11_choiceOf 48 = .ok (.istore_n 2, 1) := by decide +kernel
theorem dX11_choiceOf_49 : decode cX11_choiceOf 49 = .ok (.iinc 4 1, 3) := by decide +kernel
theorem dX11_choiceOf_52 : decode cX11_choiceOf 52 = .ok (.goto (-41), 3) := by decide +kernel
theorem dX11_choiceOf_55 : decode cX11_choiceOf 55 = .ok (.iload_n 3, 1) := by decide +kernel
theorem dX11_choiceOf_56 : decode cX11_choiceOf 56 = .ok (.ireturn, 1) := by decide +kernel
theorem dX11_of_0 : decode cX11_of 0 = .ok (.aload_n 0, 1) := by decide +kernel
theorem dX11_of_1 : decode cX11_of 1 = .ok (.iload_n 1, 1) := by decide +kernel
theorem dX11_of_2 : decode cX11_of 2 = .ok (.invokevirtual 160, 3) := by decide +kernel
theorem dX11_of_5 : decode cX11_of 5 = .ok (.ifCond .ne 5, 3) := by decide +kernel
theorem dX11_of_8 : decode cX11_of 8 = .ok (.iconst (-1), 1) := by decide +kernel
theorem dX11_of_9 : decode cX11_of 9 = .ok (.ireturn, 1) := by decide +kernel
theorem dX11_of_10 : decode cX11_of 10 = .ok (.aload_n 0, 1) := by decide +kernel
theorem dX11_of_11 : decode cX11_of 11 = .ok (.iload_n 1, 1) := by decide +kernel
theorem dX11_of_12 : decode cX11_of 12 = .ok (.invokevirtual 129, 3) := by decide +kernel
theorem dX11_of_15 : decode cX11_of 15 = .ok (.istore_n 3, 1) := by decide +kernel
theorem dX11_of_16 : decode cX11_of 16 = .ok (.iload_n 2, 1) := by decide +kernel
theorem dX11_of_17 : decode cX11_of 17 = .ok (.tableswitch 215 0 11 #[63, 73, 83, 93, 111, 125, 144, 154, 169, 184, 199, 205], 63) := by decide +kernel
theorem dX11_of_80 : decode cX11_of 80 = .ok (.aload_n 0, 1) := by decide +kernel
theorem dX11_of_81 : decode cX11_of 81 = .ok (.getfield 9, 3) := by decide +kernel
theorem dX11_of_84 : decode cX11_of 84 = .ok (.bipush 24, 2) := by decide +kernel
theorem dX11_of_86 : decode cX11_of 86 = .ok (.iload_n 1, 1) := by decide +kernel
theorem dX11_of_87 : decode cX11_of 87 = .ok (.iadd, 1) := by decide +kernel
theorem dX11_of_88 : decode cX11_of 88 = .ok (.iaload, 1) := by decide +kernel
theorem dX11_of_89 : decode cX11_of 89 = .ok (.ireturn, 1) := by decide +kernel
theorem dX11_of_90 : decode cX11_of 90 = .ok (.aload_n 0, 1) := by decide +kernel
theorem dX11_of_91 : decode cX11_of 91 = .ok (.getfield 9, 3) := by decide +kernel
theorem dX11_of_94 : decode cX11_of 94 = .ok (.bipush 31, 2) := by decide +kernel
theorem dX11_of_96 : decode cX11_of 96 = .ok (.iload_n 1, 1) := by decide +kernel
theorem dX11_of_97 : decode cX11_of 97 = .ok (.iadd, 1) := by decide +kernel
theorem dX11_of_98 : decode cX11_of 98 = .ok (.iaload, 1) := by decide +kernel
theorem dX11_of_99 : decode cX11_of 99 = .ok (.ireturn, 1) := by decide +kernel
theorem dX11_of_100 : decode cX11_of 100 = .ok (.iload_n 3, 1) := by decide +kernel
theorem dX11_of_101 : decode cX11_of 101 = .ok (.ifCond .eq 7, 3) := by decide +kernel
theorem dX11_of_104 : decode cX11_of 104 = .ok (.iconst 1, 1) := by decide +kernel
theorem dX11_of_105 : decode cX11_of 105 = .ok (.goto 4, 3) := by decide +kernel
theorem dX11_of_108 : decode cX11_of 108 = .ok (.iconst 0, 1) := by decide +kernel
theorem dX11_of_109 : decode cX11_of 109 = .ok (.ireturn, 1) := by decide +kernel
theorem dX11_of_110 : decode cX11_of 110 = .ok (.iload_n 3, 1) := by decide +kernel
theorem dX11_of_111 : decode cX11_of 111 = .ok (.ifCond .eq 14, 3) := by decide +kernel
theorem dX11_of_114 : decode cX11_of 114 = .ok (.aload_n 0, 1) := by decide +kernel
theorem dX11_of_115 : decode cX11_of 115 = .ok (.getfield 9, 3) := by decide +kernel
theorem dX11_of_118 : decode cX11_of 118 = .ok (.iconst 4, 1) := by decide +kernel
theorem dX11_of_119 : decode cX11_of 119 = .ok (.iload_n 1, 1) := by decide +kernel
theorem dX11_of_120 : decode cX11_of 120 = .ok (.iadd, 1) := by decide +kernel
theorem dX11_of_121 : decode cX11_of 121 = .ok (.iaload, 1) := by decide +kernel
theorem dX11_of_122 : decode cX11_of 122 = .ok (.goto 5, 3) := by decide +kernel
theorem dX11_of_125 : decode cX11_of 125 = .ok (.bipush (-5), 2) := by decide +kernel
theorem dX11_of_127 : decode cX11_of 127 = .ok (.ireturn, 1) := by decide +kernel
theorem dX11_of_128 : decode cX11_of 128 = .ok (.aload_n 0, 1) := by decide +kernel
theorem dX11_of_129 : decode cX11_of 129 = .ok (.iload_n 1, 1) := by decide +kernel
theorem dX11_of_130 : decode cX11_of 130 = .ok (.invokevirtual 163, 3) := by decide +kernel
theorem dX11_of_133 : decode cX11_of 133 = .ok (.ifCond .eq 7, 3) := by decide +kernel
theorem dX11_of_136 : decode cX11_of 136 = .ok (.iconst 1, 1) := by decide +kernel
theorem dX11_of_137 : decode cX11_of 137 = .ok (.goto 4, 3) := by decide +kernel
theorem dX11_of_140 : decode cX11_of 140 = .ok (.iconst 0, 1) := by decide +kernel
theorem dX11_of_141 : decode cX11_of 141 = .ok (.ireturn, 1) := by decide +kernel
theorem dX11_of_142 : decode cX11_of 142 = .ok (.iload_n 3, 1) := by decide +kernel
theorem dX11_of_143 : decode cX11_of 143 = .ok (.ifCond .eq 15, 3) := by decide +kernel
theorem dX11_of_146 : decode cX11_of 146 = .ok (.aload_n 0, 1) := by decide +kernel
theorem dX11_of_147 : decode cX11_of 147 = .ok (.getfield 9, 3) := by decide +kernel
theorem dX11_of_150 : decode cX11_of 150 = .ok (.bipush 11, 2) := by decide +kernel
theorem dX11_of_152 : decode cX11_of 152 = .ok (.iload_n 1, 1) := by decide +kernel
theorem dX11_of_153 : decode cX11_of 153 = .ok (.iadd, 1) := by decide +kernel
theorem dX11_of_154 : decode cX11_of 154 = .ok (.iaload, 1) := by decide +kernel
theorem dX11_of_155 : decode cX11_of 155 = .ok (.goto 5, 3) := by decide +kernel
theorem dX11_of_158 : decode cX11_of 158 = .ok (.bipush (-5), 2) := by decide +kernel
theorem dX11_of_160 : decode cX11_of 160 = .ok (.ireturn, 1) := by decide +kernel
theorem dX11_of_161 : decode cX11_of 161 = .ok (.aload_n 0, 1) := by decide +kernel
theorem dX11_of_162 : decode cX11_of 162 = .ok (.getfield 9, 3) := by decide +kernel
theorem dX11_of_165 : decode cX11_of 165 = .ok (.bipush 38, 2) := by decide +kernel
theorem dX11_of_167 : decode cX11_of 167 = .ok (.iload_n 1, 1) := by decide +kernel
theorem dX11_of_168 : decode cX11_of 168 = .ok (.iadd, 1) := by decide +kernel
theorem dX11_of_169 : decode cX11_of 169 = .ok (.iaload, 1) := by decide +kernel
theorem dX11_of_170 : decode cX11_of 170 = .ok (.ireturn, 1) := by decide +kernel
theorem dX11_of_171 : decode cX11_of 171 = .ok (.iload_n 3, 1) := by decide +kernel
theorem dX11_of_172 : decode cX11_of 172 = .ok (.ifCond .eq 11, 3) := by decide +kernel
theorem dX11_of_175 : decode cX11_of 175 = .ok (.aload_n 0, 1) := by decide +kernel
theorem dX11_of_176 : decode cX11_of 176 = .ok (.iload_n 1, 1) := by decide +kernel
theorem dX11_of_177 : decode cX11_of 177 = .ok (.invokevirtual 151, 3) := by decide +kernel
theorem dX11_of_180 : decode cX11_of 180 = .ok (.goto 5, 3) := by decide +kernel
theorem dX11_of_183 : decode cX11_of 183 = .ok (.bipush (-5), 2) := by decide +kernel
theorem dX11_of_185 : decode cX11_of 185 = .ok (.ireturn, 1) := by decide +kernel
theorem dX11_of_186 : decode cX11_of 186 = .ok (.iload_n 3, 1) := by decide +kernel
theorem dX11_of_187 : decode cX11_of 187 = .ok (.ifCond .eq 11, 3) := by decide +kernel
theorem dX11_of_190 : decode cX11_of 190 = .ok (.aload_n 0, 1) := by decide +kernel
theorem dX11_of_191 : decode cX11_of 191 = .ok (.iload_n 1, 1) := by decide +kernel
theorem dX11_of_192 : decode cX11_of 192 = .ok (.invokevirtual 154, 3) := by decide +kernel
theorem dX11_of_195 : decode cX11_of 195 = .ok (.goto 5, 3) := by decide +kernel
theorem dX11_of_198 : decode cX11_of 198 = .ok (.bipush (-5), 2) := by decide +kernel
theorem dX11_of_200 : decode cX11_of 200 = .ok (.ireturn, 1) := by decide +kernel
theorem dX11_of_201 : decode cX11_of 201 = .ok (.iload_n 3, 1) := by decide +kernel
theorem dX11_of_202 : decode cX11_of 202 = .ok (.ifCond .eq 11, 3) := by decide +kernel
theorem dX11_of_205 : decode cX11_of 205 = .ok (.aload_n 0, 1) := by decide +kernel
theorem dX11_of_206 : decode cX11_of 206 = .ok (.iload_n 1, 1) := by decide +kernel
theorem dX11_of_207 : decode cX11_of 207 = .ok (.invokevirtual 166, 3) := by decide +kernel
theorem dX11_of_210 : decode cX11_of 210 = .ok (.goto 5, 3) := by decide +kernel
theorem dX11_of_213 : decode cX11_of 213 = .ok (.bipush (-5), 2) := by decide +kernel
theorem dX11_of_215 : decode cX11_of 215 = .ok (.ireturn, 1) := by decide +kernel
theorem dX11_of_216 : decode cX11_of 216 = .ok (.aload_n 0, 1) := by decide +kernel
theorem dX11_of_217 : decode cX11_of 217 = .ok (.iload_n 1, 1) := by decide +kernel
theorem dX11_of_218 : decode cX11_of 218 = .ok (.invokevirtual 169, 3) := by decide +kernel
theorem dX11_of_221 : decode cX11_of 221 = .ok (.ireturn, 1) := by decide +kernel
theorem dX11_of_222 : decode cX11_of 222 = .ok (.aload_n 0, 1) := by decide +kernel
theorem dX11_of_223 : decode cX11_of 223 = .ok (.getfield 9, 3) := by decide +kernel
theorem dX11_of_226 : decode cX11_of 226 = .ok (.bipush 45, 2) := by decide +kernel
theorem dX11_of_228 : decode cX11_of 228 = .ok (.iload_n 1, 1) := by decide +kernel
theorem dX11_of_229 : decode cX11_of 229 = .ok (.iadd, 1) := by decide +kernel
theorem dX11_of_230 : decode cX11_of 230 = .ok (.iaload, 1) := by decide +kernel
theorem dX11_of_231 : decode cX11_of 231 = .ok (.ireturn, 1) := by decide +kernel
theorem dX11_of_232 : decode cX11_of 232 = .ok (.iconst (-1), 1) := by decide +kernel
theorem dX11_of_233 : decode cX11_of 233 = .ok (.ireturn, 1) := by decide +kernel
theorem dX11_know_0 : decode cX11_know 0 = .ok (.aload_n 0, 1) := by decide +kernel
theorem dX11_know_1 : decode cX11_know 1 = .ok (.iload_n 1, 1) := by decide +kernel
theorem dX11_know_2 : decode cX11_know 2 = .ok (.invokevirtual 160, 3) := by decide +kernel
theorem dX11_know_5 : decode cX11_know 5 = .ok (.ifCond .eq 11, 3) := by decide +kernel
theorem dX11_know_8 : decode cX11_know 8 = .ok (.aload_n 0, 1) := by decide +kernel
theorem dX11_know_9 : decode cX11_know 9 = .ok (.iload_n 2, 1) := by decide +kernel
theorem dX11_know_10 : decode cX11_know 10 = .ok (.invokevirtual 160, 3) := by decide +kernel
theorem dX11_know_13 : decode cX11_know 13 = .ok (.ifCond .ne 5, 3) := by decide +kernel
theorem dX11_know_16 : decode cX11_know 16 = .ok (.iconst (-1), 1) := by decide +kernel
theorem dX11_know_17 : decode cX11_know 17 = .ok (.ireturn, 1) := by decide +kernel
theorem dX11_know_18 : decode cX11_know 18 = .ok (.iload_n 1, 1) := by decide +kernel
theorem dX11_know_19 : decode cX11_know 19 = .ok (.iload_n 2, 1) := by decide +kernel
theorem dX11_know_20 : decode cX11_know 20 = .ok (.if_icmp .ne 6, 3) := by decide +kernel
theorem dX11_know_23 : decode cX11_know 23 = .ok (.bipush (-2), 2) := by decide +kernel
theorem dX11_know_25 : decode cX11_know 25 = .ok (.ireturn, 1) := by decide +kernel
theorem dX11_know_26 : decode cX11_know 26 = .ok (.aload_n 0, 1) := by decide +kernel
theorem dX11_know_27 : decode cX11_know 27 = .ok (.getfield 9, 3) := by decide +kernel
theorem dX11_know_30 : decode cX11_know 30 = .ok (.bipush 38, 2) := by decide +kernel
theorem dX11_know_32 : decode cX11_know 32 = .ok (.iload_n 1, 1) := by decide +kernel
theorem dX11_know_33 : decode cX11_know 33 = .ok (.iadd, 1) := by decide +kernel
theorem dX11_know_34 : decode cX11_know 34 = .ok (.iaload, 1) := by decide +kernel
theorem dX11_know_35 : decode cX11_know 35 = .ok (.iload_n 2, 1) := by decide +kernel
theorem dX11_know_36 : decode cX11_know 36 = .ok (.ishr, 1) := by decide +kernel
theorem dX11_know_37 : decode cX11_know 37 = .ok (.iconst 1, 1) := by decide +kernel
theorem dX11_know_38 : decode cX11_know 38 = .ok (.iand, 1) := by decide +kernel
theorem dX11_know_39 : decode cX11_know 39 = .ok (.istore 4, 2) := by decide +kernel
theorem dX11_know_41 : decode cX11_know 41 = .ok (.aload_n 0, 1) := by decide +kernel
theorem dX11_know_42 : decode cX11_know 42 = .ok (.getfield 9, 3) := by decide +kernel
theorem dX11_know_45 : decode cX11_know 45 = .ok (.bipush 38, 2) := by decide +kernel
theorem dX11_know_47 : decode cX11_know 47 = .ok (.iload_n 1, 1) := by decide +kernel
theorem dX11_know_48 : decode cX11_know 48 = .ok (.iadd, 1) := by decide +kernel
theorem dX11_know_49 : decode cX11_know 49 = .ok (.iload_n 3, 1) := by decide +kernel
theorem dX11_know_50 : decode cX11_know 50 = .ok (.ifCond .eq 19, 3) := by decide +kernel
theorem dX11_know_53 : decode cX11_know 53 = .ok (.aload_n 0, 1) := by decide +kernel
theorem dX11_know_54 : decode cX11_know 54 = .ok (.getfield 9, 3) := by decide +kernel
theorem dX11_know_57 : decode cX11_know 57 = .ok (.bipush 38, 2) := by decide +kernel
theorem dX11_know_59 : decode cX11_know 59 = .ok (.iload_n 1, 1) := by decide +kernel
theorem dX11_know_60 : decode cX11_know 60 = .ok (.iadd, 1) := by decide +kernel
theorem dX11_know_61 : decode cX11_know 61 = .ok (.iaload, 1) := by decide +kernel
theorem dX11_know_62 : decode cX11_know 62 = .ok (.iconst 1, 1) := by decide +kernel
theorem dX11_know_63 : decode cX11_know 63 = .ok (.iload_n 2, 1) := by decide +kernel
theorem dX11_know_64 : decode cX11_know 64 = .ok (.ishl, 1) := by decide +kernel
theorem dX11_know_65 : decode cX11_know 65 = .ok (.ior, 1) := by decide +kernel
theorem dX11_know_66 : decode cX11_know 66 = .ok (.goto 18, 3) := by decide +kernel
theorem dX11_know_69 : decode cX11_know 69 = .ok (.aload_n 0, 1) := by decide +kernel
theorem dX11_know_70 : decode cX11_know 70 = .ok (.getfield 9, 3) := by decide +kernel
theorem dX11_know_73 : decode cX11_know 73 = .ok (.bipush 38, 2) := by decide +kernel
theorem dX11_know_75 : decode cX11_know 75 = .ok (.iload_n 1, 1) := by decide +kernel
theorem dX11_know_76 : decode cX11_know 76 = .ok (.iadd, 1) := by decide +kernel
theorem dX11_know_77 : decode cX11_know 77 = .ok (.iaload, 1) := by decide +kernel
theorem dX11_know_78 : decode cX11_know 78 = .ok (.iconst 1, 1) := by decide +kernel
theorem dX11_know_79 : decode cX11_know 79 = .ok (.iload_n 2, 1) := by decide +kernel
theorem dX11_know_80 : decode cX11_know 80 = .ok (.ishl, 1) := by decide +kernel
theorem dX11_know_81 : decode cX11_know 81 = .ok (.iconst (-1), 1) := by decide +kernel
theorem dX11_know_82 : decode cX11_know 82 = .ok (.ixor, 1) := by decide +kernel
theorem dX11_know_83 : decode cX11_know 83 = .ok (.iand, 1) := by decide +kernel
theorem dX11_know_84 : decode cX11_know 84 = .ok (.iastore, 1) := by decide +kernel
theorem dX11_know_85 : decode cX11_know 85 = .ok (.aload_n 0, 1) := by decide +kernel
theorem dX11_know_86 : decode cX11_know 86 = .ok (.getfield 9, 3) := by decide +kernel
theorem dX11_know_89 : decode cX11_know 89 = .ok (.bipush 38, 2) := by decide +kernel
theorem dX11_know_91 : decode cX11_know 91 = .ok (.iload_n 2, 1) := by decide +kernel
theorem dX11_know_92 : decode cX11_know 92 = .ok (.iadd, 1) := by decide +kernel
theorem dX11_know_93 : decode cX11_know 93 = .ok (.iload_n 3, 1) := by decide +kernel
theorem dX11_know_94 : decode cX11_know 94 = .ok (.ifCond .eq 19, 3) := by decide +kernel
theorem dX11_know_97 : decode cX11_know 97 = .ok (.aload_n 0, 1) := by decide +kernel
theorem dX11_know_98 : decode cX11_know 98 = .ok (.getfield 9, 3) := by decide +kernel
theorem dX11_know_101 : decode cX11_know 101 = .ok (.bipush 38, 2) := by decide +kernel
theorem dX11_know_103 : decode cX11_know 103 = .ok (.iload_n 2, 1) := by decide +kernel
theorem dX11_know_104 : decode cX11_know 104 = .ok (.iadd, 1) := by decide +kernel
theorem dX11_know_105 : decode cX11_know 105 = .ok (.iaload, 1) := by decide +kernel
theorem dX11_know_106 : decode cX11_know 106 = .ok (.iconst 1, 1) := by decide +kernel
theorem dX11_know_107 : decode cX11_know 107 = .ok (.iload_n 1, 1) := by decide +kernel
theorem dX11_know_108 : decode cX11_know 108 = .ok (.ishl, 1) := by decide +kernel
theorem dX11_know_109 : decode cX11_know 109 = .ok (.ior, 1) := by decide +kernel
theorem dX11_know_110 : decode cX11_know 110 = .ok (.goto 18, 3) := by decide +kernel
theorem dX11_know_113 : decode cX11_know 113 = .ok (.aload_n 0, 1) := by decide +kernel
theorem dX11_know_114 : decode cX11_know 114 = .ok (.getfield 9, 3) := by decide +kernel
theorem dX11_know_117 : decode cX11_know 117 = .ok (.bipush 38, 2) := by decide +kernel
theorem dX11_know_119 : decode cX11_know 119 = .ok (.iload_n 2, 1) := by decide +kernel
theorem dX11_know_120 : decode cX11_know 120 = .ok (.iadd, 1) := by decide +kernel
theorem dX11_know_121 : decode cX11_know 121 = .ok (.iaload, 1) := by decide +kernel
theorem dX11_know_122 : decode cX11_know 122 = .ok (.iconst 1, 1) := by decide +kernel
theorem dX11_know_123 : decode cX11_know 123 = .ok (.iload_n 1, 1) := by decide +kernel
theorem dX11_know_124 : decode cX11_know 124 = .ok (.ishl, 1) := by decide +kernel
theorem dX11_know_125 : decode cX11_know 125 = .ok (.iconst (-1), 1) := by decide +kernel
theorem dX11_know_126 : decode cX11_know 126 = .ok (.ixor, 1) := by decide +kernel
theorem dX11_know_127 : decode cX11_know 127 = .ok (.iand, 1) := by decide +kernel
theorem dX11_know_128 : decode cX11_know 128 = .ok (.iastore, 1) := by decide +kernel
theorem dX11_know_129 : decode cX11_know 129 = .ok (.iload 4, 2) := by decide +kernel
theorem dX11_know_131 : decode cX11_know 131 = .ok (.ireturn, 1) := by decide +kernel
theorem dX11_row_0 : decode cX11_row 0 = .ok (.aload_n 0, 1) := by decide +kernel
theorem dX11_row_1 : decode cX11_row 1 = .ok (.iload_n 1, 1) := by decide +kernel
theorem dX11_row_2 : decode cX11_row 2 = .ok (.invokevirtual 160, 3) := by decide +kernel
theorem dX11_row_5 : decode cX11_row 5 = .ok (.ifCond .eq 16, 3) := by decide +kernel
theorem dX11_row_8 : decode cX11_row 8 = .ok (.iload_n 2, 1) := by decide +kernel
theorem dX11_row_9 : decode cX11_row 9 = .ok (.iconst (-1), 1) := by decide +kernel
theorem dX11_row_10 : decode cX11_row 10 = .ok (.if_icmp .eq 13, 3) := by decide +kernel
theorem dX11_row_13 : decode cX11_row 13 = .ok (.aload_n 0, 1) := by decide +kernel
theorem dX11_row_14 : decode cX11_row 14 = .ok (.iload_n 2, 1) := by decide +kernel
theorem dX11_row_15 : decode cX11_row 15 = .ok (.invokevirtual 160, 3) := by decide +kernel
theorem dX11_row_18 : decode cX11_row 18 = .ok (.ifCond .ne 5, 3) := by decide +kernel
theorem dX11_row_21 : decode cX11_row 21 = .ok (.iconst (-1), 1) := by decide +kernel
theorem dX11_row_22 : decode cX11_row 22 = .ok (.ireturn, 1) := by decide +kernel
theorem dX11_row_23 : decode cX11_row 23 = .ok (.aload_n 0, 1) := by decide +kernel
theorem dX11_row_24 : decode cX11_row 24 = .ok (.getfield 9, 3) := by decide +kernel
theorem dX11_row_27 : decode cX11_row 27 = .ok (.bipush 24, 2) := by decide +kernel
theorem dX11_row_29 : decode cX11_row 29 = .ok (.iload_n 1, 1) := by decide +kernel
theorem dX11_row_30 : decode cX11_row 30 = .ok (.iadd, 1) := by decide +kernel
theorem dX11_row_31 : decode cX11_row 31 = .ok (.iaload, 1) := by decide +kernel
theorem dX11_row_32 : decode cX11_row 32 = .ok (.bipush 6, 2) := by decide +kernel
theorem dX11_row_34 : decode cX11_row 34 = .ok (.if_icmp .eq 6, 3) := by decide +kernel
theorem dX11_row_37 : decode cX11_row 37 = .ok (.bipush (-3), 2) := by decide +kernel
theorem dX11_row_39 : decode cX11_row 39 = .ok (.ireturn, 1) := by decide +kernel
theorem dX11_row_40 : decode cX11_row 40 = .ok (.iload_n 2, 1) := by decide +kernel
theorem dX11_row_41 : decode cX11_row 41 = .ok (.iconst (-1), 1) := by decide +kernel
theorem dX11_row_42 : decode cX11_row 42 = .ok (.if_icmp .ne 15, 3) := by decide +kernel
theorem dX11_row_45 : decode cX11_row 45 = .ok (.aload_n 0, 1) := by decide +kernel
theorem dX11_row_46 : decode cX11_row 46 = .ok (.getfield 9, 3) := by decide +kernel
theorem dX11_row_49 : decode cX11_row 49 = .ok (.bipush 45, 2) := by decide +kernel
theorem dX11_row_51 : decode cX11_row 51 = .ok (.iload_n 1, 1) := by decide +kernel
theorem dX11_row_52 : decode cX11_row 52 = .ok (.iadd, 1) := by decide +kernel
theorem dX11_row_53 : decode cX11_row 53 = .ok (.iconst 0, 1) := by decide +kernel
theorem dX11_row_54 : decode cX11_row 54 = .ok (.iastore, 1) := by decide +kernel
theorem dX11_row_55 : decode cX11_row 55 = .ok (.iconst 0, 1) := by decide +kernel
theorem dX11_row_56 : decode cX11_row 56 = .ok (.ireturn, 1) := by decide +kernel
theorem dX11_row_57 : decode cX11_row 57 = .ok (.aload_n 0, 1) := by decide +kernel
theorem dX11_row_58 : decode cX11_row 58 = .ok (.getfield 9, 3) := by decide +kernel
theorem dX11_row_61 : decode cX11_row 61 = .ok (.bipush 45, 2) := by decide +kernel
theorem dX11_row_63 : decode cX11_row 63 = .ok (.iload_n 1, 1) := by decide +kernel
theorem dX11_row_64 : decode cX11_row 64 = .ok (.iadd, 1) := by decide +kernel
theorem dX11_row_65 : decode cX11_row 65 = .ok (.iaload, 1) := by decide +kernel
theorem dX11_row_66 : decode cX11_row 66 = .ok (.bipush 7, 2) := by decide +kernel
theorem dX11_row_68 : decode cX11_row 68 = .ok (.if_icmp .ne 6, 3) := by decide +kernel
theorem dX11_row_71 : decode cX11_row 71 = .ok (.bipush (-4), 2) := by decide +kernel
theorem dX11_row_73 : decode cX11_row 73 = .ok (.ireturn, 1) := by decide +kernel
theorem dX11_row_74 : decode cX11_row 74 = .ok (.aload_n 0, 1) := by decide +kernel
theorem dX11_row_75 : decode cX11_row 75 = .ok (.getfield 9, 3) := by decide +kernel
theorem dX11_row_78 : decode cX11_row 78 = .ok (.bipush 52, 2) := by decide +kernel
theorem dX11_row_80 : decode cX11_row 80 = .ok (.bipush 7, 2) := by decide +kernel
theorem dX11_row_82 : decode cX11_row 82 = .ok (.iload_n 1, 1) := by decide +kernel
theorem dX11_row_83 : decode cX11_row 83 = .ok (.imul, 1) := by decide +kernel
theorem dX11_row_84 : decode cX11_row 84 = .ok (.iadd, 1) := by decide +kernel
theorem dX11_row_85 : decode cX11_row 85 = .ok (.aload_n 0, 1) := by decide +kernel
theorem dX11_row_86 : decode cX11_row 86 = .ok (.getfield 9, 3) := by decide +kernel
theorem dX11_row_89 : decode cX11_row 89 = .ok (.bipush 45, 2) := by decide +kernel
theorem dX11_row_91 : decode cX11_row 91 = .ok (.iload_n 1, 1) := by decide +kernel
theorem dX11_row_92 : decode cX11_row 92 = .ok (.iadd, 1) := by decide +kernel
theorem dX11_row_93 : decode cX11_row 93 = .ok (.iaload, 1) := by decide +kernel
theorem dX11_row_94 : decode cX11_row 94 = .ok (.iadd, 1) := by decide +kernel
theorem dX11_row_95 : decode cX11_row 95 = .ok (.iload_n 2, 1) := by decide +kernel
theorem dX11_row_96 : decode cX11_row 96 = .ok (.iastore, 1) := by decide +kernel
theorem dX11_row_97 : decode cX11_row 97 = .ok (.aload_n 0, 1) := by decide +kernel
theorem dX11_row_98 : decode cX11_row 98 = .ok (.getfield 9, 3) := by decide +kernel
theorem dX11_row_101 : decode cX11_row 101 = .ok (.bipush 45, 2) := by decide +kernel
theorem dX11_row_103 : decode cX11_row 103 = .ok (.iload_n 1, 1) := by decide +kernel
theorem dX11_row_104 : decode cX11_row 104 = .ok (.iadd, 1) := by decide +kernel
theorem dX11_row_105 : decode cX11_row 105 = .ok (.dup2, 1) := by decide +kernel
theorem dX11_row_106 : decode cX11_row 106 = .ok (.iaload, 1) := by decide +kernel
theorem dX11_row_107 : decode cX11_row 107 = .ok (.iconst 1, 1) := by decide +kernel
theorem dX11_row_108 : decode cX11_row 108 = .ok (.iadd, 1) := by decide +kernel
theorem dX11_row_109 : decode cX11_row 109 = .ok (.iastore, 1) := by decide +kernel
theorem dX11_row_110 : decode cX11_row 110 = .ok (.aload_n 0, 1) := by decide +kernel
theorem dX11_row_111 : decode cX11_row 111 = .ok (.getfield 9, 3) := by decide +kernel
theorem dX11_row_114 : decode cX11_row 114 = .ok (.bipush 45, 2) := by decide +kernel
theorem dX11_row_116 : decode cX11_row 116 = .ok (.iload_n 1, 1) := by decide +kernel
theorem dX11_row_117 : decode cX11_row 117 = .ok (.iadd, 1) := by decide +kernel
theorem dX11_row_118 : decode cX11_row 118 = .ok (.iaload, 1) := by decide +kernel
theorem dX11_row_119 : decode cX11_row 119 = .ok (.ireturn, 1) := by decide +kernel
theorem dX11_told_0 : decode cX11_told 0 = .ok (.iload_n 1, 1) := by decide +kernel
theorem dX11_told_1 : decode cX11_told 1 = .ok (.tableswitch 76 0 4 #[35, 42, 49, 58, 69], 35) := by decide +kernel
theorem dX11_told_36 : decode cX11_told 36 = .ok (.aload_n 0, 1) := by decide +kernel
theorem dX11_told_37 : decode cX11_told 37 = .ok (.getfield 9, 3) := by decide +kernel
theorem dX11_told_40 : decode cX11_told 40 = .ok (.iconst 0, 1) := by decide +kernel
theorem dX11_told_41 : decode cX11_told 41 = .ok (.iaload, 1) := by decide +kernel
theorem dX11_told_42 : decode cX11_told 42 = .ok (.ireturn, 1) := by decide +kernel
theorem dX11_told_43 : decode cX11_told 43 = .ok (.aload_n 0, 1) := by decide +kernel
theorem dX11_told_44 : decode cX11_told 44 = .ok (.getfield 9, 3) := by decide +kernel
theorem dX11_told_47 : decode cX11_told 47 = .ok (.iconst 1, 1) := by decide +kernel
theorem dX11_told_48 : decode cX11_told 48 = .ok (.iaload, 1) := by decide +kernel
theorem dX11_told_49 : decode cX11_told 49 = .ok (.ireturn, 1) := by decide +kernel
theorem dX11_told_50 : decode cX11_told 50 = .ok (.aload_n 0, 1) := by decide +kernel
theorem dX11_told_51 : decode cX11_told 51 = .ok (.sipush 229, 3) := by decide +kernel
theorem dX11_told_54 : decode cX11_told 54 = .ok (.iconst 1, 1) := by decide +kernel
theorem dX11_told_55 : decode cX11_told 55 = .ok (.invokevirtual 139, 3) := by decide +kernel
theorem dX11_told_58 : decode cX11_told 58 = .ok (.ireturn, 1) := by decide +kernel
theorem dX11_told_59 : decode cX11_told 59 = .ok (.aload_n 0, 1) := by decide +kernel
theorem dX11_told_60 : decode cX11_told 60 = .ok (.sipush 234, 3) := by decide +kernel
theorem dX11_told_63 : decode cX11_told 63 = .ok (.iconst 0, 1) := by decide +kernel
theorem dX11_told_64 : decode cX11_told 64 = .ok (.invokevirtual 139, 3) := by decide +kernel
theorem dX11_told_67 : decode cX11_told 67 = .ok (.iconst 2, 1) := by decide +kernel
theorem dX11_told_68 : decode cX11_told 68 = .ok (.irem, 1) := by decide +kernel
theorem dX11_told_69 : decode cX11_told 69 = .ok (.ireturn, 1) := by decide +kernel
theorem dX11_told_70 : decode cX11_told 70 = .ok (.aload_n 0, 1) := by decide +kernel
theorem dX11_told_71 : decode cX11_told 71 = .ok (.getfield 9, 3) := by decide +kernel
theorem dX11_told_74 : decode cX11_told 74 = .ok (.iconst 2, 1) := by decide +kernel
theorem dX11_told_75 : decode cX11_told 75 = .ok (.iaload, 1) := by decide +kernel
theorem dX11_told_76 : decode cX11_told 76 = .ok (.ireturn, 1) := by decide +kernel
theorem dX11_told_77 : decode cX11_told 77 = .ok (.iconst (-1), 1) := by decide +kernel
theorem dX11_told_78 : decode cX11_told 78 = .ok (.ireturn, 1) := by decide +kernel
theorem dX11_begins_0 : decode cX11_begins 0 = .ok (.aload_n 0, 1) := by decide +kernel
theorem dX11_begins_1 : decode cX11_begins 1 = .ok (.getfield 9, 3) := by decide +kernel
theorem dX11_begins_4 : decode cX11_begins 4 = .ok (.iconst 2, 1) := by decide +kernel
theorem dX11_begins_5 : decode cX11_begins 5 = .ok (.iconst 1, 1) := by decide +kernel
theorem dX11_begins_6 : decode cX11_begins 6 = .ok (.iload_n 1, 1) := by decide +kernel
theorem dX11_begins_7 : decode cX11_begins 7 = .ok (.ishl, 1) := by decide +kernel
theorem dX11_begins_8 : decode cX11_begins 8 = .ok (.iastore, 1) := by decide +kernel
theorem dX11_begins_9 : decode cX11_begins 9 = .ok (.aload_n 0, 1) := by decide +kernel
theorem dX11_begins_10 : decode cX11_begins 10 = .ok (.getfield 9, 3) := by decide +kernel
theorem dX11_begins_13 : decode cX11_begins 13 = .ok (.iconst 3, 1) := by decide +kernel
theorem dX11_begins_14 : decode cX11_begins 14 = .ok (.iconst 0, 1) := by decide +kernel
theorem dX11_begins_15 : decode cX11_begins 15 = .ok (.iastore, 1) := by decide +kernel
theorem dX11_begins_16 : decode cX11_begins 16 = .ok (.aload_n 0, 1) := by decide +kernel
theorem dX11_begins_17 : decode cX11_begins 17 = .ok (.getfield 9, 3) := by decide +kernel
theorem dX11_begins_20 : decode cX11_begins 20 = .ok (.iconst 4, 1) := by decide +kernel
theorem dX11_begins_21 : decode cX11_begins 21 = .ok (.iload_n 1, 1) := by decide +kernel
theorem dX11_begins_22 : decode cX11_begins 22 = .ok (.iadd, 1) := by decide +kernel
theorem dX11_begins_23 : decode cX11_begins 23 = .ok (.iload_n 2, 1) := by decide +kernel
theorem dX11_begins_24 : decode cX11_begins 24 = .ok (.iastore, 1) := by decide +kernel
theorem dX11_begins_25 : decode cX11_begins 25 = .ok (.aload_n 0, 1) := by decide +kernel
theorem dX11_begins_26 : decode cX11_begins 26 = .ok (.getfield 9, 3) := by decide +kernel
theorem dX11_begins_29 : decode cX11_begins 29 = .ok (.bipush 11, 2) := by decide +kernel
theorem dX11_begins_31 : decode cX11_begins 31 = .ok (.iload_n 1, 1) := by decide +kernel
theorem dX11_begins_32 : decode cX11_begins 32 = .ok (.iadd, 1) := by decide +kernel
theorem dX11_begins_33 : decode cX11_begins 33 = .ok (.aload_n 0, 1) := by decide +kernel
theorem dX11_begins_34 : decode cX11_begins 34 = .ok (.getfield 9, 3) := by decide +kernel
theorem dX11_begins_37 : decode cX11_begins 37 = .ok (.iconst 0, 1) := by decide +kernel
theorem dX11_begins_38 : decode cX11_begins 38 = .ok (.iaload, 1) := by decide +kernel
theorem dX11_begins_39 : decode cX11_begins 39 = .ok (.iastore, 1) := by decide +kernel
theorem dX11_begins_40 : decode cX11_begins 40 = .ok (.aload_n 0, 1) := by decide +kernel
theorem dX11_begins_41 : decode cX11_begins 41 = .ok (.getfield 9, 3) := by decide +kernel
theorem dX11_begins_44 : decode cX11_begins 44 = .ok (.iconst 1, 1) := by decide +kernel
theorem dX11_begins_45 : decode cX11_begins 45 = .ok (.iconst 0, 1) := by decide +kernel
theorem dX11_begins_46 : decode cX11_begins 46 = .ok (.iastore, 1) := by decide +kernel
theorem dX11_begins_47 : decode cX11_begins 47 = .ok (.return_, 1) := by decide +kernel
theorem dX11_begin_0 : decode cX11_begin 0 = .ok (.aload_n 0, 1) := by decide +kernel
theorem dX11_begin_1 : decode cX11_begin 1 = .ok (.iload_n 1, 1) := by decide +kernel
theorem dX11_begin_2 : decode cX11_begin 2 = .ok (.invokevirtual 160, 3) := by decide +kernel
theorem dX11_begin_5 : decode cX11_begin 5 = .ok (.ifCond .ne 5, 3) := by decide +kernel
theorem dX11_begin_8 : decode cX11_begin 8 = .ok (.iconst (-1), 1) := by decide +kernel
theorem dX11_begin_9 : decode cX11_begin 9 = .ok (.ireturn, 1) := by decide +kernel
theorem dX11_begin_10 : decode cX11_begin 10 = .ok (.iload_n 2, 1) := by decide +kernel
theorem dX11_begin_11 : decode cX11_begin 11 = .ok (.iconst 0, 1) := by decide +kernel
theorem dX11_begin_12 : decode cX11_begin 12 = .ok (.bipush 9, 2) := by decide +kernel
theorem dX11_begin_14 : decode cX11_begin 14 = .ok (.invokestatic 47, 3) := by decide +kernel
theorem dX11_begin_17 : decode cX11_begin 17 = .ok (.ifCond .ne 6, 3) := by decide +kernel
theorem dX11_begin_20 : decode cX11_begin 20 = .ok (.bipush (-2), 2) := by decide +kernel
theorem dX11_begin_22 : decode cX11_begin 22 = .ok (.ireturn, 1) := by decide +kernel
theorem dX11_begin_23 : decode cX11_begin 23 = .ok (.aload_n 0, 1) := by decide +kernel
theorem dX11_begin_24 : decode cX11_begin 24 = .ok (.iload_n 1, 1) := by decide +kernel
theorem dX11_begin_25 : decode cX11_begin 25 = .ok (.iload_n 2, 1) := by decide +kernel
theorem dX11_begin_26 : decode cX11_begin 26 = .ok (.invokevirtual 172, 3) := by decide +kernel
theorem dX11_begin_29 : decode cX11_begin 29 = .ok (.iconst 1, 1) := by decide +kernel
theorem dX11_begin_30 : decode cX11_begin 30 = .ok (.ireturn, 1) := by decide +kernel
theorem dX11_isToTell_0 : decode cX11_isToTell 0 = .ok (.aload_n 0, 1) := by decide +kernel
theorem dX11_isToTell_1 : decode cX11_isToTell 1 = .ok (.iload_n 1, 1) := by decide +kernel
theorem dX11_isToTell_2 : decode cX11_isToTell 2 = .ok (.invokevirtual 129, 3) := by decide +kernel
theorem dX11_isToTell_5 : decode cX11_isToTell 5 = .ok (.ifCond .eq 15, 3) := by decide +kernel
theorem dX11_isToTell_8 : decode cX11_isToTell 8 = .ok (.aload_n 0, 1) := by decide +kernel
theorem dX11_isToTell_9 : decode cX11_isToTell 9 = .ok (.iload_n 1, 1) := by decide +kernel
theorem dX11_isToTell_10 : decode cX11_isToTell 10 = .ok (.invokevirtual 163, 3) := by decide +kernel
theorem dX11_isToTell_13 : decode cX11_isToTell 13 = .ok (.ifCond .ne 7, 3) := by decide +kernel
theorem dX11_isToTell_16 : decode cX11_isToTell 16 = .ok (.iconst 1, 1) := by decide +kernel
theorem dX11_isToTell_17 : decode cX11_isToTell 17 = .ok (.goto 4, 3) := by decide +kernel
theorem dX11_isToTell_20 : decode cX11_isToTell 20 = .ok (.iconst 0, 1) := by decide +kernel
theorem dX11_isToTell_21 : decode cX11_isToTell 21 = .ok (.ireturn, 1) := by decide +kernel
theorem dX11_isDeaf_0 : decode cX11_isDeaf 0 = .ok (.iload_n 1, 1) := by decide +kernel
theorem dX11_isDeaf_1 : decode cX11_isDeaf 1 = .ok (.aload_n 0, 1) := by decide +kernel
theorem dX11_isDeaf_2 : decode cX11_isDeaf 2 = .ok (.getfield 34, 3) := by decide +kernel
theorem dX11_isDeaf_5 : decode cX11_isDeaf 5 = .ok (.if_icmp .eq 37, 3) := by decide +kernel
theorem dX11_isDeaf_8 : decode cX11_isDeaf 8 = .ok (.aload_n 0, 1) := by decide +kernel
theorem dX11_isDeaf_9 : decode cX11_isDeaf 9 = .ok (.getfield 9, 3) := by decide +kernel
theorem dX11_isDeaf_12 : decode cX11_isDeaf 12 = .ok (.bipush 24, 2) := by decide +kernel
theorem dX11_isDeaf_14 : decode cX11_isDeaf 14 = .ok (.iload_n 1, 1) := by decide +kernel
theorem dX11_isDeaf_15 : decode cX11_isDeaf 15 = .ok (.iadd, 1) := by decide +kernel
theorem dX11_isDeaf_16 : decode cX11_isDeaf 16 = .ok (.iaload, 1) := by decide +kernel
theorem dX11_isDeaf_17 : decode cX11_isDeaf 17 = .ok (.iconst 5, 1) := by decide +kernel
theorem dX11_isDeaf_18 : decode cX11_isDeaf 18 = .ok (.if_icmp .ne 28, 3) := by decide +kernel
theorem dX11_isDeaf_21 : decode cX11_isDeaf 21 = .ok (.aload_n 0, 1) := by decide +kernel
theorem dX11_isDeaf_22 : decode cX11_isDeaf 22 = .ok (.getfield 9, 3) := by decide +kernel
theorem dX11_isDeaf_25 : decode cX11_isDeaf 25 = .ok (.iconst 0, 1) := by decide +kernel
theorem dX11_isDeaf_26 : decode cX11_isDeaf 26 = .ok (.iaload, 1) := by decide +kernel
theorem dX11_isDeaf_27 : decode cX11_isDeaf 27 = .ok (.aload_n 0, 1) := by decide +kernel
theorem dX11_isDeaf_28 : decode cX11_isDeaf 28 = .ok (.getfield 9, 3) := by decide +kernel
theorem dX11_isDeaf_31 : decode cX11_isDeaf 31 = .ok (.bipush 31, 2) := by decide +kernel
theorem dX11_isDeaf_33 : decode cX11_isDeaf 33 = .ok (.iload_n 1, 1) := by decide +kernel
theorem dX11_isDeaf_34 : decode cX11_isDeaf 34 = .ok (.iadd, 1) := by decide +kernel
theorem dX11_isDeaf_35 : decode cX11_isDeaf 35 = .ok (.iaload, 1) := by decide +kernel
theorem dX11_isDeaf_36 : decode cX11_isDeaf 36 = .ok (.iconst 2, 1) := by decide +kernel
theorem dX11_isDeaf_37 : decode cX11_isDeaf 37 = .ok (.iadd, 1) := by decide +kernel
theorem dX11_isDeaf_38 : decode cX11_isDeaf 38 = .ok (.irem, 1) := by decide +kernel
theorem dX11_isDeaf_39 : decode cX11_isDeaf 39 = .ok (.ifCond .ne 7, 3) := by decide +kernel
theorem dX11_isDeaf_42 : decode cX11_isDeaf 42 = .ok (.iconst 1, 1) := by decide +kernel
theorem dX11_isDeaf_43 : decode cX11_isDeaf 43 = .ok (.goto 4, 3) := by decide +kernel
theorem dX11_isDeaf_46 : decode cX11_isDeaf 46 = .ok (.iconst 0, 1) := by decide +kernel
theorem dX11_isDeaf_47 : decode cX11_isDeaf 47 = .ok (.ireturn, 1) := by decide +kernel
theorem dX11_chooses_0 : decode cX11_chooses 0 = .ok (.iconst 0, 1) := by decide +kernel
theorem dX11_chooses_1 : decode cX11_chooses 1 = .ok (.istore_n 1, 1) := by decide +kernel
theorem dX11_chooses_2 : decode cX11_chooses 2 = .ok (.iconst 0, 1) := by decide +kernel
theorem dX11_chooses_3 : decode cX11_chooses 3 = .ok (.istore_n 2, 1) := by decide +kernel
theorem dX11_chooses_4 : decode cX11_chooses 4 = .ok (.iload_n 2, 1) := by decide +kernel
theorem dX11_chooses_5 : decode cX11_chooses 5 = .ok (.aload_n 0, 1) := by decide +kernel
theorem dX11_chooses_6 : decode cX11_chooses 6 = .ok (.getfield 9, 3) := by decide +kernel
theorem dX11_chooses_9 : decode cX11_chooses 9 = .ok (.bipush 18, 2) := by decide +kernel
theorem dX11_chooses_11 : decode cX11_chooses 11 = .ok (.iaload, 1) := by decide +kernel
theorem dX11_chooses_12 : decode cX11_chooses 12 = .ok (.if_icmp .ge 74, 3) := by decide +kernel
theorem dX11_chooses_15 : decode cX11_chooses 15 = .ok (.aload_n 0, 1) := by decide +kernel
theorem dX11_chooses_16 : decode cX11_chooses 16 = .ok (.getfield 28, 3) := by decide +kernel
theorem dX11_chooses_19 : decode cX11_chooses 19 = .ok (.iload_n 2, 1) := by decide +kernel
theorem dX11_chooses_20 : decode cX11_chooses 20 = .ok (.iconst 0, 1) := by decide +kernel
theorem dX11_chooses_21 : decode cX11_chooses 21 = .ok (.iastore, 1) := by decide +kernel
theorem dX11_chooses_22 : decode cX11_chooses 22 = .ok (.aload_n 0, 1) := by decide +kernel
theorem dX11_chooses_23 : decode cX11_chooses 23 = .ok (.iload_n 2, 1) := by decide +kernel
theorem dX11_chooses_24 : decode cX11_chooses 24 = .ok (.invokevirtual 175, 3) := by decide +kernel
theorem dX11_chooses_27 : decode cX11_chooses 27 = .ok (.ifCond .eq 53, 3) := by decide +kernel
theorem dX11_chooses_30 : decode cX11_chooses 30 = .ok (.aload_n 0, 1) := by decide +kernel
theorem dX11_chooses_31 : decode cX11_chooses 31 = .ok (.getfield 28, 3) := by decide +kernel
theorem dX11_chooses_34 : decode cX11_chooses 34 = .ok (.iload_n 2, 1) := by decide +kernel
theorem dX11_chooses_35 : decode cX11_chooses 35 = .ok (.iload_n 2, 1) := by decide +kernel
theorem dX11_chooses_36 : decode cX11_chooses 36 = .ok (.aload_n 0, 1) := by decide +kernel
theorem dX11_chooses_37 : decode cX11_chooses 37 = .ok (.getfield 38, 3) := by decide +kernel
theorem dX11_chooses_40 : decode cX11_chooses 40 = .ok (.if_icmp .ne 10, 3) := by decide +kernel
theorem dX11_chooses_43 : decode cX11_chooses 43 = .ok (.aload_n 0, 1) := by decide +kernel
theorem dX11_chooses_44 : decode cX11_chooses 44 = .ok (.getfield 178, 3) := by decide +kernel
theorem dX11_chooses_47 : decode cX11_chooses 47 = .ok (.goto 8, 3) := by decide +kernel
theorem dX11_chooses_50 : decode cX11_chooses 50 = .ok (.aload_n 0, 1) := by decide +kernel
theorem dX11_chooses_51 : decode cX11_chooses 51 = .ok (.iload_n 2, 1) := by decide +kernel
theorem dX11_chooses_52 : decode cX11_chooses 52 = .ok (.invokevirtual 166, 3) := by decide +kernel
theorem dX11_chooses_55 : decode cX11_chooses 55 = .ok (.iastore, 1) := by decide +kernel
theorem dX11_chooses_56 : decode cX11_chooses 56 = .ok (.iload_n 1, 1) := by decide +kernel
theorem dX11_chooses_57 : decode cX11_chooses 57 = .ok (.aload_n 0, 1) := by decide +kernel
theorem dX11_chooses_58 : decode cX11_chooses 58 = .ok (.iload_n 2, 1) := by decide +kernel
theorem dX11_chooses_59 : decode cX11_chooses 59 = .ok (.invokevirtual 169, 3) := by decide +kernel
theorem dX11_chooses_62 : decode cX11_chooses 62 = .ok (.aload_n 0, 1) := by decide +kernel
theorem dX11_chooses_63 : decode cX11_chooses 63 = .ok (.iload_n 2, 1) := by decide +kernel
theorem dX11_chooses_64 : decode cX11_chooses 64 = .ok (.invokevirtual 154, 3) := by decide +kernel
theorem dX11_chooses_67 : decode cX11_chooses 67 = .ok (.aload_n 0, 1) := by decide +kernel
theorem dX11_chooses_68 : decode cX11_chooses 68 = .ok (.getfield 28, 3) := by decide +kernel
theorem dX11_chooses_71 : decode cX11_chooses 71 = .ok (.iload_n 2, 1) := by decide +kernel
theorem dX11_chooses_72 : decode cX11_chooses 72 = .ok (.iaload, 1) := by decide +kernel
theorem dX11_chooses_73 : decode cX11_chooses 73 = .ok (.invokestatic 147, 3) := by decide +kernel
theorem dX11_chooses_76 : decode cX11_chooses 76 = .ok (.isub, 1) := by decide +kernel
theorem dX11_chooses_77 : decode cX11_chooses 77 = .ok (.imul, 1) := by decide +kernel
theorem dX11_chooses_78 : decode cX11_chooses 78 = .ok (.iadd, 1) := by decide +kernel
theorem dX11_chooses_79 : decode cX11_chooses 79 = .ok (.istore_n 1, 1) := by decide +kernel
theorem dX11_chooses_80 : decode cX11_chooses 80 = .ok (.iinc 2 1, 3) := by decide +kernel
theorem dX11_chooses_83 : decode cX11_chooses 83 = .ok (.goto (-79), 3) := by decide +kernel
theorem dX11_chooses_86 : decode cX11_chooses 86 = .ok (.aload_n 0, 1) := by decide +kernel
theorem dX11_chooses_87 : decode cX11_chooses 87 = .ok (.iconst (-1), 1) := by decide +kernel
theorem dX11_chooses_88 : decode cX11_chooses 88 = .ok (.putfield 38, 3) := by decide +kernel
theorem dX11_chooses_91 : decode cX11_chooses 91 = .ok (.aload_n 0, 1) := by decide +kernel
theorem dX11_chooses_92 : decode cX11_chooses 92 = .ok (.getfield 9, 3) := by decide +kernel
theorem dX11_chooses_95 : decode cX11_chooses 95 = .ok (.iconst 1, 1) := by decide +kernel
theorem dX11_chooses_96 : decode cX11_chooses 96 = .ok (.dup2, 1) := by decide +kernel
theorem dX11_chooses_97 : decode cX11_chooses 97 = .ok (.iaload, 1) := by decide +kernel
theorem dX11_chooses_98 : decode cX11_chooses 98 = .ok (.iload_n 1, 1) := by decide +kernel
theorem dX11_chooses_99 : decode cX11_chooses 99 = .ok (.iadd, 1) := by decide +kernel
theorem dX11_chooses_100 : decode cX11_chooses 100 = .ok (.iastore, 1) := by decide +kernel
theorem dX11_chooses_101 : decode cX11_chooses 101 = .ok (.return_, 1) := by decide +kernel
theorem dX11_lessOne_0 : decode cX11_lessOne 0 = .ok (.iload_n 1, 1) := by decide +kernel
theorem dX11_lessOne_1 : decode cX11_lessOne 1 = .ok (.aload_n 0, 1) := by decide +kernel
theorem dX11_lessOne_2 : decode cX11_lessOne 2 = .ok (.sipush 229, 3) := by decide +kernel
theorem dX11_lessOne_5 : decode cX11_lessOne 5 = .ok (.iconst 1, 1) := by decide +kernel
theorem dX11_lessOne_6 : decode cX11_lessOne 6 = .ok (.invokevirtual 139, 3) := by decide +kernel
theorem dX11_lessOne_9 : decode cX11_lessOne 9 = .ok (.isub, 1) := by decide +kernel
theorem dX11_lessOne_10 : decode cX11_lessOne 10 = .ok (.istore_n 2, 1) := by decide +kernel
theorem dX11_lessOne_11 : decode cX11_lessOne 11 = .ok (.iload_n 2, 1) := by decide +kernel
theorem dX11_lessOne_12 : decode cX11_lessOne 12 = .ok (.ifCond .ge 7, 3) := by decide +kernel
theorem dX11_lessOne_15 : decode cX11_lessOne 15 = .ok (.iconst 0, 1) := by decide +kernel
theorem dX11_lessOne_16 : decode cX11_lessOne 16 = .ok (.goto 4, 3) := by decide +kernel
theorem dX11_lessOne_19 : decode cX11_lessOne 19 = .ok (.iload_n 2, 1) := by decide +kernel
theorem dX11_lessOne_20 : decode cX11_lessOne 20 = .ok (.ireturn, 1) := by decide +kernel
theorem dX11_numberFor_0 : decode cX11_numberFor 0 = .ok (.aload_n 0, 1) := by decide +kernel
theorem dX11_numberFor_1 : decode cX11_numberFor 1 = .ok (.sipush 234, 3) := by decide +kernel
theorem dX11_numberFor_4 : decode cX11_numberFor 4 = .ok (.iconst 0, 1) := by decide +kernel
theorem dX11_numberFor_5 : decode cX11_numberFor 5 = .ok (.invokevirtual 139, 3) := by decide +kernel
theorem dX11_numberFor_8 : decode cX11_numberFor 8 = .ok (.iconst 2, 1) := by decide +kernel
theorem dX11_numberFor_9 : decode cX11_numberFor 9 = .ok (.irem, 1) := by decide +kernel
theorem dX11_numberFor_10 : decode cX11_numberFor 10 = .ok (.iconst 1, 1) := by decide +kernel
theorem dX11_numberFor_11 : decode cX11_numberFor 11 = .ok (.if_icmp .ne 7, 3) := by decide +kernel
theorem dX11_numberFor_14 : decode cX11_numberFor 14 = .ok (.iconst 1, 1) := by decide +kernel
theorem dX11_numberFor_15 : decode cX11_numberFor 15 = .ok (.goto 4, 3) := by decide +kernel
theorem dX11_numberFor_18 : decode cX11_numberFor 18 = .ok (.iconst 0, 1) := by decide +kernel
theorem dX11_numberFor_19 : decode cX11_numberFor 19 = .ok (.istore_n 2, 1) := by decide +kernel
theorem dX11_numberFor_20 : decode cX11_numberFor 20 = .ok (.iconst (-1), 1) := by decide +kernel
theorem dX11_numberFor_21 : decode cX11_numberFor 21 = .ok (.istore_n 3, 1) := by decide +kernel
theorem dX11_numberFor_22 : decode cX11_numberFor 22 = .ok (.iconst 0, 1) := by decide +kernel
theorem dX11_numberFor_23 : decode cX11_numberFor 23 = .ok (.istore 4, 2) := by decide +kernel
theorem dX11_numberFor_25 : decode cX11_numberFor 25 = .ok (.iload 4, 2) := by decide +kernel
theorem dX11_numberFor_27 : decode cX11_numberFor 27 = .ok (.aload_n 0, 1) := by decide +kernel
theorem dX11_numberFor_28 : decode cX11_numberFor 28 = .ok (.getfield 9, 3) := by decide +kernel
theorem dX11_numberFor_31 : decode cX11_numberFor 31 = .ok (.bipush 18, 2) := by decide +kernel
theorem dX11_numberFor_33 : decode cX11_numberFor 33 = .ok (.iaload, 1) := by decide +kernel
theorem dX11_numberFor_34 : decode cX11_numberFor 34 = .ok (.if_icmp .ge 70, 3) := by decide +kernel
theorem dX11_numberFor_37 : decode cX11_numberFor 37 = .ok (.aload_n 0, 1) := by decide +kernel
theorem dX11_numberFor_38 : decode cX11_numberFor 38 = .ok (.getfield 28, 3) := by decide +kernel
theorem dX11_numberFor_41 : decode cX11_numberFor 41 = .ok (.iload 4, 2) := by decide +kernel
theorem dX11_numberFor_43 : decode cX11_numberFor 43 = .ok (.iaload, 1) := by decide +kernel
theorem dX11_numberFor_44 : decode cX11_numberFor 44 = .ok (.iload_n 1, 1) := by decide +kernel
theorem dX11_numberFor_45 : decode cX11_numberFor 45 = .ok (.ishr, 1) := by decide +kernel
theorem dX11_numberFor_46 : decode cX11_numberFor 46 = .ok (.iconst 1, 1) := by decide +kernel
theorem dX11_numberFor_47 : decode cX11_numberFor 47 = .ok (.iand, 1) := by decide +kernel
theorem dX11_numberFor_48 : decode cX11_numberFor 48 = .ok (.iconst 1, 1) := by decide +kernel
theorem dX11_numberFor_49 : decode cX11_numberFor 49 = .ok (.if_icmp .ne 49, 3) := by decide +kernel
theorem dX11_numberFor_52 : decode cX11_numberFor 52 = .ok (.aload_n 0, 1) := by decide +kernel
theorem dX11_numberFor_53 : decode cX11_numberFor 53 = .ok (.aload_n 0, 1) := by decide +kernel
theorem dX11_numberFor_54 : decode cX11_numberFor 54 = .ok (.getfield 9, 3) := by decide +kernel
theorem dX11_numberFor_57 : decode cX11_numberFor 57 = .ok (.iconst 4, 1) := by decide +kernel
theorem dX11_numberFor_58 : decode cX11_numberFor 58 = .ok (.iload 4, 2) := by decide +kernel
theorem dX11_numberFor_60 : decode cX11_numberFor 60 = .ok (.iadd, 1) := by decide +kernel
theorem dX11_numberFor_61 : decode cX11_numberFor 61 = .ok (.iaload, 1) := by decide +kernel
theorem dX11_numberFor_62 : decode cX11_numberFor 62 = .ok (.invokevirtual 181, 3) := by decide +kernel
theorem dX11_numberFor_65 : decode cX11_numberFor 65 = .ok (.istore 5, 2) := by decide +kernel
theorem dX11_numberFor_67 : decode cX11_numberFor 67 = .ok (.iload_n 3, 1) := by decide +kernel
theorem dX11_numberFor_68 : decode cX11_numberFor 68 = .ok (.iconst (-1), 1) := by decide +kernel
theorem dX11_numberFor_69 : decode cX11_numberFor 69 = .ok (.if_icmp .eq 22, 3) := by decide +kernel
theorem dX11_numberFor_72 : decode cX11_numberFor 72 = .ok (.iload_n 2, 1) := by decide +kernel
theorem dX11_numberFor_73 : decode cX11_numberFor 73 = .ok (.ifCond .eq 12, 3) := by decide +kernel
theorem dX11_numberFor_76 : decode cX11_numberFor 76 = .ok (.iload 5, 2) := by decide +kernel
theorem dX11_numberFor_78 : decode cX11_numberFor 78 = .ok (.iload_n 3, 1) := by decide +kernel
theorem dX11_numberFor_79 : decode cX11_numberFor 79 = .ok (.if_icmp .le 17, 3) := by decide +kernel
theorem dX11_numberFor_82 : decode cX11_numberFor 82 = .ok (.goto 9, 3) := by decide +kernel
theorem dX11_numberFor_85 : decode cX11_numberFor 85 = .ok (.iload 5, 2) := by decide +kernel
theorem dX11_numberFor_87 : decode cX11_numberFor 87 = .ok (.iload_n 3, 1) := by decide +kernel
theorem dX11_numberFor_88 : decode cX11_numberFor 88 = .ok (.if_icmp .ge 8, 3) := by decide +kernel
theorem dX11_numberFor_91 : decode cX11_numberFor 91 = .ok (.iload 5, 2) := by decide +kernel
theorem dX11_numberFor_93 : decode cX11_numberFor 93 = .ok (.goto 4, 3) := by decide +kernel
theorem dX11_numberFor_96 : decode cX11_numberFor 96 = .ok (.iload_n 3, 1) := by decide +kernel
theorem dX11_numberFor_97 : decode cX11_numberFor 97 = .ok (.istore_n 3, 1) := by decide +kernel
theorem dX11_numberFor_98 : decode cX11_numberFor 98 = .ok (.iinc 4 1, 3) := by decide +kernel
theorem dX11_numberFor_101 : decode cX11_numberFor 101 = .ok (.goto (-76), 3) := by decide +kernel
theorem dX11_numberFor_104 : decode cX11_numberFor 104 = .ok (.iload_n 3, 1) := by decide +kernel
theorem dX11_numberFor_105 : decode cX11_numberFor 105 = .ok (.ireturn, 1) := by decide +kernel
theorem dX11_goes_0 : decode cX11_goes 0 = .ok (.aload_n 0, 1) := by decide +kernel
theorem dX11_goes_1 : decode cX11_goes 1 = .ok (.invokevirtual 184, 3) := by decide +kernel
theorem dX11_goes_4 : decode cX11_goes 4 = .ok (.iconst 0, 1) := by decide +kernel
theorem dX11_goes_5 : decode cX11_goes 5 = .ok (.istore_n 1, 1) := by decide +kernel
theorem dX11_goes_6 : decode cX11_goes 6 = .ok (.iload_n 1, 1) := by decide +kernel
theorem dX11_goes_7 : decode cX11_goes 7 = .ok (.aload_n 0, 1) := by decide +kernel
theorem dX11_goes_8 : decode cX11_goes 8 = .ok (.getfield 9, 3) := by decide +kernel
theorem dX11_goes_11 : decode cX11_goes 11 = .ok (.bipush 18, 2) := by decide +kernel
theorem dX11_goes_13 : decode cX11_goes 13 = .ok (.iaload, 1) := by decide +kernel
theorem dX11_goes_14 : decode cX11_goes 14 = .ok (.if_icmp .ge 32, 3) := by decide +kernel
theorem dX11_goes_17 : decode cX11_goes 17 = .ok (.aload_n 0, 1) := by decide +kernel
theorem dX11_goes_18 : decode cX11_goes 18 = .ok (.getfield 31, 3) := by decide +kernel
theorem dX11_goes_21 : decode cX11_goes 21 = .ok (.iload_n 1, 1) := by decide +kernel
theorem dX11_goes_22 : decode cX11_goes 22 = .ok (.aload_n 0, 1) := by decide +kernel
theorem dX11_goes_23 : decode cX11_goes 23 = .ok (.iload_n 1, 1) := by decide +kernel
theorem dX11_goes_24 : decode cX11_goes 24 = .ok (.invokevirtual 187, 3) := by decide +kernel
theorem dX11_goes_27 : decode cX11_goes 27 = .ok (.ifCond .eq 7, 3) := by decide +kernel
theorem dX11_goes_30 : decode cX11_goes 30 = .ok (.iconst (-1), 1) := by decide +kernel
theorem dX11_goes_31 : decode cX11_goes 31 = .ok (.goto 8, 3) := by decide +kernel
theorem dX11_goes_34 : decode cX11_goes 34 = .ok (.aload_n 0, 1) := by decide +kernel
theorem dX11_goes_35 : decode cX11_goes 35 = .ok (.iload_n 1, 1) := by decide +kernel
theorem dX11_goes_36 : decode cX11_goes 36 = .ok (.invokevirtual 190, 3) := by decide +kernel
theorem dX11_goes_39 : decode cX11_goes 39 = .ok (.iastore, 1) := by decide +kernel
theorem dX11_goes_40 : decode cX11_goes 40 = .ok (.iinc 1 1, 3) := by decide +kernel
theorem dX11_goes_43 : decode cX11_goes 43 = .ok (.goto (-37), 3) := by decide +kernel
theorem dX11_goes_46 : decode cX11_goes 46 = .ok (.iconst 0, 1) := by decide +kernel
theorem dX11_goes_47 : decode cX11_goes 47 = .ok (.istore_n 1, 1) := by decide +kernel
theorem dX11_goes_48 : decode cX11_goes 48 = .ok (.aload_n 0, 1) := by decide +kernel
theorem dX11_goes_49 : decode cX11_goes 49 = .ok (.getfield 9, 3) := by decide +kernel
theorem dX11_goes_52 : decode cX11_goes 52 = .ok (.iconst 3, 1) := by decide +kernel
theorem dX11_goes_53 : decode cX11_goes 53 = .ok (.dup2, 1) := by decide +kernel
theorem dX11_goes_54 : decode cX11_goes 54 = .ok (.iaload, 1) := by decide +kernel
theorem dX11_goes_55 : decode cX11_goes 55 = .ok (.aload_n 0, 1) := by decide +kernel
theorem dX11_goes_56 : decode cX11_goes 56 = .ok (.getfield 9, 3) := by decide +kernel
theorem dX11_goes_59 : decode cX11_goes 59 = .ok (.iconst 2, 1) := by decide +kernel
theorem dX11_goes_60 : decode cX11_goes 60 = .ok (.iaload, 1) := by decide +kernel
theorem dX11_goes_61 : decode cX11_goes 61 = .ok (.ior, 1) := by decide +kernel
theorem dX11_goes_62 : decode cX11_goes 62 = .ok (.iastore, 1) := by decide +kernel
theorem dX11_goes_63 : decode cX11_goes 63 = .ok (.iconst 0, 1) := by decide +kernel
theorem dX11_goes_64 : decode cX11_goes 64 = .ok (.istore_n 2, 1) := by decide +kernel
theorem dX11_goes_65 : decode cX11_goes 65 = .ok (.iload_n 2, 1) := by decide +kernel
theorem dX11_goes_66 : decode cX11_goes 66 = .ok (.aload_n 0, 1) := by decide +kernel
theorem dX11_goes_67 : decode cX11_goes 67 = .ok (.getfield 9, 3) := by decide +kernel
theorem dX11_goes_70 : decode cX11_goes 70 = .ok (.bipush 18, 2) := by decide +kernel
theorem dX11_goes_72 : decode cX11_goes 72 = .ok (.iaload, 1) := by decide +kernel
theorem dX11_goes_73 : decode cX11_goes 73 = .ok (.if_icmp .ge 63, 3) := by decide +kernel
theorem dX11_goes_76 : decode cX11_goes 76 = .ok (.aload_n 0, 1) := by decide +kernel
theorem dX11_goes_77 : decode cX11_goes 77 = .ok (.getfield 31, 3) := by decide +kernel
theorem dX11_goes_80 : decode cX11_goes 80 = .ok (.iload_n 2, 1) := by decide +kernel
theorem dX11_goes_81 : decode cX11_goes 81 = .ok (.iaload, 1) := by decide +kernel
theorem dX11_goes_82 : decode cX11_goes 82 = .ok (.iconst (-1), 1) := by decide +kernel
theorem dX11_goes_83 : decode cX11_goes 83 = .ok (.if_icmp .eq 47, 3) := by decide +kernel
theorem dX11_goes_86 : decode cX11_goes 86 = .ok (.aload_n 0, 1) := by decide +kernel
theorem dX11_goes_87 : decode cX11_goes 87 = .ok (.getfield 9, 3) := by decide +kernel
theorem dX11_goes_90 : decode cX11_goes 90 = .ok (.iconst 2, 1) := by decide +kernel
theorem dX11_goes_91 : decode cX11_goes 91 = .ok (.dup2, 1) := by decide +kernel
theorem dX11_goes_92 : decode cX11_goes 92 = .ok (.iaload, 1) := by decide +kernel
theorem dX11_goes_93 : decode cX11_goes 93 = .ok (.iconst 1, 1) := by decide +kernel
theorem dX11_goes_94 : decode cX11_goes 94 = .ok (.iload_n 2, 1) := by decide +kernel
theorem dX11_goes_95 : decode cX11_goes 95 = .ok (.ishl, 1) := by decide +kernel
theorem dX11_goes_96 : decode cX11_goes 96 = .ok (.ior, 1) := by decide +kernel
theorem dX11_goes_97 : decode cX11_goes 97 = .ok (.iastore, 1) := by decide +kernel
theorem dX11_goes_98 : decode cX11_goes 98 = .ok (.aload_n 0, 1) := by decide +kernel
theorem dX11_goes_99 : decode cX11_goes 99 = .ok (.getfield 9, 3) := by decide +kernel
theorem dX11_goes_102 : decode cX11_goes 102 = .ok (.iconst 4, 1) := by decide +kernel
theorem dX11_goes_103 : decode cX11_goes 103 = .ok (.iload_n 2, 1) := by decide +kernel
theorem dX11_goes_104 : decode cX11_goes 104 = .ok (.iadd, 1) := by decide +kernel
theorem dX11_goes_105 : decode cX11_goes 105 = .ok (.aload_n 0, 1) := by decide +kernel
theorem dX11_goes_106 : decode cX11_goes 106 = .ok (.getfield 31, 3) := by decide +kernel
theorem dX11_goes_109 : decode cX11_goes 109 = .ok (.iload_n 2, 1) := by decide +kernel
theorem dX11_goes_110 : decode cX11_goes 110 = .ok (.iaload, 1) := by decide +kernel
theorem dX11_goes_111 : decode cX11_goes 111 = .ok (.iastore, 1) := by decide +kernel
theorem dX11_goes_112 : decode cX11_goes 112 = .ok (.aload_n 0, 1) := by decide +kernel
theorem dX11_goes_113 : decode cX11_goes 113 = .ok (.getfield 9, 3) := by decide +kernel
theorem dX11_goes_116 : decode cX11_goes 116 = .ok (.bipush 11, 2) := by decide +kernel
theorem dX11_goes_118 : decode cX11_goes 118 = .ok (.iload_n 2, 1) := by decide +kernel
theorem dX11_goes_119 : decode cX11_goes 119 = .ok (.iadd, 1) := by decide +kernel
theorem dX11_goes_120 : decode cX11_goes 120 = .ok (.aload_n 0, 1) := by decide +kernel
theorem dX11_goes_121 : decode cX11_goes 121 = .ok (.getfield 9, 3) := by decide +kernel
theorem dX11_goes_124 : decode cX11_goes 124 = .ok (.iconst 0, 1) := by decide +kernel
theorem dX11_goes_125 : decode cX11_goes 125 = .ok (.iaload, 1) := by decide +kernel
theorem dX11_goes_126 : decode cX11_goes 126 = .ok (.iastore, 1) := by decide +kernel
theorem dX11_goes_127 : decode cX11_goes 127 = .ok (.iinc 1 1, 3) := by decide +kernel
theorem dX11_goes_130 : decode cX11_goes 130 = .ok (.iinc 2 1, 3) := by decide +kernel
theorem dX11_goes_133 : decode cX11_goes 133 = .ok (.goto (-68), 3) := by decide +kernel
theorem dX11_goes_136 : decode cX11_goes 136 = .ok (.aload_n 0, 1) := by decide +kernel
theorem dX11_goes_137 : decode cX11_goes 137 = .ok (.getfield 9, 3) := by decide +kernel
theorem dX11_goes_140 : decode cX11_goes 140 = .ok (.iconst 0, 1) := by decide +kernel
theorem dX11_goes_141 : decode cX11_goes 141 = .ok (.dup2, 1) := by decide +kernel
theorem dX11_goes_142 : decode cX11_goes 142 = .ok (.iaload, 1) := by decide +kernel
theorem dX11_goes_143 : decode cX11_goes 143 = .ok (.iconst 1, 1) := by decide +kernel
theorem dX11_goes_144 : decode cX11_goes 144 = .ok (.iadd, 1) := by decide +kernel
theorem dX11_goes_145 : decode cX11_goes 145 = .ok (.iastore, 1) := by decide +kernel
theorem dX11_goes_146 : decode cX11_goes 146 = .ok (.iload_n 1, 1) := by decide +kernel
theorem dX11_goes_147 : decode cX11_goes 147 = .ok (.ireturn, 1) := by decide +kernel
theorem dX11_day_0 : decode cX11_day 0 = .ok (.aload_n 0, 1) := by decide +kernel
theorem dX11_day_1 : decode cX11_day 1 = .ok (.getfield 9, 3) := by decide +kernel
theorem dX11_day_4 : decode cX11_day 4 = .ok (.iconst 0, 1) := by decide +kernel
theorem dX11_day_5 : decode cX11_day 5 = .ok (.iaload, 1) := by decide +kernel
theorem dX11_day_6 : decode cX11_day 6 = .ok (.sipush 999, 3) := by decide +kernel
theorem dX11_day_9 : decode cX11_day 9 = .ok (.if_icmp .ne 8, 3) := by decide +kernel
theorem dX11_day_12 : decode cX11_day 12 = .ok (.bipush (-3), 2) := by decide +kernel
theorem dX11_day_14 : decode cX11_day 14 = .ok (.goto 7, 3) := by decide +kernel
theorem dX11_day_17 : decode cX11_day 17 = .ok (.aload_n 0, 1) := by decide +kernel
theorem dX11_day_18 : decode cX11_day 18 = .ok (.invokevirtual 193, 3) := by decide +kernel
theorem dX11_day_21 : decode cX11_day 21 = .ok (.ireturn, 1) := by decide +kernel
theorem dX11_sumOf_0 : decode cX11_sumOf 0 = .ok (.aload_n 0, 1) := by decide +kernel
theorem dX11_sumOf_1 : decode cX11_sumOf 1 = .ok (.sipush 229, 3) := by decide +kernel
theorem dX11_sumOf_4 : decode cX11_sumOf 4 = .ok (.iconst 1, 1) := by decide +kernel
theorem dX11_sumOf_5 : decode cX11_sumOf 5 = .ok (.invokevirtual 139, 3) := by decide +kernel
theorem dX11_sumOf_8 : decode cX11_sumOf 8 = .ok (.istore_n 2, 1) := by decide +kernel
theorem dX11_sumOf_9 : decode cX11_sumOf 9 = .ok (.lconst 0, 1) := by decide +kernel
theorem dX11_sumOf_10 : decode cX11_sumOf 10 = .ok (.lstore_n 3, 1) := by decide +kernel
theorem dX11_sumOf_11 : decode cX11_sumOf 11 = .ok (.iload_n 2, 1) := by decide +kernel
theorem dX11_sumOf_12 : decode cX11_sumOf 12 = .ok (.ifCond .ne 7, 3) := by decide +kernel
theorem dX11_sumOf_15 : decode cX11_sumOf 15 = .ok (.iload_n 1, 1) := by decide +kernel
theorem dX11_sumOf_16 : decode cX11_sumOf 16 = .ok (.goto 6, 3) := by decide +kernel
theorem dX11_sumOf_19 : decode cX11_sumOf 19 = .ok (.iload_n 1, 1) := by decide +kernel
theorem dX11_sumOf_20 : decode cX11_sumOf 20 = .ok (.iload_n 2, 1) := by decide +kernel
theorem dX11_sumOf_21 : decode cX11_sumOf 21 = .ok (.irem, 1) := by decide +kernel
theorem dX11_sumOf_22 : decode cX11_sumOf 22 = .ok (.istore 5, 2) := by decide +kernel
theorem dX11_sumOf_24 : decode cX11_sumOf 24 = .ok (.iload 5, 2) := by decide +kernel
theorem dX11_sumOf_26 : decode cX11_sumOf 26 = .ok (.istore 6, 2) := by decide +kernel
theorem dX11_sumOf_28 : decode cX11_sumOf 28 = .ok (.iload 6, 2) := by decide +kernel
theorem dX11_sumOf_30 : decode cX11_sumOf 30 = .ok (.iload_n 1, 1) := by decide +kernel
theorem dX11_sumOf_31 : decode cX11_sumOf 31 = .ok (.if_icmp .gt 41, 3) := by decide +kernel
theorem dX11_sumOf_34 : decode cX11_sumOf 34 = .ok (.iload_n 2, 1) := by decide +kernel
theorem dX11_sumOf_35 : decode cX11_sumOf 35 = .ok (.ifCond .ne 9, 3) := by decide +kernel
theorem dX11_sumOf_38 : decode cX11_sumOf 38 = .ok (.iload 6, 2) := by decide +kernel
theorem dX11_sumOf_40 : decode cX11_sumOf 40 = .ok (.i2l, 1) := by decide +kernel
theorem dX11_sumOf_41 : decode cX11_sumOf 41 = .ok (.goto 12, 3) := by decide +kernel
theorem dX11_sumOf_44 : decode cX11_sumOf 44 = .ok (.iload 6, 2) := by decide +kernel
theorem dX11_sumOf_46 : decode cX11_sumOf 46 = .ok (.i2l, 1) := by decide +kernel
theorem dX11_sumOf_47 : decode cX11_sumOf 47 = .ok (.iload 6, 2) := by decide +kernel
theorem dX11_sumOf_49 : decode cX11_sumOf 49 = .ok (.i2l, 1) := by decide +kernel
theorem dX11_sumOf_50 : decode cX11_sumOf 50 = .ok (.lload_n 3, 1) := by decide +kernel
theorem dX11_sumOf_51 : decode cX11_sumOf 51 = .ok (.lmul, 1) := by decide +kernel
theorem dX11_sumOf_52 : decode cX11_sumOf 52 = .ok (.ladd, 1) := by decide +kernel
theorem dX11_sumOf_53 : decode cX11_sumOf 53 = .ok (.lstore_n 3, 1) := by decide +kernel
theorem dX11_sumOf_54 : decode cX11_sumOf 54 = .ok (.iload 6, 2) := by decide +kernel
theorem dX11_sumOf_56 : decode cX11_sumOf 56 = .ok (.iload_n 2, 1) := by decide +kernel
theorem dX11_sumOf_57 : decode cX11_sumOf 57 = .ok (.ifCond .ne 8, 3) := by decide +kernel
theorem dX11_sumOf_60 : decode cX11_sumOf 60 = .ok (.bipush 99, 2) := by decide +kernel
theorem dX11_sumOf_62 : decode cX11_sumOf 62 = .ok (.goto 4, 3) := by decide +kernel
theorem dX11_sumOf_65 : decode cX11_sumOf 65 = .ok (.iload_n 2, 1) := by decide +kernel
theorem dX11_sumOf_66 : decode cX11_sumOf 66 = .ok (.iadd, 1) := by decide +kernel
theorem dX11_sumOf_67 : decode cX11_sumOf 67 = .ok (.istore 6, 2) := by decide +kernel
theorem dX11_sumOf_69 : decode cX11_sumOf 69 = .ok (.goto (-41), 3) := by decide +kernel
theorem dX11_sumOf_72 : decode cX11_sumOf 72 = .ok (.lload_n 3, 1) := by decide +kernel
theorem dX11_sumOf_73 : decode cX11_sumOf 73 = .ok (.lreturn, 1) := by decide +kernel
theorem dX11_sum_0 : decode cX11_sum 0 = .ok (.iload_n 1, 1) := by decide +kernel
theorem dX11_sum_1 : decode cX11_sum 1 = .ok (.iconst 0, 1) := by decide +kernel
theorem dX11_sum_2 : decode cX11_sum 2 = .ok (.bipush 12, 2) := by decide +kernel
theorem dX11_sum_4 : decode cX11_sum 4 = .ok (.invokestatic 47, 3) := by decide +kernel
theorem dX11_sum_7 : decode cX11_sum 7 = .ok (.ifCond .eq 11, 3) := by decide +kernel
theorem dX11_sum_10 : decode cX11_sum 10 = .ok (.aload_n 0, 1) := by decide +kernel
theorem dX11_sum_11 : decode cX11_sum 11 = .ok (.iload_n 1, 1) := by decide +kernel
theorem dX11_sum_12 : decode cX11_sum 12 = .ok (.invokevirtual 196, 3) := by decide +kernel
theorem dX11_sum_15 : decode cX11_sum 15 = .ok (.goto 6, 3) := by decide +kernel
theorem dX11_sum_18 : decode cX11_sum 18 = .ok (.ldc2_w 200, 3) := by decide +kernel
theorem dX11_sum_21 : decode cX11_sum 21 = .ok (.lreturn, 1) := by decide +kernel
theorem dX11_enough_0 : decode cX11_enough 0 = .ok (.iload_n 1, 1) := by decide +kernel
theorem dX11_enough_1 : decode cX11_enough 1 = .ok (.iconst 0, 1) := by decide +kernel
theorem dX11_enough_2 : decode cX11_enough 2 = .ok (.ldc 202, 2) := by decide +kernel
theorem dX11_enough_4 : decode cX11_enough 4 = .ok (.invokestatic 47, 3) := by decide +kernel
theorem dX11_enough_7 : decode cX11_enough 7 = .ok (.ifCond .ne 6, 3) := by decide +kernel
theorem dX11_enough_10 : decode cX11_enough 10 = .ok (.bipush (-2), 2) := by decide +kernel
theorem dX11_enough_12 : decode cX11_enough 12 = .ok (.ireturn, 1) := by decide +kernel
theorem dX11_enough_13 : decode cX11_enough 13 = .ok (.iconst 0, 1) := by decide +kernel
theorem dX11_enough_14 : decode cX11_enough 14 = .ok (.istore_n 2, 1) := by decide +kernel
theorem dX11_enough_15 : decode cX11_enough 15 = .ok (.iload_n 2, 1) := by decide +kernel
theorem dX11_enough_16 : decode cX11_enough 16 = .ok (.bipush 12, 2) := by decide +kernel
theorem dX11_enough_18 : decode cX11_enough 18 = .ok (.if_icmp .gt 22, 3) := by decide +kernel
theorem dX11_enough_21 : decode cX11_enough 21 = .ok (.aload_n 0, 1) := by decide +kernel
theorem dX11_enough_22 : decode cX11_enough 22 = .ok (.iload_n 2, 1) := by decide +kernel
theorem dX11_enough_23 : decode cX11_enough 23 = .ok (.invokevirtual 196, 3) := by decide +kernel
theorem dX11_enough_26 : decode cX11_enough 26 = .ok (.iload_n 1, 1) := by decide +kernel
theorem dX11_enough_27 : decode cX11_enough 27 = .ok (.i2l, 1) := by decide +kernel
theorem dX11_enough_28 : decode cX11_enough 28 = .ok (.lcmp, 1) := by decide +kernel
theorem dX11_enough_29 : decode cX11_enough 29 = .ok (.ifCond .lt 5, 3) := by decide +kernel
theorem dX11_enough_32 : decode cX11_enough 32 = .ok (.iload_n 2, 1) := by decide +kernel
theorem dX11_enough_33 : decode cX11_enough 33 = .ok (.ireturn, 1) := by decide +kernel
theorem dX11_enough_34 : decode cX11_enough 34 = .ok (.iinc 2 1, 3) := by decide +kernel
theorem dX11_enough_37 : decode cX11_enough 37 = .ok (.goto (-22), 3) := by decide +kernel
theorem dX11_enough_40 : decode cX11_enough 40 = .ok (.bipush (-5), 2) := by decide +kernel
theorem dX11_enough_42 : decode cX11_enough 42 = .ok (.ireturn, 1) := by decide +kernel
theorem dX11_ends_0 : decode cX11_ends 0 = .ok (.iconst 0, 1) := by decide +kernel
theorem dX11_ends_1 : decode cX11_ends 1 = .ok (.istore_n 1, 1) := by decide +kernel
theorem dX11_ends_2 : decode cX11_ends 2 = .ok (.aload_n 0, 1) := by decide +kernel
theorem dX11_ends_3 : decode cX11_ends 3 = .ok (.getfield 9, 3) := by decide +kernel
theorem dX11_ends_6 : decode cX11_ends 6 = .ok (.iconst 2, 1) := by decide +kernel
theorem dX11_ends_7 : decode cX11_ends 7 = .ok (.iaload, 1) := by decide +kernel
theorem dX11_ends_8 : decode cX11_ends 8 = .ok (.aload_n 0, 1) := by decide +kernel
theorem dX11_ends_9 : decode cX11_ends 9 = .ok (.getfield 9, 3) := by decide +kernel
theorem dX11_ends_12 : decode cX11_ends 12 = .ok (.iconst 3, 1) := by decide +kernel
theorem dX11_ends_13 : decode cX11_ends 13 = .ok (.iaload, 1) := by decide +kernel
theorem dX11_ends_14 : decode cX11_ends 14 = .ok (.iconst (-1), 1) := by decide +kernel
theorem dX11_ends_15 : decode cX11_ends 15 = .ok (.ixor, 1) := by decide +kernel
theorem dX11_ends_16 : decode cX11_ends 16 = .ok (.iand, 1) := by decide +kernel
theorem dX11_ends_17 : decode cX11_ends 17 = .ok (.ifCond .eq 14, 3) := by decide +kernel
theorem dX11_ends_20 : decode cX11_ends 20 = .ok (.aload_n 0, 1) := by decide +kernel
theorem dX11_ends_21 : decode cX11_ends 21 = .ok (.invokevirtual 193, 3) := by decide +kernel
theorem dX11_ends_24 : decode cX11_ends 24 = .ok (.pop, 1) := by decide +kernel
theorem dX11_ends_25 : decode cX11_ends 25 = .ok (.iinc 1 1, 3) := by decide +kernel
theorem dX11_ends_28 : decode cX11_ends 28 = .ok (.goto (-26), 3) := by decide +kernel
theorem dX11_ends_31 : decode cX11_ends 31 = .ok (.iload_n 1, 1) := by decide +kernel
theorem dX11_ends_32 : decode cX11_ends 32 = .ok (.ireturn, 1) := by decide +kernel
theorem dX11_end_0 : decode cX11_end 0 = .ok (.iload_n 1, 1) := by decide +kernel
theorem dX11_end_1 : decode cX11_end 1 = .ok (.iconst 0, 1) := by decide +kernel
theorem dX11_end_2 : decode cX11_end 2 = .ok (.iconst 3, 1) := by decide +kernel
theorem dX11_end_3 : decode cX11_end 3 = .ok (.invokestatic 47, 3) := by decide +kernel
theorem dX11_end_6 : decode cX11_end 6 = .ok (.ifCond .ne 5, 3) := by decide +kernel
theorem dX11_end_9 : decode cX11_end 9 = .ok (.iconst (-1), 1) := by decide +kernel
theorem dX11_end_10 : decode cX11_end 10 = .ok (.ireturn, 1) := by decide +kernel
theorem dX11_end_11 : decode cX11_end 11 = .ok (.aload_n 0, 1) := by decide +kernel
theorem dX11_end_12 : decode cX11_end 12 = .ok (.invokevirtual 203, 3) := by decide +kernel
theorem dX11_end_15 : decode cX11_end 15 = .ok (.aload_n 0, 1) := by decide +kernel
theorem dX11_end_16 : decode cX11_end 16 = .ok (.invokevirtual 206, 3) := by decide +kernel
theorem dX11_end_19 : decode cX11_end 19 = .ok (.istore_n 2, 1) := by decide +kernel
theorem dX11_end_20 : decode cX11_end 20 = .ok (.aload_n 0, 1) := by decide +kernel
theorem dX11_end_21 : decode cX11_end 21 = .ok (.getfield 9, 3) := by decide +kernel
theorem dX11_end_24 : decode cX11_end 24 = .ok (.iconst 2, 1) := by decide +kernel
theorem dX11_end_25 : decode cX11_end 25 = .ok (.iaload, 1) := by decide +kernel
theorem dX11_end_26 : decode cX11_end 26 = .ok (.iconst (-1), 1) := by decide +kernel
theorem dX11_end_27 : decode cX11_end 27 = .ok (.ixor, 1) := by decide +kernel
theorem dX11_end_28 : decode cX11_end 28 = .ok (.iconst 1, 1) := by decide +kernel
theorem dX11_end_29 : decode cX11_end 29 = .ok (.aload_n 0, 1) := by decide +kernel
theorem dX11_end_30 : decode cX11_end 30 = .ok (.getfield 9, 3) := by decide +kernel
theorem dX11_end_33 : decode cX11_end 33 = .ok (.bipush 18, 2) := by decide +kernel
theorem dX11_end_35 : decode cX11_end 35 = .ok (.iaload, 1) := by decide +kernel
theorem dX11_end_36 : decode cX11_end 36 = .ok (.ishl, 1) := by decide +kernel
theorem dX11_end_37 : decode cX11_end 37 = .ok (.iconst 1, 1) := by decide +kernel
theorem dX11_end_38 : decode cX11_end 38 = .ok (.isub, 1) := by decide +kernel
theorem dX11_end_39 : decode cX11_end 39 = .ok (.iand, 1) := by decide +kernel
theorem dX11_end_40 : decode cX11_end 40 = .ok (.istore_n 3, 1) := by decide +kernel
theorem dX11_end_41 : decode cX11_end 41 = .ok (.iload_n 1, 1) := by decide +kernel
theorem dX11_end_42 : decode cX11_end 42 = .ok (.ifCond .ne 7, 3) := by decide +kernel
theorem dX11_end_45 : decode cX11_end 45 = .ok (.iload_n 2, 1) := by decide +kernel
theorem dX11_end_46 : decode cX11_end 46 = .ok (.goto 35, 3) := by decide +kernel
theorem dX11_end_49 : decode cX11_end 49 = .ok (.iload_n 1, 1) := by decide +kernel
theorem dX11_end_50 : decode cX11_end 50 = .ok (.iconst 1, 1) := by decide +kernel
theorem dX11_end_51 : decode cX11_end 51 = .ok (.if_icmp .ne 15, 3) := by decide +kernel
theorem dX11_end_54 : decode cX11_end 54 = .ok (.aload_n 0, 1) := by decide +kernel
theorem dX11_end_55 : decode cX11_end 55 = .ok (.getfield 9, 3) := by decide +kernel
theorem dX11_end_58 : decode cX11_end 58 = .ok (.iconst 2, 1) := by decide +kernel
theorem dX11_end_59 : decode cX11_end 59 = .ok (.iaload, 1) := by decide +kernel
theorem dX11_end_60 : decode cX11_end 60 = .ok (.invokestatic 147, 3) := by decide +kernel
