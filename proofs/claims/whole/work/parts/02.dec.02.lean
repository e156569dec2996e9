theorem dX4_again_126 : decode cX4_again 126 = .ok (.iload_n 2, 1) := by decide +kernel
theorem dX4_again_127 : decode cX4_again 127 = .ok (.ireturn, 1) := by decide +kernel
theorem dX4_again_128 : decode cX4_again 128 = .ok (.iinc 2 1, 3) := by decide +kernel
theorem dX4_again_131 : decode cX4_again 131 = .ok (.goto (-113), 3) := by decide +kernel
theorem dX4_again_134 : decode cX4_again 134 = .ok (.bipush (-4), 2) := by decide +kernel
theorem dX4_again_136 : decode cX4_again 136 = .ok (.ireturn, 1) := by decide +kernel
theorem dX4_mostAt_0 : decode cX4_mostAt 0 = .ok (.iconst (-1), 1) := by decide +kernel
theorem dX4_mostAt_1 : decode cX4_mostAt 1 = .ok (.istore 6, 2) := by decide +kernel
theorem dX4_mostAt_3 : decode cX4_mostAt 3 = .ok (.iload_n 2, 1) := by decide +kernel
theorem dX4_mostAt_4 : decode cX4_mostAt 4 = .ok (.istore 7, 2) := by decide +kernel
theorem dX4_mostAt_6 : decode cX4_mostAt 6 = .ok (.aload_n 0, 1) := by decide +kernel
theorem dX4_mostAt_7 : decode cX4_mostAt 7 = .ok (.iconst 0, 1) := by decide +kernel
theorem dX4_mostAt_8 : decode cX4_mostAt 8 = .ok (.sipush 195, 3) := by decide +kernel
theorem dX4_mostAt_11 : decode cX4_mostAt 11 = .ok (.invokevirtual 176, 3) := by decide +kernel
theorem dX4_mostAt_14 : decode cX4_mostAt 14 = .ok (.iload_n 2, 1) := by decide +kernel
theorem dX4_mostAt_15 : decode cX4_mostAt 15 = .ok (.istore 8, 2) := by decide +kernel
theorem dX4_mostAt_17 : decode cX4_mostAt 17 = .ok (.iload 8, 2) := by decide +kernel
theorem dX4_mostAt_19 : decode cX4_mostAt 19 = .ok (.iload_n 3, 1) := by decide +kernel
theorem dX4_mostAt_20 : decode cX4_mostAt 20 = .ok (.if_icmp .gt 64, 3) := by decide +kernel
theorem dX4_mostAt_23 : decode cX4_mostAt 23 = .ok (.aload_n 0, 1) := by decide +kernel
theorem dX4_mostAt_24 : decode cX4_mostAt 24 = .ok (.getfield 7, 3) := by decide +kernel
theorem dX4_mostAt_27 : decode cX4_mostAt 27 = .ok (.sipush 195, 3) := by decide +kernel
theorem dX4_mostAt_30 : decode cX4_mostAt 30 = .ok (.iload_n 1, 1) := by decide +kernel
theorem dX4_mostAt_31 : decode cX4_mostAt 31 = .ok (.iadd, 1) := by decide +kernel
theorem dX4_mostAt_32 : decode cX4_mostAt 32 = .ok (.iload 8, 2) := by decide +kernel
theorem dX4_mostAt_34 : decode cX4_mostAt 34 = .ok (.iastore, 1) := by decide +kernel
theorem dX4_mostAt_35 : decode cX4_mostAt 35 = .ok (.aload_n 0, 1) := by decide +kernel
theorem dX4_mostAt_36 : decode cX4_mostAt 36 = .ok (.sipush 195, 3) := by decide +kernel
theorem dX4_mostAt_39 : decode cX4_mostAt 39 = .ok (.iload 4, 2) := by decide +kernel
theorem dX4_mostAt_41 : decode cX4_mostAt 41 = .ok (.invokevirtual 185, 3) := by decide +kernel
theorem dX4_mostAt_44 : decode cX4_mostAt 44 = .ok (.istore 9, 2) := by decide +kernel
theorem dX4_mostAt_46 : decode cX4_mostAt 46 = .ok (.iload 9, 2) := by decide +kernel
theorem dX4_mostAt_48 : decode cX4_mostAt 48 = .ok (.iload 6, 2) := by decide +kernel
theorem dX4_mostAt_50 : decode cX4_mostAt 50 = .ok (.if_icmp .le 8, 3) := by decide +kernel
theorem dX4_mostAt_53 : decode cX4_mostAt 53 = .ok (.iload 8, 2) := by decide +kernel
theorem dX4_mostAt_55 : decode cX4_mostAt 55 = .ok (.goto 5, 3) := by decide +kernel
theorem dX4_mostAt_58 : decode cX4_mostAt 58 = .ok (.iload 7, 2) := by decide +kernel
theorem dX4_mostAt_60 : decode cX4_mostAt 60 = .ok (.istore 7, 2) := by decide +kernel
theorem dX4_mostAt_62 : decode cX4_mostAt 62 = .ok (.iload 9, 2) := by decide +kernel
theorem dX4_mostAt_64 : decode cX4_mostAt 64 = .ok (.iload 6, 2) := by decide +kernel
theorem dX4_mostAt_66 : decode cX4_mostAt 66 = .ok (.if_icmp .le 8, 3) := by decide +kernel
theorem dX4_mostAt_69 : decode cX4_mostAt 69 = .ok (.iload 9, 2) := by decide +kernel
theorem dX4_mostAt_71 : decode cX4_mostAt 71 = .ok (.goto 5, 3) := by decide +kernel
theorem dX4_mostAt_74 : decode cX4_mostAt 74 = .ok (.iload 6, 2) := by decide +kernel
theorem dX4_mostAt_76 : decode cX4_mostAt 76 = .ok (.istore 6, 2) := by decide +kernel
theorem dX4_mostAt_78 : decode cX4_mostAt 78 = .ok (.iinc 8 1, 3) := by decide +kernel
theorem dX4_mostAt_81 : decode cX4_mostAt 81 = .ok (.goto (-64), 3) := by decide +kernel
theorem dX4_mostAt_84 : decode cX4_mostAt 84 = .ok (.iload 5, 2) := by decide +kernel
theorem dX4_mostAt_86 : decode cX4_mostAt 86 = .ok (.ifCond .ne 8, 3) := by decide +kernel
theorem dX4_mostAt_89 : decode cX4_mostAt 89 = .ok (.iload 7, 2) := by decide +kernel
theorem dX4_mostAt_91 : decode cX4_mostAt 91 = .ok (.goto 5, 3) := by decide +kernel
theorem dX4_mostAt_94 : decode cX4_mostAt 94 = .ok (.iload 6, 2) := by decide +kernel
theorem dX4_mostAt_96 : decode cX4_mostAt 96 = .ok (.ireturn, 1) := by decide +kernel
theorem dX4_mass_0 : decode cX4_mass 0 = .ok (.aload_n 0, 1) := by decide +kernel
theorem dX4_mass_1 : decode cX4_mass 1 = .ok (.iload_n 1, 1) := by decide +kernel
theorem dX4_mass_2 : decode cX4_mass 2 = .ok (.invokevirtual 144, 3) := by decide +kernel
theorem dX4_mass_5 : decode cX4_mass 5 = .ok (.ifCond .eq 35, 3) := by decide +kernel
theorem dX4_mass_8 : decode cX4_mass 8 = .ok (.iload_n 2, 1) := by decide +kernel
theorem dX4_mass_9 : decode cX4_mass 9 = .ok (.invokestatic 180, 3) := by decide +kernel
theorem dX4_mass_12 : decode cX4_mass 12 = .ok (.ifCond .eq 28, 3) := by decide +kernel
theorem dX4_mass_15 : decode cX4_mass 15 = .ok (.iload_n 3, 1) := by decide +kernel
theorem dX4_mass_16 : decode cX4_mass 16 = .ok (.i2l, 1) := by decide +kernel
theorem dX4_mass_17 : decode cX4_mass 17 = .ok (.lconst 0, 1) := by decide +kernel
theorem dX4_mass_18 : decode cX4_mass 18 = .ok (.lconst 1, 1) := by decide +kernel
theorem dX4_mass_19 : decode cX4_mass 19 = .ok (.invokestatic 53, 3) := by decide +kernel
theorem dX4_mass_22 : decode cX4_mass 22 = .ok (.ifCond .eq 18, 3) := by decide +kernel
theorem dX4_mass_25 : decode cX4_mass 25 = .ok (.aload_n 0, 1) := by decide +kernel
theorem dX4_mass_26 : decode cX4_mass 26 = .ok (.iconst 4, 1) := by decide +kernel
theorem dX4_mass_27 : decode cX4_mass 27 = .ok (.iload_n 1, 1) := by decide +kernel
theorem dX4_mass_28 : decode cX4_mass 28 = .ok (.iadd, 1) := by decide +kernel
theorem dX4_mass_29 : decode cX4_mass 29 = .ok (.iconst 1, 1) := by decide +kernel
theorem dX4_mass_30 : decode cX4_mass 30 = .ok (.bipush 20, 2) := by decide +kernel
theorem dX4_mass_32 : decode cX4_mass 32 = .ok (.iload_n 2, 1) := by decide +kernel
theorem dX4_mass_33 : decode cX4_mass 33 = .ok (.iload_n 3, 1) := by decide +kernel
theorem dX4_mass_34 : decode cX4_mass 34 = .ok (.invokevirtual 194, 3) := by decide +kernel
theorem dX4_mass_37 : decode cX4_mass 37 = .ok (.goto 4, 3) := by decide +kernel
theorem dX4_mass_40 : decode cX4_mass 40 = .ok (.iconst (-1), 1) := by decide +kernel
theorem dX4_mass_41 : decode cX4_mass 41 = .ok (.ireturn, 1) := by decide +kernel
theorem dX4_kind_0 : decode cX4_kind 0 = .ok (.aload_n 0, 1) := by decide +kernel
theorem dX4_kind_1 : decode cX4_kind 1 = .ok (.iload_n 1, 1) := by decide +kernel
theorem dX4_kind_2 : decode cX4_kind 2 = .ok (.invokevirtual 144, 3) := by decide +kernel
theorem dX4_kind_5 : decode cX4_kind 5 = .ok (.ifCond .eq 32, 3) := by decide +kernel
theorem dX4_kind_8 : decode cX4_kind 8 = .ok (.iload_n 2, 1) := by decide +kernel
theorem dX4_kind_9 : decode cX4_kind 9 = .ok (.invokestatic 180, 3) := by decide +kernel
theorem dX4_kind_12 : decode cX4_kind 12 = .ok (.ifCond .eq 25, 3) := by decide +kernel
theorem dX4_kind_15 : decode cX4_kind 15 = .ok (.iload_n 3, 1) := by decide +kernel
theorem dX4_kind_16 : decode cX4_kind 16 = .ok (.i2l, 1) := by decide +kernel
theorem dX4_kind_17 : decode cX4_kind 17 = .ok (.lconst 0, 1) := by decide +kernel
theorem dX4_kind_18 : decode cX4_kind 18 = .ok (.lconst 1, 1) := by decide +kernel
theorem dX4_kind_19 : decode cX4_kind 19 = .ok (.invokestatic 53, 3) := by decide +kernel
theorem dX4_kind_22 : decode cX4_kind 22 = .ok (.ifCond .eq 15, 3) := by decide +kernel
theorem dX4_kind_25 : decode cX4_kind 25 = .ok (.aload_n 0, 1) := by decide +kernel
theorem dX4_kind_26 : decode cX4_kind 26 = .ok (.iload_n 1, 1) := by decide +kernel
theorem dX4_kind_27 : decode cX4_kind 27 = .ok (.iconst 0, 1) := by decide +kernel
theorem dX4_kind_28 : decode cX4_kind 28 = .ok (.iconst 3, 1) := by decide +kernel
theorem dX4_kind_29 : decode cX4_kind 29 = .ok (.iload_n 2, 1) := by decide +kernel
theorem dX4_kind_30 : decode cX4_kind 30 = .ok (.iload_n 3, 1) := by decide +kernel
theorem dX4_kind_31 : decode cX4_kind 31 = .ok (.invokevirtual 194, 3) := by decide +kernel
theorem dX4_kind_34 : decode cX4_kind 34 = .ok (.goto 4, 3) := by decide +kernel
theorem dX4_kind_37 : decode cX4_kind 37 = .ok (.iconst (-1), 1) := by decide +kernel
theorem dX4_kind_38 : decode cX4_kind 38 = .ok (.ireturn, 1) := by decide +kernel
theorem dX4_bears_0 : decode cX4_bears 0 = .ok (.aload_n 0, 1) := by decide +kernel
theorem dX4_bears_1 : decode cX4_bears 1 = .ok (.iload_n 1, 1) := by decide +kernel
theorem dX4_bears_2 : decode cX4_bears 2 = .ok (.invokevirtual 144, 3) := by decide +kernel
theorem dX4_bears_5 : decode cX4_bears 5 = .ok (.ifCond .eq 10, 3) := by decide +kernel
theorem dX4_bears_8 : decode cX4_bears 8 = .ok (.iload_n 2, 1) := by decide +kernel
theorem dX4_bears_9 : decode cX4_bears 9 = .ok (.invokestatic 180, 3) := by decide +kernel
theorem dX4_bears_12 : decode cX4_bears 12 = .ok (.ifCond .ne 5, 3) := by decide +kernel
theorem dX4_bears_15 : decode cX4_bears 15 = .ok (.iconst (-1), 1) := by decide +kernel
theorem dX4_bears_16 : decode cX4_bears 16 = .ok (.ireturn, 1) := by decide +kernel
theorem dX4_bears_17 : decode cX4_bears 17 = .ok (.aload_n 0, 1) := by decide +kernel
theorem dX4_bears_18 : decode cX4_bears 18 = .ok (.iconst 0, 1) := by decide +kernel
theorem dX4_bears_19 : decode cX4_bears 19 = .ok (.sipush 195, 3) := by decide +kernel
theorem dX4_bears_22 : decode cX4_bears 22 = .ok (.invokevirtual 176, 3) := by decide +kernel
theorem dX4_bears_25 : decode cX4_bears 25 = .ok (.bipush 9, 2) := by decide +kernel
theorem dX4_bears_27 : decode cX4_bears 27 = .ok (.istore_n 3, 1) := by decide +kernel
theorem dX4_bears_28 : decode cX4_bears 28 = .ok (.iload_n 3, 1) := by decide +kernel
theorem dX4_bears_29 : decode cX4_bears 29 = .ok (.ifCond .lt 38, 3) := by decide +kernel
theorem dX4_bears_32 : decode cX4_bears 32 = .ok (.aload_n 0, 1) := by decide +kernel
theorem dX4_bears_33 : decode cX4_bears 33 = .ok (.getfield 7, 3) := by decide +kernel
theorem dX4_bears_36 : decode cX4_bears 36 = .ok (.sipush 203, 3) := by decide +kernel
theorem dX4_bears_39 : decode cX4_bears 39 = .ok (.iload_n 1, 1) := by decide +kernel
theorem dX4_bears_40 : decode cX4_bears 40 = .ok (.iadd, 1) := by decide +kernel
theorem dX4_bears_41 : decode cX4_bears 41 = .ok (.iload_n 3, 1) := by decide +kernel
theorem dX4_bears_42 : decode cX4_bears 42 = .ok (.iastore, 1) := by decide +kernel
theorem dX4_bears_43 : decode cX4_bears 43 = .ok (.aload_n 0, 1) := by decide +kernel
theorem dX4_bears_44 : decode cX4_bears 44 = .ok (.sipush 195, 3) := by decide +kernel
theorem dX4_bears_47 : decode cX4_bears 47 = .ok (.iload_n 2, 1) := by decide +kernel
theorem dX4_bears_48 : decode cX4_bears 48 = .ok (.invokevirtual 185, 3) := by decide +kernel
theorem dX4_bears_51 : decode cX4_bears 51 = .ok (.pop, 1) := by decide +kernel
theorem dX4_bears_52 : decode cX4_bears 52 = .ok (.aload_n 0, 1) := by decide +kernel
theorem dX4_bears_53 : decode cX4_bears 53 = .ok (.invokevirtual 188, 3) := by decide +kernel
theorem dX4_bears_56 : decode cX4_bears 56 = .ok (.ifCond .ne 5, 3) := by decide +kernel
theorem dX4_bears_59 : decode cX4_bears 59 = .ok (.iload_n 3, 1) := by decide +kernel
theorem dX4_bears_60 : decode cX4_bears 60 = .ok (.ireturn, 1) := by decide +kernel
theorem dX4_bears_61 : decode cX4_bears 61 = .ok (.iinc 3 (-1), 3) := by decide +kernel
theorem dX4_bears_64 : decode cX4_bears 64 = .ok (.goto (-36), 3) := by decide +kernel
theorem dX4_bears_67 : decode cX4_bears 67 = .ok (.bipush (-4), 2) := by decide +kernel
theorem dX4_bears_69 : decode cX4_bears 69 = .ok (.ireturn, 1) := by decide +kernel
theorem dX4_swap_0 : decode cX4_swap 0 = .ok (.iload_n 1, 1) := by decide +kernel
theorem dX4_swap_1 : decode cX4_swap 1 = .ok (.invokestatic 180, 3) := by decide +kernel
theorem dX4_swap_4 : decode cX4_swap 4 = .ok (.ifCond .eq 13, 3) := by decide +kernel
theorem dX4_swap_7 : decode cX4_swap 7 = .ok (.iload_n 2, 1) := by decide +kernel
theorem dX4_swap_8 : decode cX4_swap 8 = .ok (.i2l, 1) := by decide +kernel
theorem dX4_swap_9 : decode cX4_swap 9 = .ok (.lconst 0, 1) := by decide +kernel
theorem dX4_swap_10 : decode cX4_swap 10 = .ok (.lconst 1, 1) := by decide +kernel
theorem dX4_swap_11 : decode cX4_swap 11 = .ok (.invokestatic 53, 3) := by decide +kernel
theorem dX4_swap_14 : decode cX4_swap 14 = .ok (.ifCond .ne 5, 3) := by decide +kernel
theorem dX4_swap_17 : decode cX4_swap 17 = .ok (.iconst (-1), 1) := by decide +kernel
theorem dX4_swap_18 : decode cX4_swap 18 = .ok (.ireturn, 1) := by decide +kernel
theorem dX4_swap_19 : decode cX4_swap 19 = .ok (.aload_n 0, 1) := by decide +kernel
theorem dX4_swap_20 : decode cX4_swap 20 = .ok (.iconst 0, 1) := by decide +kernel
theorem dX4_swap_21 : decode cX4_swap 21 = .ok (.iload_n 1, 1) := by decide +kernel
theorem dX4_swap_22 : decode cX4_swap 22 = .ok (.invokevirtual 185, 3) := by decide +kernel
theorem dX4_swap_25 : decode cX4_swap 25 = .ok (.istore_n 3, 1) := by decide +kernel
theorem dX4_swap_26 : decode cX4_swap 26 = .ok (.bipush (-4), 2) := by decide +kernel
theorem dX4_swap_28 : decode cX4_swap 28 = .ok (.istore 4, 2) := by decide +kernel
theorem dX4_swap_30 : decode cX4_swap 30 = .ok (.iconst 0, 1) := by decide +kernel
theorem dX4_swap_31 : decode cX4_swap 31 = .ok (.istore 5, 2) := by decide +kernel
theorem dX4_swap_33 : decode cX4_swap 33 = .ok (.iload 5, 2) := by decide +kernel
theorem dX4_swap_35 : decode cX4_swap 35 = .ok (.aload_n 0, 1) := by decide +kernel
theorem dX4_swap_36 : decode cX4_swap 36 = .ok (.getfield 7, 3) := by decide +kernel
theorem dX4_swap_39 : decode cX4_swap 39 = .ok (.bipush 33, 2) := by decide +kernel
theorem dX4_swap_41 : decode cX4_swap 41 = .ok (.iaload, 1) := by decide +kernel
theorem dX4_swap_42 : decode cX4_swap 42 = .ok (.if_icmp .ge 127, 3) := by decide +kernel
theorem dX4_swap_45 : decode cX4_swap 45 = .ok (.iload 5, 2) := by decide +kernel
theorem dX4_swap_47 : decode cX4_swap 47 = .ok (.iconst 1, 1) := by decide +kernel
theorem dX4_swap_48 : decode cX4_swap 48 = .ok (.iadd, 1) := by decide +kernel
theorem dX4_swap_49 : decode cX4_swap 49 = .ok (.istore 6, 2) := by decide +kernel
theorem dX4_swap_51 : decode cX4_swap 51 = .ok (.iload 6, 2) := by decide +kernel
theorem dX4_swap_53 : decode cX4_swap 53 = .ok (.aload_n 0, 1) := by decide +kernel
theorem dX4_swap_54 : decode cX4_swap 54 = .ok (.getfield 7, 3) := by decide +kernel
theorem dX4_swap_57 : decode cX4_swap 57 = .ok (.bipush 33, 2) := by decide +kernel
theorem dX4_swap_59 : decode cX4_swap 59 = .ok (.iaload, 1) := by decide +kernel
theorem dX4_swap_60 : decode cX4_swap 60 = .ok (.if_icmp .ge 103, 3) := by decide +kernel
theorem dX4_swap_63 : decode cX4_swap 63 = .ok (.aload_n 0, 1) := by decide +kernel
theorem dX4_swap_64 : decode cX4_swap 64 = .ok (.iconst 0, 1) := by decide +kernel
theorem dX4_swap_65 : decode cX4_swap 65 = .ok (.sipush 195, 3) := by decide +kernel
theorem dX4_swap_68 : decode cX4_swap 68 = .ok (.invokevirtual 176, 3) := by decide +kernel
theorem dX4_swap_71 : decode cX4_swap 71 = .ok (.aload_n 0, 1) := by decide +kernel
theorem dX4_swap_72 : decode cX4_swap 72 = .ok (.getfield 7, 3) := by decide +kernel
theorem dX4_swap_75 : decode cX4_swap 75 = .ok (.sipush 212, 3) := by decide +kernel
theorem dX4_swap_78 : decode cX4_swap 78 = .ok (.iload 5, 2) := by decide +kernel
theorem dX4_swap_80 : decode cX4_swap 80 = .ok (.iadd, 1) := by decide +kernel
theorem dX4_swap_81 : decode cX4_swap 81 = .ok (.aload_n 0, 1) := by decide +kernel
theorem dX4_swap_82 : decode cX4_swap 82 = .ok (.getfield 7, 3) := by decide +kernel
theorem dX4_swap_85 : decode cX4_swap 85 = .ok (.bipush 17, 2) := by decide +kernel
theorem dX4_swap_87 : decode cX4_swap 87 = .ok (.iload 6, 2) := by decide +kernel
theorem dX4_swap_89 : decode cX4_swap 89 = .ok (.iadd, 1) := by decide +kernel
theorem dX4_swap_90 : decode cX4_swap 90 = .ok (.iaload, 1) := by decide +kernel
theorem dX4_swap_91 : decode cX4_swap 91 = .ok (.iastore, 1) := by decide +kernel
theorem dX4_swap_92 : decode cX4_swap 92 = .ok (.aload_n 0, 1) := by decide +kernel
theorem dX4_swap_93 : decode cX4_swap 93 = .ok (.getfield 7, 3) := by decide +kernel
theorem dX4_swap_96 : decode cX4_swap 96 = .ok (.sipush 212, 3) := by decide +kernel
theorem dX4_swap_99 : decode cX4_swap 99 = .ok (.iload 6, 2) := by decide +kernel
theorem dX4_swap_101 : decode cX4_swap 101 = .ok (.iadd, 1) := by decide +kernel
theorem dX4_swap_102 : decode cX4_swap 102 = .ok (.aload_n 0, 1) := by decide +kernel
theorem dX4_swap_103 : decode cX4_swap 103 = .ok (.getfield 7, 3) := by decide +kernel
theorem dX4_swap_106 : decode cX4_swap 106 = .ok (.bipush 17, 2) := by decide +kernel
theorem dX4_swap_108 : decode cX4_swap 108 = .ok (.iload 5, 2) := by decide +kernel
theorem dX4_swap_110 : decode cX4_swap 110 = .ok (.iadd, 1) := by decide +kernel
theorem dX4_swap_111 : decode cX4_swap 111 = .ok (.iaload, 1) := by decide +kernel
theorem dX4_swap_112 : decode cX4_swap 112 = .ok (.iastore, 1) := by decide +kernel
theorem dX4_swap_113 : decode cX4_swap 113 = .ok (.aload_n 0, 1) := by decide +kernel
theorem dX4_swap_114 : decode cX4_swap 114 = .ok (.sipush 195, 3) := by decide +kernel
theorem dX4_swap_117 : decode cX4_swap 117 = .ok (.iload_n 1, 1) := by decide +kernel
theorem dX4_swap_118 : decode cX4_swap 118 = .ok (.invokevirtual 185, 3) := by decide +kernel
theorem dX4_swap_121 : decode cX4_swap 121 = .ok (.istore 7, 2) := by decide +kernel
theorem dX4_swap_123 : decode cX4_swap 123 = .ok (.iload 7, 2) := by decide +kernel
theorem dX4_swap_125 : decode cX4_swap 125 = .ok (.iload_n 3, 1) := by decide +kernel
theorem dX4_swap_126 : decode cX4_swap 126 = .ok (.if_icmp .le 14, 3) := by decide +kernel
theorem dX4_swap_129 : decode cX4_swap 129 = .ok (.bipush 100, 2) := by decide +kernel
theorem dX4_swap_131 : decode cX4_swap 131 = .ok (.iload 5, 2) := by decide +kernel
theorem dX4_swap_133 : decode cX4_swap 133 = .ok (.imul, 1) := by decide +kernel
theorem dX4_swap_134 : decode cX4_swap 134 = .ok (.iload 6, 2) := by decide +kernel
theorem dX4_swap_136 : decode cX4_swap 136 = .ok (.iadd, 1) := by decide +kernel
theorem dX4_swap_137 : decode cX4_swap 137 = .ok (.goto 5, 3) := by decide +kernel
theorem dX4_swap_140 : decode cX4_swap 140 = .ok (.iload 4, 2) := by decide +kernel
theorem dX4_swap_142 : decode cX4_swap 142 = .ok (.istore 4, 2) := by decide +kernel
theorem dX4_swap_144 : decode cX4_swap 144 = .ok (.iload 7, 2) := by decide +kernel
theorem dX4_swap_146 : decode cX4_swap 146 = .ok (.iload_n 3, 1) := by decide +kernel
theorem dX4_swap_147 : decode cX4_swap 147 = .ok (.if_icmp .le 8, 3) := by decide +kernel
theorem dX4_swap_150 : decode cX4_swap 150 = .ok (.iload 7, 2) := by decide +kernel
theorem dX4_swap_152 : decode cX4_swap 152 = .ok (.goto 4, 3) := by decide +kernel
theorem dX4_swap_155 : decode cX4_swap 155 = .ok (.iload_n 3, 1) := by decide +kernel
theorem dX4_swap_156 : decode cX4_swap 156 = .ok (.istore_n 3, 1) := by decide +kernel
theorem dX4_swap_157 : decode cX4_swap 157 = .ok (.iinc 6 1, 3) := by decide +kernel
theorem dX4_swap_160 : decode cX4_swap 160 = .ok (.goto (-109), 3) := by decide +kernel
theorem dX4_swap_163 : decode cX4_swap 163 = .ok (.iinc 5 1, 3) := by decide +kernel
theorem dX4_swap_166 : decode cX4_swap 166 = .ok (.goto (-133), 3) := by decide +kernel
theorem dX4_swap_169 : decode cX4_swap 169 = .ok (.iload 4, 2) := by decide +kernel
theorem dX4_swap_171 : decode cX4_swap 171 = .ok (.bipush (-4), 2) := by decide +kernel
theorem dX4_swap_173 : decode cX4_swap 173 = .ok (.if_icmp .eq 7, 3) := by decide +kernel
theorem dX4_swap_176 : decode cX4_swap 176 = .ok (.iload_n 2, 1) := by decide +kernel
theorem dX4_swap_177 : decode cX4_swap 177 = .ok (.ifCond .ne 8, 3) := by decide +kernel
theorem dX4_swap_180 : decode cX4_swap 180 = .ok (.iload 4, 2) := by decide +kernel
theorem dX4_swap_182 : decode cX4_swap 182 = .ok (.goto 4, 3) := by decide +kernel
theorem dX4_swap_185 : decode cX4_swap 185 = .ok (.iload_n 3, 1) := by decide +kernel
theorem dX4_swap_186 : decode cX4_swap 186 = .ok (.ireturn, 1) := by decide +kernel
theorem dX4_omit_0 : decode cX4_omit 0 = .ok (.iload_n 1, 1) := by decide +kernel
theorem dX4_omit_1 : decode cX4_omit 1 = .ok (.invokestatic 180, 3) := by decide +kernel
theorem dX4_omit_4 : decode cX4_omit 4 = .ok (.ifCond .eq 13, 3) := by decide +kernel
theorem dX4_omit_7 : decode cX4_omit 7 = .ok (.iload_n 2, 1) := by decide +kernel
theorem dX4_omit_8 : decode cX4_omit 8 = .ok (.i2l, 1) := by decide +kernel
theorem dX4_omit_9 : decode cX4_omit 9 = .ok (.lconst 0, 1) := by decide +kernel
theorem dX4_omit_10 : decode cX4_omit 10 = .ok (.lconst 1, 1) := by decide +kernel
theorem dX4_omit_11 : decode cX4_omit 11 = .ok (.invokestatic 53, 3) := by decide +kernel
theorem dX4_omit_14 : decode cX4_omit 14 = .ok (.ifCond .ne 5, 3) := by decide +kernel
theorem dX4_omit_17 : decode cX4_omit 17 = .ok (.iconst (-1), 1) := by decide +kernel
theorem dX4_omit_18 : decode cX4_omit 18 = .ok (.ireturn, 1) := by decide +kernel
theorem dX4_omit_19 : decode cX4_omit 19 = .ok (.aload_n 0, 1) := by decide +kernel
theorem dX4_omit_20 : decode cX4_omit 20 = .ok (.iconst 0, 1) := by decide +kernel
theorem dX4_omit_21 : decode cX4_omit 21 = .ok (.iload_n 1, 1) := by decide +kernel
theorem dX4_omit_22 : decode cX4_omit 22 = .ok (.invokevirtual 185, 3) := by decide +kernel
theorem dX4_omit_25 : decode cX4_omit 25 = .ok (.istore_n 3, 1) := by decide +kernel
theorem dX4_omit_26 : decode cX4_omit 26 = .ok (.bipush (-4), 2) := by decide +kernel
theorem dX4_omit_28 : decode cX4_omit 28 = .ok (.istore 4, 2) := by decide +kernel
theorem dX4_omit_30 : decode cX4_omit 30 = .ok (.iconst 0, 1) := by decide +kernel
theorem dX4_omit_31 : decode cX4_omit 31 = .ok (.istore 5, 2) := by decide +kernel
theorem dX4_omit_33 : decode cX4_omit 33 = .ok (.iload 5, 2) := by decide +kernel
theorem dX4_omit_35 : decode cX4_omit 35 = .ok (.aload_n 0, 1) := by decide +kernel
theorem dX4_omit_36 : decode cX4_omit 36 = .ok (.getfield 7, 3) := by decide +kernel
theorem dX4_omit_39 : decode cX4_omit 39 = .ok (.bipush 33, 2) := by decide +kernel
theorem dX4_omit_41 : decode cX4_omit 41 = .ok (.iaload, 1) := by decide +kernel
theorem dX4_omit_42 : decode cX4_omit 42 = .ok (.if_icmp .ge 57, 3) := by decide +kernel
theorem dX4_omit_45 : decode cX4_omit 45 = .ok (.aload_n 0, 1) := by decide +kernel
theorem dX4_omit_46 : decode cX4_omit 46 = .ok (.iload 5, 2) := by decide +kernel
theorem dX4_omit_48 : decode cX4_omit 48 = .ok (.putfield 29, 3) := by decide +kernel
theorem dX4_omit_51 : decode cX4_omit 51 = .ok (.aload_n 0, 1) := by decide +kernel
theorem dX4_omit_52 : decode cX4_omit 52 = .ok (.iconst 0, 1) := by decide +kernel
theorem dX4_omit_53 : decode cX4_omit 53 = .ok (.iload_n 1, 1) := by decide +kernel
theorem dX4_omit_54 : decode cX4_omit 54 = .ok (.invokevirtual 185, 3) := by decide +kernel
theorem dX4_omit_57 : decode cX4_omit 57 = .ok (.istore 6, 2) := by decide +kernel
theorem dX4_omit_59 : decode cX4_omit 59 = .ok (.aload_n 0, 1) := by decide +kernel
theorem dX4_omit_60 : decode cX4_omit 60 = .ok (.bipush (-4), 2) := by decide +kernel
theorem dX4_omit_62 : decode cX4_omit 62 = .ok (.putfield 29, 3) := by decide +kernel
theorem dX4_omit_65 : decode cX4_omit 65 = .ok (.iload 6, 2) := by decide +kernel
theorem dX4_omit_67 : decode cX4_omit 67 = .ok (.iload_n 3, 1) := by decide +kernel
theorem dX4_omit_68 : decode cX4_omit 68 = .ok (.if_icmp .le 8, 3) := by decide +kernel
theorem dX4_omit_71 : decode cX4_omit 71 = .ok (.iload 5, 2) := by decide +kernel
theorem dX4_omit_73 : decode cX4_omit 73 = .ok (.goto 5, 3) := by decide +kernel
theorem dX4_omit_76 : decode cX4_omit 76 = .ok (.iload 4, 2) := by decide +kernel
theorem dX4_omit_78 : decode cX4_omit 78 = .ok (.istore 4, 2) := by decide +kernel
theorem dX4_omit_80 : decode cX4_omit 80 = .ok (.iload 6, 2) := by decide +kernel
theorem dX4_omit_82 : decode cX4_omit 82 = .ok (.iload_n 3, 1) := by decide +kernel
theorem dX4_omit_83 : decode cX4_omit 83 = .ok (.if_icmp .le 8, 3) := by decide +kernel
theorem dX4_omit_86 : decode cX4_omit 86 = .ok (.iload 6, 2) := by decide +kernel
theorem dX4_omit_88 : decode cX4_omit 88 = .ok (.goto 4, 3) := by decide +kernel
theorem dX4_omit_91 : decode cX4_omit 91 = .ok (.iload_n 3, 1) := by decide +kernel
theorem dX4_omit_92 : decode cX4_omit 92 = .ok (.istore_n 3, 1) := by decide +kernel
theorem dX4_omit_93 : decode cX4_omit 93 = .ok (.iinc 5 1, 3) := by decide +kernel
theorem dX4_omit_96 : decode cX4_omit 96 = .ok (.goto (-63), 3) := by decide +kernel
theorem dX4_omit_99 : decode cX4_omit 99 = .ok (.iload 4, 2) := by decide +kernel
theorem dX4_omit_101 : decode cX4_omit 101 = .ok (.bipush (-4), 2) := by decide +kernel
theorem dX4_omit_103 : decode cX4_omit 103 = .ok (.if_icmp .eq 7, 3) := by decide +kernel
theorem dX4_omit_106 : decode cX4_omit 106 = .ok (.iload_n 2, 1) := by decide +kernel
theorem dX4_omit_107 : decode cX4_omit 107 = .ok (.ifCond .ne 8, 3) := by decide +kernel
theorem dX4_omit_110 : decode cX4_omit 110 = .ok (.iload 4, 2) := by decide +kernel
theorem dX4_omit_112 : decode cX4_omit 112 = .ok (.goto 4, 3) := by decide +kernel
theorem dX4_omit_115 : decode cX4_omit 115 = .ok (.iload_n 3, 1) := by decide +kernel
theorem dX4_omit_116 : decode cX4_omit 116 = .ok (.ireturn, 1) := by decide +kernel
theorem dX4_off_0 : decode cX4_off 0 = .ok (.iload_n 1, 1) := by decide +kernel
theorem dX4_off_1 : decode cX4_off 1 = .ok (.invokestatic 180, 3) := by decide +kernel
theorem dX4_off_4 : decode cX4_off 4 = .ok (.ifCond .eq 13, 3) := by decide +kernel
theorem dX4_off_7 : decode cX4_off 7 = .ok (.iload_n 2, 1) := by decide +kernel
theorem dX4_off_8 : decode cX4_off 8 = .ok (.i2l, 1) := by decide +kernel
theorem dX4_off_9 : decode cX4_off 9 = .ok (.lconst 0, 1) := by decide +kernel
theorem dX4_off_10 : decode cX4_off 10 = .ok (.lconst 1, 1) := by decide +kernel
theorem dX4_off_11 : decode cX4_off 11 = .ok (.invokestatic 53, 3) := by decide +kernel
theorem dX4_off_14 : decode cX4_off 14 = .ok (.ifCond .ne 5, 3) := by decide +kernel
theorem dX4_off_17 : decode cX4_off 17 = .ok (.iconst (-1), 1) := by decide +kernel
theorem dX4_off_18 : decode cX4_off 18 = .ok (.ireturn, 1) := by decide +kernel
theorem dX4_off_19 : decode cX4_off 19 = .ok (.aload_n 0, 1) := by decide +kernel
theorem dX4_off_20 : decode cX4_off 20 = .ok (.iconst 0, 1) := by decide +kernel
theorem dX4_off_21 : decode cX4_off 21 = .ok (.iload_n 1, 1) := by decide +kernel
theorem dX4_off_22 : decode cX4_off 22 = .ok (.invokevirtual 185, 3) := by decide +kernel
theorem dX4_off_25 : decode cX4_off 25 = .ok (.istore_n 3, 1) := by decide +kernel
theorem dX4_off_26 : decode cX4_off 26 = .ok (.bipush (-4), 2) := by decide +kernel
theorem dX4_off_28 : decode cX4_off 28 = .ok (.istore 4, 2) := by decide +kernel
theorem dX4_off_30 : decode cX4_off 30 = .ok (.iconst 0, 1) := by decide +kernel
theorem dX4_off_31 : decode cX4_off 31 = .ok (.istore 5, 2) := by decide +kernel
theorem dX4_off_33 : decode cX4_off 33 = .ok (.iload 5, 2) := by decide +kernel
theorem dX4_off_35 : decode cX4_off 35 = .ok (.aload_n 0, 1) := by decide +kernel
theorem dX4_off_36 : decode cX4_off 36 = .ok (.getfield 7, 3) := by decide +kernel
theorem dX4_off_39 : decode cX4_off 39 = .ok (.bipush 16, 2) := by decide +kernel
theorem dX4_off_41 : decode cX4_off 41 = .ok (.iaload, 1) := by decide +kernel
theorem dX4_off_42 : decode cX4_off 42 = .ok (.if_icmp .ge 57, 3) := by decide +kernel
theorem dX4_off_45 : decode cX4_off 45 = .ok (.aload_n 0, 1) := by decide +kernel
theorem dX4_off_46 : decode cX4_off 46 = .ok (.iload 5, 2) := by decide +kernel
theorem dX4_off_48 : decode cX4_off 48 = .ok (.putfield 25, 3) := by decide +kernel
theorem dX4_off_51 : decode cX4_off 51 = .ok (.aload_n 0, 1) := by decide +kernel
theorem dX4_off_52 : decode cX4_off 52 = .ok (.iconst 0, 1) := by decide +kernel
theorem dX4_off_53 : decode cX4_off 53 = .ok (.iload_n 1, 1) := by decide +kernel
theorem dX4_off_54 : decode cX4_off 54 = .ok (.invokevirtual 185, 3) := by decide +kernel
theorem dX4_off_57 : decode cX4_off 57 = .ok (.istore 6, 2) := by decide +kernel
theorem dX4_off_59 : decode cX4_off 59 = .ok (.aload_n 0, 1) := by decide +kernel
theorem dX4_off_60 : decode cX4_off 60 = .ok (.bipush (-4), 2) := by decide +kernel
theorem dX4_off_62 : decode cX4_off 62 = .ok (.putfield 25, 3) := by decide +kernel
theorem dX4_off_65 : decode cX4_off 65 = .ok (.iload 6, 2) := by decide +kernel
theorem dX4_off_67 : decode cX4_off 67 = .ok (.iload_n 3, 1) := by decide +kernel
theorem dX4_off_68 : decode cX4_off 68 = .ok (.if_icmp .le 8, 3) := by decide +kernel
theorem dX4_off_71 : decode cX4_off 71 = .ok (.iload 5, 2) := by decide +kernel
theorem dX4_off_73 : decode cX4_off 73 = .ok (.goto 5, 3) := by decide +kernel
theorem dX4_off_76 : decode cX4_off 76 = .ok (.iload 4, 2) := by decide +kernel
theorem dX4_off_78 : decode cX4_off 78 = .ok (.istore 4, 2) := by decide +kernel
theorem dX4_off_80 : decode cX4_off 80 = .ok (.iload 6, 2) := by decide +kernel
theorem dX4_off_82 : decode cX4_off 82 = .ok (.iload_n 3, 1) := by decide +kernel
theorem dX4_off_83 : decode cX4_off 83 = .ok (.if_icmp .le 8, 3) := by decide +kernel
theorem dX4_off_86 : decode cX4_off 86 = .ok (.iload 6, 2) := by decide +kernel
theorem dX4_off_88 : decode cX4_off 88 = .ok (.goto 4, 3) := by decide +kernel
theorem dX4_off_91 : decode cX4_off 91 = .ok (.iload_n 3, 1) := by decide +kernel
theorem dX4_off_92 : decode cX4_off 92 = .ok (.istore_n 3, 1) := by decide +kernel
theorem dX4_off_93 : decode cX4_off 93 = .ok (.iinc 5 1, 3) := by decide +kernel
theorem dX4_off_96 : decode cX4_off 96 = .ok (.goto (-63), 3) := by decide +kernel
theorem dX4_off_99 : decode cX4_off 99 = .ok (.iload 4, 2) := by decide +kernel
theorem dX4_off_101 : decode cX4_off 101 = .ok (.bipush (-4), 2) := by decide +kernel
theorem dX4_off_103 : decode cX4_off 103 = .ok (.if_icmp .eq 7, 3) := by decide +kernel
theorem dX4_off_106 : decode cX4_off 106 = .ok (.iload_n 2, 1) := by decide +kernel
theorem dX4_off_107 : decode cX4_off 107 = .ok (.ifCond .ne 8, 3) := by decide +kernel
theorem dX4_off_110 : decode cX4_off 110 = .ok (.iload 4, 2) := by decide +kernel
theorem dX4_off_112 : decode cX4_off 112 = .ok (.goto 4, 3) := by decide +kernel
theorem dX4_off_115 : decode cX4_off 115 = .ok (.iload_n 3, 1) := by decide +kernel
theorem dX4_off_116 : decode cX4_off 116 = .ok (.ireturn, 1) := by decide +kernel
theorem dX4_lowest_0 : decode cX4_lowest 0 = .ok (.lload_n 0, 1) := by decide +kernel
theorem dX4_lowest_1 : decode cX4_lowest 1 = .ok (.lstore 5, 2) := by decide +kernel
theorem dX4_lowest_3 : decode cX4_lowest 3 = .ok (.lload_n 2, 1) := by decide +kernel
theorem dX4_lowest_4 : decode cX4_lowest 4 = .ok (.lstore 7, 2) := by decide +kernel
theorem dX4_lowest_6 : decode cX4_lowest 6 = .ok (.lload 7, 2) := by decide +kernel
theorem dX4_lowest_8 : decode cX4_lowest 8 = .ok (.lconst 0, 1) := by decide +kernel
theorem dX4_lowest_9 : decode cX4_lowest 9 = .ok (.lcmp, 1) := by decide +kernel
theorem dX4_lowest_10 : decode cX4_lowest 10 = .ok (.ifCond .eq 21, 3) := by decide +kernel
theorem dX4_lowest_13 : decode cX4_lowest 13 = .ok (.lload 5, 2) := by decide +kernel
theorem dX4_lowest_15 : decode cX4_lowest 15 = .ok (.lload 7, 2) := by decide +kernel
theorem dX4_lowest_17 : decode cX4_lowest 17 = .ok (.lrem, 1) := by decide +kernel
theorem dX4_lowest_18 : decode cX4_lowest 18 = .ok (.lstore 9, 2) := by decide +kernel
theorem dX4_lowest_20 : decode cX4_lowest 20 = .ok (.lload 7, 2) := by decide +kernel
theorem dX4_lowest_22 : decode cX4_lowest 22 = .ok (.lstore 5, 2) := by decide +kernel
theorem dX4_lowest_24 : decode cX4_lowest 24 = .ok (.lload 9, 2) := by decide +kernel
theorem dX4_lowest_26 : decode cX4_lowest 26 = .ok (.lstore 7, 2) := by decide +kernel
theorem dX4_lowest_28 : decode cX4_lowest 28 = .ok (.goto (-22), 3) := by decide +kernel
theorem dX4_lowest_31 : decode cX4_lowest 31 = .ok (.iload 4, 2) := by decide +kernel
theorem dX4_lowest_33 : decode cX4_lowest 33 = .ok (.ifCond .ne 7, 3) := by decide +kernel
theorem dX4_lowest_36 : decode cX4_lowest 36 = .ok (.lload_n 0, 1) := by decide +kernel
theorem dX4_lowest_37 : decode cX4_lowest 37 = .ok (.goto 4, 3) := by decide +kernel
theorem dX4_lowest_40 : decode cX4_lowest 40 = .ok (.lload_n 2, 1) := by decide +kernel
theorem dX4_lowest_41 : decode cX4_lowest 41 = .ok (.lload 5, 2) := by decide +kernel
theorem dX4_lowest_43 : decode cX4_lowest 43 = .ok (.ldiv, 1) := by decide +kernel
theorem dX4_lowest_44 : decode cX4_lowest 44 = .ok (.lreturn, 1) := by decide +kernel
theorem dX4_byFails_0 : decode cX4_byFails 0 = .ok (.lconst 0, 1) := by decide +kernel
theorem dX4_byFails_1 : decode cX4_byFails 1 = .ok (.lstore 5, 2) := by decide +kernel
theorem dX4_byFails_3 : decode cX4_byFails 3 = .ok (.lconst 1, 1) := by decide +kernel
theorem dX4_byFails_4 : decode cX4_byFails 4 = .ok (.lstore 7, 2) := by decide +kernel
theorem dX4_byFails_6 : decode cX4_byFails 6 = .ok (.iconst 0, 1) := by decide +kernel
theorem dX4_byFails_7 : decode cX4_byFails 7 = .ok (.istore 9, 2) := by decide +kernel
theorem dX4_byFails_9 : decode cX4_byFails 9 = .ok (.iload 9, 2) := by decide +kernel
theorem dX4_byFails_11 : decode cX4_byFails 11 = .ok (.iload_n 2, 1) := by decide +kernel
theorem dX4_byFails_12 : decode cX4_byFails 12 = .ok (.if_icmp .ge 17, 3) := by decide +kernel
theorem dX4_byFails_15 : decode cX4_byFails 15 = .ok (.lload 7, 2) := by decide +kernel
theorem dX4_byFails_17 : decode cX4_byFails 17 = .ok (.ldc2_w 198, 3) := by decide +kernel
theorem dX4_byFails_20 : decode cX4_byFails 20 = .ok (.lmul, 1) := by decide +kernel
theorem dX4_byFails_21 : decode cX4_byFails 21 = .ok (.lstore 7, 2) := by decide +kernel
theorem dX4_byFails_23 : decode cX4_byFails 23 = .ok (.iinc 9 1, 3) := by decide +kernel
theorem dX4_byFails_26 : decode cX4_byFails 26 = .ok (.goto (-17), 3) := by decide +kernel
theorem dX4_byFails_29 : decode cX4_byFails 29 = .ok (.iconst 0, 1) := by decide +kernel
theorem dX4_byFails_30 : decode cX4_byFails 30 = .ok (.istore 9, 2) := by decide +kernel
theorem dX4_byFails_32 : decode cX4_byFails 32 = .ok (.iload 9, 2) := by decide +kernel
theorem dX4_byFails_34 : decode cX4_byFails 34 = .ok (.iconst 1, 1) := by decide +kernel
theorem dX4_byFails_35 : decode cX4_byFails 35 = .ok (.iload_n 2, 1) := by decide +kernel
theorem dX4_byFails_36 : decode cX4_byFails 36 = .ok (.ishl, 1) := by decide +kernel
theorem dX4_byFails_37 : decode cX4_byFails 37 = .ok (.if_icmp .ge 126, 3) := by decide +kernel
theorem dX4_byFails_40 : decode cX4_byFails 40 = .ok (.lconst 1, 1) := by decide +kernel
theorem dX4_byFails_41 : decode cX4_byFails 41 = .ok (.lstore 10, 2) := by decide +kernel
theorem dX4_byFails_43 : decode cX4_byFails 43 = .ok (.aload_n 0, 1) := by decide +kernel
theorem dX4_byFails_44 : decode cX4_byFails 44 = .ok (.iconst 0, 1) := by decide +kernel
theorem dX4_byFails_45 : decode cX4_byFails 45 = .ok (.sipush 156, 3) := by decide +kernel
theorem dX4_byFails_48 : decode cX4_byFails 48 = .ok (.invokevirtual 176, 3) := by decide +kernel
theorem dX4_byFails_51 : decode cX4_byFails 51 = .ok (.iconst 0, 1) := by decide +kernel
theorem dX4_byFails_52 : decode cX4_byFails 52 = .ok (.istore 12, 2) := by decide +kernel
theorem dX4_byFails_54 : decode cX4_byFails 54 = .ok (.iload 12, 2) := by decide +kernel
theorem dX4_byFails_56 : decode cX4_byFails 56 = .ok (.iload_n 2, 1) := by decide +kernel
theorem dX4_byFails_57 : decode cX4_byFails 57 = .ok (.if_icmp .ge 56, 3) := by decide +kernel
theorem dX4_byFails_60 : decode cX4_byFails 60 = .ok (.iload 9, 2) := by decide +kernel
theorem dX4_byFails_62 : decode cX4_byFails 62 = .ok (.iload 12, 2) := by decide +kernel
theorem dX4_byFails_64 : decode cX4_byFails 64 = .ok (.ishr, 1) := by decide +kernel
theorem dX4_byFails_65 : decode cX4_byFails 65 = .ok (.iconst 1, 1) := by decide +kernel
theorem dX4_byFails_66 : decode cX4_byFails 66 = .ok (.iand, 1) := by decide +kernel
theorem dX4_byFails_67 : decode cX4_byFails 67 = .ok (.iconst 1, 1) := by decide +kernel
theorem dX4_byFails_68 : decode cX4_byFails 68 = .ok (.if_icmp .ne 7, 3) := by decide +kernel
theorem dX4_byFails_71 : decode cX4_byFails 71 = .ok (.iconst 1, 1) := by decide +kernel
theorem dX4_byFails_72 : decode cX4_byFails 72 = .ok (.goto 4, 3) := by decide +kernel
theorem dX4_byFails_75 : decode cX4_byFails 75 = .ok (.iconst 0, 1) := by decide +kernel
theorem dX4_byFails_76 : decode cX4_byFails 76 = .ok (.istore 13, 2) := by decide +kernel
theorem dX4_byFails_78 : decode cX4_byFails 78 = .ok (.lload 10, 2) := by decide +kernel
theorem dX4_byFails_80 : decode cX4_byFails 80 = .ok (.iload 13, 2) := by decide +kernel
theorem dX4_byFails_82 : decode cX4_byFails 82 = .ok (.ifCond .eq 8, 3) := by decide +kernel
theorem dX4_byFails_85 : decode cX4_byFails 85 = .ok (.iload_n 1, 1) := by decide +kernel
theorem dX4_byFails_86 : decode cX4_byFails 86 = .ok (.i2l, 1) := by decide +kernel
theorem dX4_byFails_87 : decode cX4_byFails 87 = .ok (.goto 8, 3) := by decide +kernel
theorem dX4_byFails_90 : decode cX4_byFails 90 = .ok (.bipush 10, 2) := by decide +kernel
theorem dX4_byFails_92 : decode cX4_byFails 92 = .ok (.iload_n 1, 1) := by decide +kernel
theorem dX4_byFails_93 : decode cX4_byFails 93 = .ok (.isub, 1) := by decide +kernel
theorem dX4_byFails_94 : decode cX4_byFails 94 = .ok (.i2l, 1) := by decide +kernel
theorem dX4_byFails_95 : decode cX4_byFails 95 = .ok (.lmul, 1) := by decide +kernel
theorem dX4_byFails_96 : decode cX4_byFails 96 = .ok (.lstore 10, 2) := by decide +kernel
theorem dX4_byFails_98 : decode cX4_byFails 98 = .ok (.aload_n 0, 1) := by decide +kernel
theorem dX4_byFails_99 : decode cX4_byFails 99 = .ok (.sipush 156, 3) := by decide +kernel
theorem dX4_byFails_102 : decode cX4_byFails 102 = .ok (.iload 13, 2) := by decide +kernel
theorem dX4_byFails_104 : decode cX4_byFails 104 = .ok (.invokevirtual 172, 3) := by decide +kernel
theorem dX4_byFails_107 : decode cX4_byFails 107 = .ok (.iinc 12 1, 3) := by decide +kernel
theorem dX4_byFails_110 : decode cX4_byFails 110 = .ok (.goto (-56), 3) := by decide +kernel
theorem dX4_byFails_113 : decode cX4_byFails 113 = .ok (.lload 5, 2) := by decide +kernel
theorem dX4_byFails_115 : decode cX4_byFails 115 = .ok (.lload 10, 2) := by decide +kernel
theorem dX4_byFails_117 : decode cX4_byFails 117 = .ok (.iload_n 3, 1) := by decide +kernel
theorem dX4_byFails_118 : decode cX4_byFails 118 = .ok (.ifCond .eq 22, 3) := by decide +kernel
theorem dX4_byFails_121 : decode cX4_byFails 121 = .ok (.aload_n 0, 1) := by decide +kernel
theorem dX4_byFails_122 : decode cX4_byFails 122 = .ok (.getfield 7, 3) := by decide +kernel
theorem dX4_byFails_125 : decode cX4_byFails 125 = .ok (.sipush 193, 3) := by decide +kernel
theorem dX4_byFails_128 : decode cX4_byFails 128 = .ok (.iaload, 1) := by decide +kernel
theorem dX4_byFails_129 : decode cX4_byFails 129 = .ok (.aload_n 0, 1) := by decide +kernel
theorem dX4_byFails_130 : decode cX4_byFails 130 = .ok (.getfield 7, 3) := by decide +kernel
theorem dX4_byFails_133 : decode cX4_byFails 133 = .ok (.bipush 37, 2) := by decide +kernel
theorem dX4_byFails_135 : decode cX4_byFails 135 = .ok (.iaload, 1) := by decide +kernel
theorem dX4_byFails_136 : decode cX4_byFails 136 = .ok (.isub, 1) := by decide +kernel
theorem dX4_byFails_137 : decode cX4_byFails 137 = .ok (.goto 15, 3) := by decide +kernel
theorem dX4_byFails_140 : decode cX4_byFails 140 = .ok (.aload_n 0, 1) := by decide +kernel
theorem dX4_byFails_141 : decode cX4_byFails 141 = .ok (.invokevirtual 188, 3) := by decide +kernel
theorem dX4_byFails_144 : decode cX4_byFails 144 = .ok (.ifCond .ne 7, 3) := by decide +kernel
theorem dX4_byFails_147 : decode cX4_byFails 147 = .ok (.iconst 1, 1) := by decide +kernel
theorem dX4_byFails_148 : decode cX4_byFails 148 = .ok (.goto 4, 3) := by decide +kernel
theorem dX4_byFails_151 : decode cX4_byFails 151 = .ok (.iconst 0, 1) := by decide +kernel
theorem dX4_byFails_152 : decode cX4_byFails 152 = .ok (.i2l, 1) := by decide +kernel
theorem dX4_byFails_153 : decode cX4_byFails 153 = .ok (.lmul, 1) := by decide +kernel
theorem dX4_byFails_154 : decode cX4_byFails 154 = .ok (.ladd, 1) := by decide +kernel
theorem dX4_byFails_155 : decode cX4_byFails 155 = .ok (.lstore 5, 2) := by decide +kernel
theorem dX4_byFails_157 : decode cX4_byFails 157 = .ok (.iinc 9 1, 3) := by decide +kernel
theorem dX4_byFails_160 : decode cX4_byFails 160 = .ok (.goto (-128), 3) := by decide +kernel
theorem dX4_byFails_163 : decode cX4_byFails 163 = .ok (.lload 5, 2) := by decide +kernel
theorem dX4_byFails_165 : decode cX4_byFails 165 = .ok (.lload 7, 2) := by decide +kernel
theorem dX4_byFails_167 : decode cX4_byFails 167 = .ok (.iload 4, 2) := by decide +kernel
theorem dX4_byFails_169 : decode cX4_byFails 169 = .ok (.invokestatic 200, 3) := by decide +kernel
theorem dX4_byFails_172 : decode cX4_byFails 172 = .ok (.lreturn, 1) := by decide +kernel
theorem dX4_luck_0 : decode cX4_luck 0 = .ok (.iload_n 1, 1) := by decide +kernel
theorem dX4_luck_1 : decode cX4_luck 1 = .ok (.i2l, 1) := by decide +kernel
theorem dX4_luck_2 : decode cX4_luck 2 = .ok (.lconst 0, 1) := by decide +kernel
theorem dX4_luck_3 : decode cX4_luck 3 = .ok (.ldc2_w 198, 3) := by decide +kernel
theorem dX4_luck_6 : decode cX4_luck 6 = .ok (.invokestatic 53, 3) := by decide +kernel
theorem dX4_luck_9 : decode cX4_luck 9 = .ok (.ifCond .eq 36, 3) := by decide +kernel
theorem dX4_luck_12 : decode cX4_luck 12 = .ok (.iload_n 2, 1) := by decide +kernel
theorem dX4_luck_13 : decode cX4_luck 13 = .ok (.i2l, 1) := by decide +kernel
theorem dX4_luck_14 : decode cX4_luck 14 = .ok (.lconst 0, 1) := by decide +kernel
theorem dX4_luck_15 : decode cX4_luck 15 = .ok (.ldc2_w 204, 3) := by decide +kernel
theorem dX4_luck_18 : decode cX4_luck 18 = .ok (.invokestatic 53, 3) := by decide +kernel
theorem dX4_luck_21 : decode cX4_luck 21 = .ok (.ifCond .eq 24, 3) := by decide +kernel
theorem dX4_luck_24 : decode cX4_luck 24 = .ok (.iload_n 3, 1) := by decide +kernel
theorem dX4_luck_25 : decode cX4_luck 25 = .ok (.i2l, 1) := by decide +kernel
theorem dX4_luck_26 : decode cX4_luck 26 = .ok (.lconst 0, 1) := by decide +kernel
theorem dX4_luck_27 : decode cX4_luck 27 = .ok (.lconst 1, 1) := by decide +kernel
theorem dX4_luck_28 : decode cX4_luck 28 = .ok (.invokestatic 53, 3) := by decide +kernel
theorem dX4_luck_31 : decode cX4_luck 31 = .ok (.ifCond .eq 14, 3) := by decide +kernel
theorem dX4_luck_34 : decode cX4_luck 34 = .ok (.aload_n 0, 1) := by decide +kernel
theorem dX4_luck_35 : decode cX4_luck 35 = .ok (.iload_n 1, 1) := by decide +kernel
theorem dX4_luck_36 : decode cX4_luck 36 = .ok (.iload_n 2, 1) := by decide +kernel
theorem dX4_luck_37 : decode cX4_luck 37 = .ok (.iconst 0, 1) := by decide +kernel
theorem dX4_luck_38 : decode cX4_luck 38 = .ok (.iload_n 3, 1) := by decide +kernel
theorem dX4_luck_39 : decode cX4_luck 39 = .ok (.invokevirtual 206, 3) := by decide +kernel
theorem dX4_luck_42 : decode cX4_luck 42 = .ok (.goto 6, 3) := by decide +kernel
theorem dX4_luck_45 : decode cX4_luck 45 = .ok (.ldc2_w 210, 3) := by decide +kernel
theorem dX4_luck_48 : decode cX4_luck 48 = .ok (.lreturn, 1) := by decide +kernel
theorem dX4_mean_0 : decode cX4_mean 0 = .ok (.iload_n 1, 1) := by decide +kernel
theorem dX4_mean_1 : decode cX4_mean 1 = .ok (.i2l, 1) := by decide +kernel
theorem dX4_mean_2 : decode cX4_mean 2 = .ok (.lconst 0, 1) := by decide +kernel
theorem dX4_mean_3 : decode cX4_mean 3 = .ok (.ldc2_w 198, 3) := by decide +kernel
theorem dX4_mean_6 : decode cX4_mean 6 = .ok (.invokestatic 53, 3) := by decide +kernel
theorem dX4_mean_9 : decode cX4_mean 9 = .ok (.ifCond .eq 36, 3) := by decide +kernel
theorem dX4_mean_12 : decode cX4_mean 12 = .ok (.iload_n 2, 1) := by decide +kernel
theorem dX4_mean_13 : decode cX4_mean 13 = .ok (.i2l, 1) := by decide +kernel
theorem dX4_mean_14 : decode cX4_mean 14 = .ok (.lconst 0, 1) := by decide +kernel
theorem dX4_mean_15 : decode cX4_mean 15 = .ok (.ldc2_w 204, 3) := by decide +kernel
theorem dX4_mean_18 : decode cX4_mean 18 = .ok (.invokestatic 53, 3) := by decide +kernel
theorem dX4_mean_21 : decode cX4_mean 21 = .ok (.ifCond .eq 24, 3) := by decide +kernel
theorem dX4_mean_24 : decode cX4_mean 24 = .ok (.iload_n 3, 1) := by decide +kernel
theorem dX4_mean_25 : decode cX4_mean 25 = .ok (.i2l, 1) := by decide +kernel
theorem dX4_mean_26 : decode cX4_mean 26 = .ok (.lconst 0, 1) := by decide +kernel
theorem dX4_mean_27 : decode cX4_mean 27 = .ok (.lconst 1, 1) := by decide +kernel
theorem dX4_mean_28 : decode cX4_mean 28 = .ok (.invokestatic 53, 3) := by decide +kernel
theorem dX4_mean_31 : decode cX4_mean 31 = .ok (.ifCond .eq 14, 3) := by decide +kernel
theorem dX4_mean_34 : decode cX4_mean 34 = .ok (.aload_n 0, 1) := by decide +kernel
theorem dX4_mean_35 : decode cX4_mean 35 = .ok (.iload_n 1, 1) := by decide +kernel
theorem dX4_mean_36 : decode cX4_mean 36 = .ok (.iload_n 2, 1) := by decide +kernel
theorem dX4_mean_37 : decode cX4_mean 37 = .ok (.iconst 1, 1) := by decide +kernel
theorem dX4_mean_38 : decode cX4_mean 38 = .ok (.iload_n 3, 1) := by decide +kernel
theorem dX4_mean_39 : decode cX4_mean 39 = .ok (.invokevirtual 206, 3) := by decide +kernel
theorem dX4_mean_42 : decode cX4_mean 42 = .ok (.goto 6, 3) := by decide +kernel
theorem dX4_mean_45 : decode cX4_mean 45 = .ok (.ldc2_w 210, 3) := by decide +kernel
theorem dX4_mean_48 : decode cX4_mean 48 = .ok (.lreturn, 1) := by decide +kernel
theorem dX4_see_0 : decode cX4_see 0 = .ok (.iload_n 1, 1) := by decide +kernel
theorem dX4_see_1 : decode cX4_see 1 = .ok (.i2l, 1) := by decide +kernel
theorem dX4_see_2 : decode cX4_see 2 = .ok (.lconst 0, 1) := by decide +kernel
theorem dX4_see_3 : decode cX4_see 3 = .ok (.ldc2_w 212, 3) := by decide +kernel
theorem dX4_see_6 : decode cX4_see 6 = .ok (.invokestatic 53, 3) := by decide +kernel
theorem dX4_see_9 : decode cX4_see 9 = .ok (.ifCond .eq 23, 3) := by decide +kernel
theorem dX4_see_12 : decode cX4_see 12 = .ok (.aload_n 0, 1) := by decide +kernel
theorem dX4_see_13 : decode cX4_see 13 = .ok (.iload_n 2, 1) := by decide +kernel
theorem dX4_see_14 : decode cX4_see 14 = .ok (.invokevirtual 144, 3) := by decide +kernel
theorem dX4_see_17 : decode cX4_see 17 = .ok (.ifCond .eq 15, 3) := by decide +kernel
theorem dX4_see_20 : decode cX4_see 20 = .ok (.iload_n 3, 1) := by decide +kernel
theorem dX4_see_21 : decode cX4_see 21 = .ok (.i2l, 1) := by decide +kernel
theorem dX4_see_22 : decode cX4_see 22 = .ok (.lconst 0, 1) := by decide +kernel
theorem dX4_see_23 : decode cX4_see 23 = .ok (.ldc2_w 214, 3) := by decide +kernel
theorem dX4_see_26 : decode cX4_see 26 = .ok (.invokestatic 53, 3) := by decide +kernel
theorem dX4_see_29 : decode cX4_see 29 = .ok (.ifCond .ne 5, 3) := by decide +kernel
theorem dX4_see_32 : decode cX4_see 32 = .ok (.iconst (-1), 1) := by decide +kernel
theorem dX4_see_33 : decode cX4_see 33 = .ok (.ireturn, 1) := by decide +kernel
theorem dX4_see_34 : decode cX4_see 34 = .ok (.aload_n 0, 1) := by decide +kernel
theorem dX4_see_35 : decode cX4_see 35 = .ok (.getfield 120, 3) := by decide +kernel
theorem dX4_see_38 : decode cX4_see 38 = .ok (.bipush 6, 2) := by decide +kernel
theorem dX4_see_40 : decode cX4_see 40 = .ok (.if_icmp .ne 6, 3) := by decide +kernel
theorem dX4_see_43 : decode cX4_see 43 = .ok (.bipush (-3), 2) := by decide +kernel
theorem dX4_see_45 : decode cX4_see 45 = .ok (.ireturn, 1) := by decide +kernel
theorem dX4_see_46 : decode cX4_see 46 = .ok (.aload_n 0, 1) := by decide +kernel
theorem dX4_see_47 : decode cX4_see 47 = .ok (.getfield 32, 3) := by decide +kernel
theorem dX4_see_50 : decode cX4_see 50 = .ok (.iconst 3, 1) := by decide +kernel
theorem dX4_see_51 : decode cX4_see 51 = .ok (.aload_n 0, 1) := by decide +kernel
theorem dX4_see_52 : decode cX4_see 52 = .ok (.getfield 120, 3) := by decide +kernel
theorem dX4_see_55 : decode cX4_see 55 = .ok (.imul, 1) := by decide +kernel
theorem dX4_see_56 : decode cX4_see 56 = .ok (.iload_n 1, 1) := by decide +kernel
theorem dX4_see_57 : decode cX4_see 57 = .ok (.iastore, 1) := by decide +kernel
theorem dX4_see_58 : decode cX4_see 58 = .ok (.aload_n 0, 1) := by decide +kernel
theorem dX4_see_59 : decode cX4_see 59 = .ok (.getfield 32, 3) := by decide +kernel
theorem dX4_see_62 : decode cX4_see 62 = .ok (.iconst 3, 1) := by decide +kernel
theorem dX4_see_63 : decode cX4_see 63 = .ok (.aload_n 0, 1) := by decide +kernel
theorem dX4_see_64 : decode cX4_see 64 = .ok (.getfield 120, 3) := by decide +kernel
theorem dX4_see_67 : decode cX4_see 67 = .ok (.imul, 1) := by decide +kernel
theorem dX4_see_68 : decode cX4_see 68 = .ok (.iconst 1, 1) := by decide +kernel
theorem dX4_see_69 : decode cX4_see 69 = .ok (.iadd, 1) := by decide +kernel
theorem dX4_see_70 : decode cX4_see 70 = .ok (.iload_n 2, 1) := by decide +kernel
theorem dX4_see_71 : decode cX4_see 71 = .ok (.iastore, 1) := by decide +kernel
theorem dX4_see_72 : decode cX4_see 72 = .ok (.aload_n 0, 1) := by decide +kernel
theorem dX4_see_73 : decode cX4_see 73 = .ok (.getfield 32, 3) := by decide +kernel
theorem dX4_see_76 : decode cX4_see 76 = .ok (.iconst 3, 1) := by decide +kernel
theorem dX4_see_77 : decode cX4_see 77 = .ok (.aload_n 0, 1) := by decide +kernel
theorem dX4_see_78 : decode cX4_see 78 = .ok (.getfield 120, 3) := by decide +kernel
theorem dX4_see_81 : decode cX4_see 81 = .ok (.imul, 1) := by decide +kernel
theorem dX4_see_82 : decode cX4_see 82 = .ok (.iconst 2, 1) := by decide +kernel
theorem dX4_see_83 : decode cX4_see 83 = .ok (.iadd, 1) := by decide +kernel
theorem dX4_see_84 : decode cX4_see 84 = .ok (.iload_n 3, 1) := by decide +kernel
theorem dX4_see_85 : decode cX4_see 85 = .ok (.iastore, 1) := by decide +kernel
theorem dX4_see_86 : decode cX4_see 86 = .ok (.aload_n 0, 1) := by decide +kernel
theorem dX4_see_87 : decode cX4_see 87 = .ok (.dup, 1) := by decide +kernel
theorem dX4_see_88 : decode cX4_see 88 = .ok (.getfield 120, 3) := by decide +kernel
theorem dX4_see_91 : decode cX4_see 91 = .ok (.iconst 1, 1) := by decide +kernel
theorem dX4_see_92 : decode cX4_see 92 = .ok (.iadd, 1) := by decide +kernel
theorem dX4_see_93 : decode cX4_see 93 = .ok (.putfield 120, 3) := by decide +kernel
theorem dX4_see_96 : decode cX4_see 96 = .ok (.aload_n 0, 1) := by decide +kernel
theorem dX4_see_97 : decode cX4_see 97 = .ok (.getfield 120, 3) := by decide +kernel
theorem dX4_see_100 : decode cX4_see 100 = .ok (.ireturn, 1) := by decide +kernel
theorem dX4_forget_0 : decode cX4_forget 0 = .ok (.iload_n 1, 1) := by decide +kernel
theorem dX4_forget_1 : decode cX4_forget 1 = .ok (.i2l, 1) := by decide +kernel
theorem dX4_forget_2 : decode cX4_forget 2 = .ok (.lconst 0, 1) := by decide +kernel
theorem dX4_forget_3 : decode cX4_forget 3 = .ok (.aload_n 0, 1) := by decide +kernel
theorem dX4_forget_4 : decode cX4_forget 4 = .ok (.getfield 120, 3) := by decide +kernel
theorem dX4_forget_7 : decode cX4_forget 7 = .ok (.i2l, 1) := by decide +kernel
theorem dX4_forget_8 : decode cX4_forget 8 = .ok (.invokestatic 53, 3) := by decide +kernel
theorem dX4_forget_11 : decode cX4_forget 11 = .ok (.ifCond .ne 5, 3) := by decide +kernel
theorem dX4_forget_14 : decode cX4_forget 14 = .ok (.iconst (-1), 1) := by decide +kernel
theorem dX4_forget_15 : decode cX4_forget 15 = .ok (.ireturn, 1) := by decide +kernel
theorem dX4_forget_16 : decode cX4_forget 16 = .ok (.aload_n 0, 1) := by decide +kernel
theorem dX4_forget_17 : decode cX4_forget 17 = .ok (.getfield 120, 3) := by decide +kernel
theorem dX4_forget_20 : decode cX4_forget 20 = .ok (.istore_n 2, 1) := by decide +kernel
theorem dX4_forget_21 : decode cX4_forget 21 = .ok (.aload_n 0, 1) := by decide +kernel
theorem dX4_forget_22 : decode cX4_forget 22 = .ok (.iload_n 1, 1) := by decide +kernel
theorem dX4_forget_23 : decode cX4_forget 23 = .ok (.putfield 120, 3) := by decide +kernel
theorem dX4_forget_26 : decode cX4_forget 26 = .ok (.iload_n 2, 1) := by decide +kernel
theorem dX4_forget_27 : decode cX4_forget 27 = .ok (.ireturn, 1) := by decide +kernel
theorem dX4_isAsSeen_0 : decode cX4_isAsSeen 0 = .ok (.aload_n 0, 1) := by decide +kernel
theorem dX4_isAsSeen_1 : decode cX4_isAsSeen 1 = .ok (.iconst 0, 1) := by decide +kernel
theorem dX4_isAsSeen_2 : decode cX4_isAsSeen 2 = .ok (.sipush 156, 3) := by decide +kernel
theorem dX4_isAsSeen_5 : decode cX4_isAsSeen 5 = .ok (.invokevirtual 176, 3) := by decide +kernel
theorem dX4_isAsSeen_8 : decode cX4_isAsSeen 8 = .ok (.iconst 1, 1) := by decide +kernel
theorem dX4_isAsSeen_9 : decode cX4_isAsSeen 9 = .ok (.istore_n 3, 1) := by decide +kernel
theorem dX4_isAsSeen_10 : decode cX4_isAsSeen 10 = .ok (.iconst 0, 1) := by decide +kernel
theorem dX4_isAsSeen_11 : decode cX4_isAsSeen 11 = .ok (.istore 4, 2) := by decide +kernel
theorem dX4_isAsSeen_13 : decode cX4_isAsSeen 13 = .ok (.iload 4, 2) := by decide +kernel
theorem dX4_isAsSeen_15 : decode cX4_isAsSeen 15 = .ok (.bipush 40, 2) := by decide +kernel
theorem dX4_isAsSeen_17 : decode cX4_isAsSeen 17 = .ok (.if_icmp .gt 143, 3) := by decide +kernel
theorem dX4_isAsSeen_20 : decode cX4_isAsSeen 20 = .ok (.aload_n 0, 1) := by decide +kernel
theorem dX4_isAsSeen_21 : decode cX4_isAsSeen 21 = .ok (.getfield 35, 3) := by decide +kernel
theorem dX4_isAsSeen_24 : decode cX4_isAsSeen 24 = .ok (.bipush 41, 2) := by decide +kernel
theorem dX4_isAsSeen_26 : decode cX4_isAsSeen 26 = .ok (.iload_n 1, 1) := by decide +kernel
theorem dX4_isAsSeen_27 : decode cX4_isAsSeen 27 = .ok (.imul, 1) := by decide +kernel
theorem dX4_isAsSeen_28 : decode cX4_isAsSeen 28 = .ok (.iload 4, 2) := by decide +kernel
theorem dX4_isAsSeen_30 : decode cX4_isAsSeen 30 = .ok (.iadd, 1) := by decide +kernel
theorem dX4_isAsSeen_31 : decode cX4_isAsSeen 31 = .ok (.aload_n 0, 1) := by decide +kernel
theorem dX4_isAsSeen_32 : decode cX4_isAsSeen 32 = .ok (.getfield 7, 3) := by decide +kernel
theorem dX4_isAsSeen_35 : decode cX4_isAsSeen 35 = .ok (.sipush 168, 3) := by decide +kernel
theorem dX4_isAsSeen_38 : decode cX4_isAsSeen 38 = .ok (.iload_n 2, 1) := by decide +kernel
theorem dX4_isAsSeen_39 : decode cX4_isAsSeen 39 = .ok (.iadd, 1) := by decide +kernel
theorem dX4_isAsSeen_40 : decode cX4_isAsSeen 40 = .ok (.iaload, 1) := by decide +kernel
theorem dX4_isAsSeen_41 : decode cX4_isAsSeen 41 = .ok (.iastore, 1) := by decide +kernel
theorem dX4_isAsSeen_42 : decode cX4_isAsSeen 42 = .ok (.iconst 0, 1) := by decide +kernel
theorem dX4_isAsSeen_43 : decode cX4_isAsSeen 43 = .ok (.istore 5, 2) := by decide +kernel
theorem dX4_isAsSeen_45 : decode cX4_isAsSeen 45 = .ok (.iload 5, 2) := by decide +kernel
theorem dX4_isAsSeen_47 : decode cX4_isAsSeen 47 = .ok (.aload_n 0, 1) := by decide +kernel
theorem dX4_isAsSeen_48 : decode cX4_isAsSeen 48 = .ok (.getfield 120, 3) := by decide +kernel
theorem dX4_isAsSeen_51 : decode cX4_isAsSeen 51 = .ok (.if_icmp .ge 95, 3) := by decide +kernel
theorem dX4_isAsSeen_54 : decode cX4_isAsSeen 54 = .ok (.aload_n 0, 1) := by decide +kernel
theorem dX4_isAsSeen_55 : decode cX4_isAsSeen 55 = .ok (.getfield 32, 3) := by decide +kernel
theorem dX4_isAsSeen_58 : decode cX4_isAsSeen 58 = .ok (.iconst 3, 1) := by decide +kernel
theorem dX4_isAsSeen_59 : decode cX4_isAsSeen 59 = .ok (.iload 5, 2) := by decide +kernel
theorem dX4_isAsSeen_61 : decode cX4_isAsSeen 61 = .ok (.imul, 1) := by decide +kernel
theorem dX4_isAsSeen_62 : decode cX4_isAsSeen 62 = .ok (.iconst 1, 1) := by decide +kernel
theorem dX4_isAsSeen_63 : decode cX4_isAsSeen 63 = .ok (.iadd, 1) := by decide +kernel
theorem dX4_isAsSeen_64 : decode cX4_isAsSeen 64 = .ok (.iaload, 1) := by decide +kernel
theorem dX4_isAsSeen_65 : decode cX4_isAsSeen 65 = .ok (.istore 6, 2) := by decide +kernel
theorem dX4_isAsSeen_67 : decode cX4_isAsSeen 67 = .ok (.iload 6, 2) := by decide +kernel
theorem dX4_isAsSeen_69 : decode cX4_isAsSeen 69 = .ok (.aload_n 0, 1) := by decide +kernel
theorem dX4_isAsSeen_70 : decode cX4_isAsSeen 70 = .ok (.getfield 7, 3) := by decide +kernel
theorem dX4_isAsSeen_73 : decode cX4_isAsSeen 73 = .ok (.bipush 16, 2) := by decide +kernel
theorem dX4_isAsSeen_75 : decode cX4_isAsSeen 75 = .ok (.iaload, 1) := by decide +kernel
theorem dX4_isAsSeen_76 : decode cX4_isAsSeen 76 = .ok (.if_icmp .ge 32, 3) := by decide +kernel
theorem dX4_isAsSeen_79 : decode cX4_isAsSeen 79 = .ok (.aload_n 0, 1) := by decide +kernel
theorem dX4_isAsSeen_80 : decode cX4_isAsSeen 80 = .ok (.getfield 7, 3) := by decide +kernel
theorem dX4_isAsSeen_83 : decode cX4_isAsSeen 83 = .ok (.sipush 168, 3) := by decide +kernel
theorem dX4_isAsSeen_86 : decode cX4_isAsSeen 86 = .ok (.iload 6, 2) := by decide +kernel
theorem dX4_isAsSeen_88 : decode cX4_isAsSeen 88 = .ok (.iadd, 1) := by decide +kernel
theorem dX4_isAsSeen_89 : decode cX4_isAsSeen 89 = .ok (.iaload, 1) := by decide +kernel
theorem dX4_isAsSeen_90 : decode cX4_isAsSeen 90 = .ok (.aload_n 0, 1) := by decide +kernel
theorem dX4_isAsSeen_91 : decode cX4_isAsSeen 91 = .ok (.getfield 32, 3) := by decide +kernel
theorem dX4_isAsSeen_94 : decode cX4_isAsSeen 94 = .ok (.iconst 3, 1) := by decide +kernel
theorem dX4_isAsSeen_95 : decode cX4_isAsSeen 95 = .ok (.iload 5, 2) := by decide +kernel
theorem dX4_isAsSeen_97 : decode cX4_isAsSeen 97 = .ok (.imul, 1) := by decide +kernel
theorem dX4_isAsSeen_98 : decode cX4_isAsSeen 98 = .ok (.iconst 2, 1) := by decide +kernel
theorem dX4_isAsSeen_99 : decode cX4_isAsSeen 99 = .ok (.iadd, 1) := by decide +kernel
theorem dX4_isAsSeen_100 : decode cX4_isAsSeen 100 = .ok (.iaload, 1) := by decide +kernel
theorem dX4_isAsSeen_101 : decode cX4_isAsSeen 101 = .ok (.if_icmp .ne 7, 3) := by decide +kernel
theorem dX4_isAsSeen_104 : decode cX4_isAsSeen 104 = .ok (.iconst 1, 1) := by decide +kernel
theorem dX4_isAsSeen_105 : decode cX4_isAsSeen 105 = .ok (.goto 4, 3) := by decide +kernel
theorem dX4_isAsSeen_108 : decode cX4_isAsSeen 108 = .ok (.iconst 0, 1) := by decide +kernel
theorem dX4_isAsSeen_109 : decode cX4_isAsSeen 109 = .ok (.istore 7, 2) := by decide +kernel
theorem dX4_isAsSeen_111 : decode cX4_isAsSeen 111 = .ok (.iload_n 3, 1) := by decide +kernel
theorem dX4_isAsSeen_112 : decode cX4_isAsSeen 112 = .ok (.ifCond .eq 26, 3) := by decide +kernel
theorem dX4_isAsSeen_115 : decode cX4_isAsSeen 115 = .ok (.aload_n 0, 1) := by decide +kernel
theorem dX4_isAsSeen_116 : decode cX4_isAsSeen 116 = .ok (.getfield 32, 3) := by decide +kernel
theorem dX4_isAsSeen_119 : decode cX4_isAsSeen 119 = .ok (.iconst 3, 1) := by decide +kernel
theorem dX4_isAsSeen_120 : decode cX4_isAsSeen 120 = .ok (.iload 5, 2) := by decide +kernel
theorem dX4_isAsSeen_122 : decode cX4_isAsSeen 122 = .ok (.imul, 1) := by decide +kernel
theorem dX4_isAsSeen_123 : decode cX4_isAsSeen 123 = .ok (.iaload, 1) := by decide +kernel
theorem dX4_isAsSeen_124 : decode cX4_isAsSeen 124 = .ok (.iload 4, 2) := by decide +kernel
theorem dX4_isAsSeen_126 : decode cX4_isAsSeen 126 = .ok (.if_icmp .ne 8, 3) := by decide +kernel
theorem dX4_isAsSeen_129 : decode cX4_isAsSeen 129 = .ok (.iload 7, 2) := by decide +kernel
theorem dX4_isAsSeen_131 : decode cX4_isAsSeen 131 = .ok (.ifCond .eq 7, 3) := by decide +kernel
theorem dX4_isAsSeen_134 : decode cX4_isAsSeen 134 = .ok (.iconst 1, 1) := by decide +kernel
theorem dX4_isAsSeen_135 : decode cX4_isAsSeen 135 = .ok (.goto 4, 3) := by decide +kernel
theorem dX4_isAsSeen_138 : decode cX4_isAsSeen 138 = .ok (.iconst 0, 1) := by decide +kernel
theorem dX4_isAsSeen_139 : decode cX4_isAsSeen 139 = .ok (.istore_n 3, 1) := by decide +kernel
theorem dX4_isAsSeen_140 : decode cX4_isAsSeen 140 = .ok (.iinc 5 1, 3) := by decide +kernel
theorem dX4_isAsSeen_143 : decode cX4_isAsSeen 143 = .ok (.goto (-98), 3) := by decide +kernel
theorem dX4_isAsSeen_146 : decode cX4_isAsSeen 146 = .ok (.aload_n 0, 1) := by decide +kernel
theorem dX4_isAsSeen_147 : decode cX4_isAsSeen 147 = .ok (.sipush 156, 3) := by decide +kernel
theorem dX4_isAsSeen_150 : decode cX4_isAsSeen 150 = .ok (.iconst 0, 1) := by decide +kernel
theorem dX4_isAsSeen_151 : decode cX4_isAsSeen 151 = .ok (.invokevirtual 172, 3) := by decide +kernel
theorem dX4_isAsSeen_154 : decode cX4_isAsSeen 154 = .ok (.iinc 4 1, 3) := by decide +kernel
theorem dX4_isAsSeen_157 : decode cX4_isAsSeen 157 = .ok (.goto (-144), 3) := by decide +kernel
theorem dX4_isAsSeen_160 : decode cX4_isAsSeen 160 = .ok (.iload_n 3, 1) := by decide +kernel
theorem dX4_isAsSeen_161 : decode cX4_isAsSeen 161 = .ok (.ireturn, 1) := by decide +kernel
theorem dX4_numbersAt_0 : decode cX4_numbersAt 0 = .ok (.aload_n 0, 1) := by decide +kernel
theorem dX4_numbersAt_1 : decode cX4_numbersAt 1 = .ok (.getfield 7, 3) := by decide +kernel
theorem dX4_numbersAt_4 : decode cX4_numbersAt 4 = .ok (.iload_n 1, 1) := by decide +kernel
theorem dX4_numbersAt_5 : decode cX4_numbersAt 5 = .ok (.iaload, 1) := by decide +kernel
theorem dX4_numbersAt_6 : decode cX4_numbersAt 6 = .ok (.istore 4, 2) := by decide +kernel
theorem dX4_numbersAt_8 : decode cX4_numbersAt 8 = .ok (.iconst 0, 1) := by decide +kernel
theorem dX4_numbersAt_9 : decode cX4_numbersAt 9 = .ok (.istore 5, 2) := by decide +kernel
theorem dX4_numbersAt_11 : decode cX4_numbersAt 11 = .ok (.iconst 0, 1) := by decide +kernel
theorem dX4_numbersAt_12 : decode cX4_numbersAt 12 = .ok (.istore 6, 2) := by decide +kernel
theorem dX4_numbersAt_14 : decode cX4_numbersAt 14 = .ok (.iload 6, 2) := by decide +kernel
theorem dX4_numbersAt_16 : decode cX4_numbersAt 16 = .ok (.iload_n 3, 1) := by decide +kernel
theorem dX4_numbersAt_17 : decode cX4_numbersAt 17 = .ok (.if_icmp .ge 40, 3) := by decide +kernel
theorem dX4_numbersAt_20 : decode cX4_numbersAt 20 = .ok (.aload_n 0, 1) := by decide +kernel
theorem dX4_numbersAt_21 : decode cX4_numbersAt 21 = .ok (.getfield 7, 3) := by decide +kernel
theorem dX4_numbersAt_24 : decode cX4_numbersAt 24 = .ok (.iload_n 1, 1) := by decide +kernel
theorem dX4_numbersAt_25 : decode cX4_numbersAt 25 = .ok (.iload 6, 2) := by decide +kernel
theorem dX4_numbersAt_27 : decode cX4_numbersAt 27 = .ok (.iastore, 1) := by decide +kernel
theorem dX4_numbersAt_28 : decode cX4_numbersAt 28 = .ok (.iload 5, 2) := by decide +kernel
theorem dX4_numbersAt_30 : decode cX4_numbersAt 30 = .ok (.aload_n 0, 1) := by decide +kernel
theorem dX4_numbersAt_31 : decode cX4_numbersAt 31 = .ok (.iload 6, 2) := by decide +kernel
theorem dX4_numbersAt_33 : decode cX4_numbersAt 33 = .ok (.iload_n 2, 1) := by decide +kernel
theorem dX4_numbersAt_34 : decode cX4_numbersAt 34 = .ok (.invokevirtual 216, 3) := by decide +kernel
theorem dX4_numbersAt_37 : decode cX4_numbersAt 37 = .ok (.ifCond .eq 10, 3) := by decide +kernel
theorem dX4_numbersAt_40 : decode cX4_numbersAt 40 = .ok (.iconst 1, 1) := by decide +kernel
theorem dX4_numbersAt_41 : decode cX4_numbersAt 41 = .ok (.iload 6, 2) := by decide +kernel
theorem dX4_numbersAt_43 : decode cX4_numbersAt 43 = .ok (.ishl, 1) := by decide +kernel
theorem dX4_numbersAt_44 : decode cX4_numbersAt 44 = .ok (.goto 4, 3) := by decide +kernel
theorem dX4_numbersAt_47 : decode cX4_numbersAt 47 = .ok (.iconst 0, 1) := by decide +kernel
theorem dX4_numbersAt_48 : decode cX4_numbersAt 48 = .ok (.ior, 1) := by decide +kernel
theorem dX4_numbersAt_49 : decode cX4_numbersAt 49 = .ok (.istore 5, 2) := by decide +kernel
theorem dX4_numbersAt_51 : decode cX4_numbersAt 51 = .ok (.iinc 6 1, 3) := by decide +kernel
theorem dX4_numbersAt_54 : decode cX4_numbersAt 54 = .ok (.goto (-40), 3) := by decide +kernel
theorem dX4_numbersAt_57 : decode cX4_numbersAt 57 = .ok (.aload_n 0, 1) := by decide +kernel
theorem dX4_numbersAt_58 : decode cX4_numbersAt 58 = .ok (.getfield 7, 3) := by decide +kernel
theorem dX4_numbersAt_61 : decode cX4_numbersAt 61 = .ok (.iload_n 1, 1) := by decide +kernel
theorem dX4_numbersAt_62 : decode cX4_numbersAt 62 = .ok (.iload 4, 2) := by decide +kernel
theorem dX4_numbersAt_64 : decode cX4_numbersAt 64 = .ok (.iastore, 1) := by decide +kernel
theorem dX4_numbersAt_65 : decode cX4_numbersAt 65 = .ok (.iload 5, 2) := by decide +kernel
theorem dX4_numbersAt_67 : decode cX4_numbersAt 67 = .ok (.ireturn, 1) := by decide +kernel
theorem dX4_kinds_0 : decode cX4_kinds 0 = .ok (.aload_n 0, 1) := by decide +kernel
theorem dX4_kinds_1 : decode cX4_kinds 1 = .ok (.iload_n 1, 1) := by decide +kernel
theorem dX4_kinds_2 : decode cX4_kinds 2 = .ok (.invokevirtual 144, 3) := by decide +kernel
theorem dX4_kinds_5 : decode cX4_kinds 5 = .ok (.ifCond .eq 13, 3) := by decide +kernel
theorem dX4_kinds_8 : decode cX4_kinds 8 = .ok (.aload_n 0, 1) := by decide +kernel
theorem dX4_kinds_9 : decode cX4_kinds 9 = .ok (.iload_n 1, 1) := by decide +kernel
theorem dX4_kinds_10 : decode cX4_kinds 10 = .ok (.iload_n 1, 1) := by decide +kernel
theorem dX4_kinds_11 : decode cX4_kinds 11 = .ok (.iconst 4, 1) := by decide +kernel
theorem dX4_kinds_12 : decode cX4_kinds 12 = .ok (.invokevirtual 220, 3) := by decide +kernel
theorem dX4_kinds_15 : decode cX4_kinds 15 = .ok (.goto 4, 3) := by decide +kernel
theorem dX4_kinds_18 : decode cX4_kinds 18 = .ok (.iconst (-1), 1) := by decide +kernel
theorem dX4_kinds_19 : decode cX4_kinds 19 = .ok (.ireturn, 1) := by decide +kernel
theorem dX4_losses_0 : decode cX4_losses 0 = .ok (.aload_n 0, 1) := by decide +kernel
theorem dX4_losses_1 : decode cX4_losses 1 = .ok (.iload_n 1, 1) := by decide +kernel
theorem dX4_losses_2 : decode cX4_losses 2 = .ok (.invokevirtual 144, 3) := by decide +kernel
theorem dX4_losses_5 : decode cX4_losses 5 = .ok (.ifCond .eq 17, 3) := by decide +kernel
theorem dX4_losses_8 : decode cX4_losses 8 = .ok (.aload_n 0, 1) := by decide +kernel
theorem dX4_losses_9 : decode cX4_losses 9 = .ok (.bipush 8, 2) := by decide +kernel
theorem dX4_losses_11 : decode cX4_losses 11 = .ok (.iload_n 1, 1) := by decide +kernel
theorem dX4_losses_12 : decode cX4_losses 12 = .ok (.iadd, 1) := by decide +kernel
theorem dX4_losses_13 : decode cX4_losses 13 = .ok (.iload_n 1, 1) := by decide +kernel
theorem dX4_losses_14 : decode cX4_losses 14 = .ok (.bipush 10, 2) := by decide +kernel
theorem dX4_losses_16 : decode cX4_losses 16 = .ok (.invokevirtual 220, 3) := by decide +kernel
theorem dX4_losses_19 : decode cX4_losses 19 = .ok (.goto 4, 3) := by decide +kernel
theorem dX4_losses_22 : decode cX4_losses 22 = .ok (.iconst (-1), 1) := by decide +kernel
theorem dX4_losses_23 : decode cX4_losses 23 = .ok (.ireturn, 1) := by decide +kernel
theorem dX4_worstAt_0 : decode cX4_worstAt 0 = .ok (.iconst 0, 1) := by decide +kernel
theorem dX4_worstAt_1 : decode cX4_worstAt 1 = .ok (.istore_n 3, 1) := by decide +kernel
theorem dX4_worstAt_2 : decode cX4_worstAt 2 = .ok (.iconst 0, 1) := by decide +kernel
theorem dX4_worstAt_3 : decode cX4_worstAt 3 = .ok (.istore 4, 2) := by decide +kernel
theorem dX4_worstAt_5 : decode cX4_worstAt 5 = .ok (.iload 4, 2) := by decide +kernel
theorem dX4_worstAt_7 : decode cX4_worstAt 7 = .ok (.bipush 9, 2) := by decide +kernel
theorem dX4_worstAt_9 : decode cX4_worstAt 9 = .ok (.if_icmp .gt 98, 3) := by decide +kernel
theorem dX4_worstAt_12 : decode cX4_worstAt 12 = .ok (.iconst 0, 1) := by decide +kernel
theorem dX4_worstAt_13 : decode cX4_worstAt 13 = .ok (.istore 5, 2) := by decide +kernel
theorem dX4_worstAt_15 : decode cX4_worstAt 15 = .ok (.iconst 0, 1) := by decide +kernel
theorem dX4_worstAt_16 : decode cX4_worstAt 16 = .ok (.istore 6, 2) := by decide +kernel
theorem dX4_worstAt_18 : decode cX4_worstAt 18 = .ok (.iload 6, 2) := by decide +kernel
theorem dX4_worstAt_20 : decode cX4_worstAt 20 = .ok (.bipush 9, 2) := by decide +kernel
theorem dX4_worstAt_22 : decode cX4_worstAt 22 = .ok (.if_icmp .gt 66, 3) := by decide +kernel
theorem dX4_worstAt_25 : decode cX4_worstAt 25 = .ok (.iload_n 1, 1) := by decide +kernel
theorem dX4_worstAt_26 : decode cX4_worstAt 26 = .ok (.iload 4, 2) := by decide +kernel
theorem dX4_worstAt_28 : decode cX4_worstAt 28 = .ok (.ishr, 1) := by decide +kernel
theorem dX4_worstAt_29 : decode cX4_worstAt 29 = .ok (.iconst 1, 1) := by decide +kernel
theorem dX4_worstAt_30 : decode cX4_worstAt 30 = .ok (.iand, 1) := by decide +kernel
theorem dX4_worstAt_31 : decode cX4_worstAt 31 = .ok (.iconst 1, 1) := by decide +kernel
theorem dX4_worstAt_32 : decode cX4_worstAt 32 = .ok (.if_icmp .ne 56, 3) := by decide +kernel
theorem dX4_worstAt_35 : decode cX4_worstAt 35 = .ok (.iload 5, 2) := by decide +kernel
theorem dX4_worstAt_37 : decode cX4_worstAt 37 = .ok (.iload_n 1, 1) := by decide +kernel
theorem dX4_worstAt_38 : decode cX4_worstAt 38 = .ok (.iload 6, 2) := by decide +kernel
theorem dX4_worstAt_40 : decode cX4_worstAt 40 = .ok (.ishr, 1) := by decide +kernel
theorem dX4_worstAt_41 : decode cX4_worstAt 41 = .ok (.iconst 1, 1) := by decide +kernel
theorem dX4_worstAt_42 : decode cX4_worstAt 42 = .ok (.iand, 1) := by decide +kernel
theorem dX4_worstAt_43 : decode cX4_worstAt 43 = .ok (.iconst 1, 1) := by decide +kernel
theorem dX4_worstAt_44 : decode cX4_worstAt 44 = .ok (.if_icmp .ne 34, 3) := by decide +kernel
theorem dX4_worstAt_47 : decode cX4_worstAt 47 = .ok (.aload_n 0, 1) := by decide +kernel
theorem dX4_worstAt_48 : decode cX4_worstAt 48 = .ok (.getfield 35, 3) := by decide +kernel
theorem dX4_worstAt_51 : decode cX4_worstAt 51 = .ok (.bipush 41, 2) := by decide +kernel
theorem dX4_worstAt_53 : decode cX4_worstAt 53 = .ok (.iload 4, 2) := by decide +kernel
theorem dX4_worstAt_55 : decode cX4_worstAt 55 = .ok (.imul, 1) := by decide +kernel
theorem dX4_worstAt_56 : decode cX4_worstAt 56 = .ok (.iload_n 2, 1) := by decide +kernel
theorem dX4_worstAt_57 : decode cX4_worstAt 57 = .ok (.iadd, 1) := by decide +kernel
theorem dX4_worstAt_58 : decode cX4_worstAt 58 = .ok (.iaload, 1) := by decide +kernel
theorem dX4_worstAt_59 : decode cX4_worstAt 59 = .ok (.aload_n 0, 1) := by decide +kernel
theorem dX4_worstAt_60 : decode cX4_worstAt 60 = .ok (.getfield 35, 3) := by decide +kernel
theorem dX4_worstAt_63 : decode cX4_worstAt 63 = .ok (.bipush 41, 2) := by decide +kernel
theorem dX4_worstAt_65 : decode cX4_worstAt 65 = .ok (.iload 6, 2) := by decide +kernel
theorem dX4_worstAt_67 : decode cX4_worstAt 67 = .ok (.imul, 1) := by decide +kernel
theorem dX4_worstAt_68 : decode cX4_worstAt 68 = .ok (.iload_n 2, 1) := by decide +kernel
theorem dX4_worstAt_69 : decode cX4_worstAt 69 = .ok (.iadd, 1) := by decide +kernel
theorem dX4_worstAt_70 : decode cX4_worstAt 70 = .ok (.iaload, 1) := by decide +kernel
theorem dX4_worstAt_71 : decode cX4_worstAt 71 = .ok (.if_icmp .ne 7, 3) := by decide +kernel
theorem dX4_worstAt_74 : decode cX4_worstAt 74 = .ok (.iconst 1, 1) := by decide +kernel
theorem dX4_worstAt_75 : decode cX4_worstAt 75 = .ok (.goto 4, 3) := by decide +kernel
theorem dX4_worstAt_78 : decode cX4_worstAt 78 = .ok (.iconst 0, 1) := by decide +kernel
theorem dX4_worstAt_79 : decode cX4_worstAt 79 = .ok (.iadd, 1) := by decide +kernel
theorem dX4_worstAt_80 : decode cX4_worstAt 80 = .ok (.istore 5, 2) := by decide +kernel
theorem dX4_worstAt_82 : decode cX4_worstAt 82 = .ok (.iinc 6 1, 3) := by decide +kernel
theorem dX4_worstAt_85 : decode cX4_worstAt 85 = .ok (.goto (-67), 3) := by decide +kernel
theorem dX4_worstAt_88 : decode cX4_worstAt 88 = .ok (.iload 5, 2) := by decide +kernel
theorem dX4_worstAt_90 : decode cX4_worstAt 90 = .ok (.iload_n 3, 1) := by decide +kernel
theorem dX4_worstAt_91 : decode cX4_worstAt 91 = .ok (.if_icmp .le 8, 3) := by decide +kernel
theorem dX4_worstAt_94 : decode cX4_worstAt 94 = .ok (.iload 5, 2) := by decide +kernel
theorem dX4_worstAt_96 : decode cX4_worstAt 96 = .ok (.goto 4, 3) := by decide +kernel
theorem dX4_worstAt_99 : decode cX4_worstAt 99 = .ok (.iload_n 3, 1) := by decide +kernel
theorem dX4_worstAt_100 : decode cX4_worstAt 100 = .ok (.istore_n 3, 1) := by decide +kernel
theorem dX4_worstAt_101 : decode cX4_worstAt 101 = .ok (.iinc 4 1, 3) := by decide +kernel
theorem dX4_worstAt_104 : decode cX4_worstAt 104 = .ok (.goto (-99), 3) := by decide +kernel
theorem dX4_worstAt_107 : decode cX4_worstAt 107 = .ok (.iload_n 3, 1) := by decide +kernel
theorem dX4_worstAt_108 : decode cX4_worstAt 108 = .ok (.ireturn, 1) := by decide +kernel
theorem dX4_ask_0 : decode cX4_ask 0 = .ok (.aload_n 0, 1) := by decide +kernel
theorem dX4_ask_1 : decode cX4_ask 1 = .ok (.iload_n 1, 1) := by decide +kernel
theorem dX4_ask_2 : decode cX4_ask 2 = .ok (.invokevirtual 144, 3) := by decide +kernel
theorem dX4_ask_5 : decode cX4_ask 5 = .ok (.ifCond .eq 13, 3) := by decide +kernel
theorem dX4_ask_8 : decode cX4_ask 8 = .ok (.iload_n 2, 1) := by decide +kernel
theorem dX4_ask_9 : decode cX4_ask 9 = .ok (.i2l, 1) := by decide +kernel
theorem dX4_ask_10 : decode cX4_ask 10 = .ok (.lconst 0, 1) := by decide +kernel
theorem dX4_ask_11 : decode cX4_ask 11 = .ok (.lconst 1, 1) := by decide +kernel
theorem dX4_ask_12 : decode cX4_ask 12 = .ok (.invokestatic 53, 3) := by decide +kernel
theorem dX4_ask_15 : decode cX4_ask 15 = .ok (.ifCond .ne 5, 3) := by decide +kernel
theorem dX4_ask_18 : decode cX4_ask 18 = .ok (.iconst (-1), 1) := by decide +kernel
theorem dX4_ask_19 : decode cX4_ask 19 = .ok (.ireturn, 1) := by decide +kernel
theorem dX4_ask_20 : decode cX4_ask 20 = .ok (.aload_n 0, 1) := by decide +kernel
theorem dX4_ask_21 : decode cX4_ask 21 = .ok (.bipush 8, 2) := by decide +kernel
theorem dX4_ask_23 : decode cX4_ask 23 = .ok (.iload_n 1, 1) := by decide +kernel
theorem dX4_ask_24 : decode cX4_ask 24 = .ok (.iadd, 1) := by decide +kernel
theorem dX4_ask_25 : decode cX4_ask 25 = .ok (.iload_n 1, 1) := by decide +kernel
theorem dX4_ask_26 : decode cX4_ask 26 = .ok (.bipush 10, 2) := by decide +kernel
theorem dX4_ask_28 : decode cX4_ask 28 = .ok (.invokevirtual 220, 3) := by decide +kernel
theorem dX4_ask_31 : decode cX4_ask 31 = .ok (.istore_n 3, 1) := by decide +kernel
theorem dX4_ask_32 : decode cX4_ask 32 = .ok (.iconst 0, 1) := by decide +kernel
theorem dX4_ask_33 : decode cX4_ask 33 = .ok (.istore 4, 2) := by decide +kernel
theorem dX4_ask_35 : decode cX4_ask 35 = .ok (.iconst 0, 1) := by decide +kernel
theorem dX4_ask_36 : decode cX4_ask 36 = .ok (.istore 5, 2) := by decide +kernel
theorem dX4_ask_38 : decode cX4_ask 38 = .ok (.iload 5, 2) := by decide +kernel
theorem dX4_ask_40 : decode cX4_ask 40 = .ok (.bipush 9, 2) := by decide +kernel
theorem dX4_ask_42 : decode cX4_ask 42 = .ok (.if_icmp .gt 20, 3) := by decide +kernel
theorem dX4_ask_45 : decode cX4_ask 45 = .ok (.iload 4, 2) := by decide +kernel
theorem dX4_ask_47 : decode cX4_ask 47 = .ok (.iload_n 3, 1) := by decide +kernel
theorem dX4_ask_48 : decode cX4_ask 48 = .ok (.iload 5, 2) := by decide +kernel
theorem dX4_ask_50 : decode cX4_ask 50 = .ok (.ishr, 1) := by decide +kernel
theorem dX4_ask_51 : decode cX4_ask 51 = .ok (.iconst 1, 1) := by decide +kernel
theorem dX4_ask_52 : decode cX4_ask 52 = .ok (.iand, 1) := by decide +kernel
theorem dX4_ask_53 : decode cX4_ask 53 = .ok (.iadd, 1) := by decide +kernel
theorem dX4_ask_54 : decode cX4_ask 54 = .ok (.istore 4, 2) := by decide +kernel
theorem dX4_ask_56 : decode cX4_ask 56 = .ok (.iinc 5 1, 3) := by decide +kernel
theorem dX4_ask_59 : decode cX4_ask 59 = .ok (.goto (-21), 3) := by decide +kernel
theorem dX4_ask_62 : decode cX4_ask 62 = .ok (.bipush (-4), 2) := by decide +kernel
theorem dX4_ask_64 : decode cX4_ask 64 = .ok (.istore 5, 2) := by decide +kernel
theorem dX4_ask_66 : decode cX4_ask 66 = .ok (.iconst 0, 1) := by decide +kernel
theorem dX4_ask_67 : decode cX4_ask 67 = .ok (.istore 6, 2) := by decide +kernel
theorem dX4_ask_69 : decode cX4_ask 69 = .ok (.iload 6, 2) := by decide +kernel
theorem dX4_ask_71 : decode cX4_ask 71 = .ok (.bipush 40, 2) := by decide +kernel
theorem dX4_ask_73 : decode cX4_ask 73 = .ok (.if_icmp .gt 50, 3) := by decide +kernel
theorem dX4_ask_76 : decode cX4_ask 76 = .ok (.aload_n 0, 1) := by decide +kernel
theorem dX4_ask_77 : decode cX4_ask 77 = .ok (.iload_n 3, 1) := by decide +kernel
theorem dX4_ask_78 : decode cX4_ask 78 = .ok (.iload 6, 2) := by decide +kernel
theorem dX4_ask_80 : decode cX4_ask 80 = .ok (.invokevirtual 224, 3) := by decide +kernel
theorem dX4_ask_83 : decode cX4_ask 83 = .ok (.istore 7, 2) := by decide +kernel
theorem dX4_ask_85 : decode cX4_ask 85 = .ok (.iload 7, 2) := by decide +kernel
theorem dX4_ask_87 : decode cX4_ask 87 = .ok (.iload 4, 2) := by decide +kernel
theorem dX4_ask_89 : decode cX4_ask 89 = .ok (.if_icmp .ge 8, 3) := by decide +kernel
theorem dX4_ask_92 : decode cX4_ask 92 = .ok (.iload 6, 2) := by decide +kernel
theorem dX4_ask_94 : decode cX4_ask 94 = .ok (.goto 5, 3) := by decide +kernel
theorem dX4_ask_97 : decode cX4_ask 97 = .ok (.iload 5, 2) := by decide +kernel
theorem dX4_ask_99 : decode cX4_ask 99 = .ok (.istore 5, 2) := by decide +kernel
theorem dX4_ask_101 : decode cX4_ask 101 = .ok (.iload 7, 2) := by decide +kernel
theorem dX4_ask_103 : decode cX4_ask 103 = .ok (.iload 4, 2) := by decide +kernel
theorem dX4_ask_105 : decode cX4_ask 105 = .ok (.if_icmp .ge 8, 3) := by decide +kernel
theorem dX4_ask_108 : decode cX4_ask 108 = .ok (.iload 7, 2) := by decide +kernel
theorem dX4_ask_110 : decode cX4_ask 110 = .ok (.goto 5, 3) := by decide +kernel
theorem dX4_ask_113 : decode cX4_ask 113 = .ok (.iload 4, 2) := by decide +kernel
theorem dX4_ask_115 : decode cX4_ask 115 = .ok (.istore 4, 2) := by decide +kernel
theorem dX4_ask_117 : decode cX4_ask 117 = .ok (.iinc 6 1, 3) := by decide +kernel
theorem dX4_ask_120 : decode cX4_ask 120 = .ok (.goto (-51), 3) := by decide +kernel
theorem dX4_ask_123 : decode cX4_ask 123 = .ok (.iload 5, 2) := by decide +kernel
theorem dX4_ask_125 : decode cX4_ask 125 = .ok (.bipush (-4), 2) := by decide +kernel
theorem dX4_ask_127 : decode cX4_ask 127 = .ok (.if_icmp .eq 7, 3) := by decide +kernel
theorem dX4_ask_130 : decode cX4_ask 130 = .ok (.iload_n 2, 1) := by decide +kernel
theorem dX4_ask_131 : decode cX4_ask 131 = .ok (.ifCond .ne 8, 3) := by decide +kernel
theorem dX4_ask_134 : decode cX4_ask 134 = .ok (.iload 5, 2) := by decide +kernel
theorem dX4_ask_136 : decode cX4_ask 136 = .ok (.goto 5, 3) := by decide +kernel
theorem dX4_ask_139 : decode cX4_ask 139 = .ok (.iload 4, 2) := by decide +kernel
theorem dX4_ask_141 : decode cX4_ask 141 = .ok (.ireturn, 1) := by decide +kernel
theorem dX4_drift_0 : decode cX4_drift 0 = .ok (.iload_n 2, 1) := by decide +kernel
theorem dX4_drift_1 : decode cX4_drift 1 = .ok (.i2l, 1) := by decide +kernel
theorem dX4_drift_2 : decode cX4_drift 2 = .ok (.lconst 1, 1) := by decide +kernel
theorem dX4_drift_3 : decode cX4_drift 3 = .ok (.ldc2_w 123, 3) := by decide +kernel
theorem dX4_drift_6 : decode cX4_drift 6 = .ok (.invokestatic 53, 3) := by decide +kernel
theorem dX4_drift_9 : decode cX4_drift 9 = .ok (.ifCond .eq 13, 3) := by decide +kernel
theorem dX4_drift_12 : decode cX4_drift 12 = .ok (.iload_n 3, 1) := by decide +kernel
theorem dX4_drift_13 : decode cX4_drift 13 = .ok (.i2l, 1) := by decide +kernel
theorem dX4_drift_14 : decode cX4_drift 14 = .ok (.lconst 0, 1) := by decide +kernel
theorem dX4_drift_15 : decode cX4_drift 15 = .ok (.lconst 1, 1) := by decide +kernel
theorem dX4_drift_16 : decode cX4_drift 16 = .ok (.invokestatic 53, 3) := by decide +kernel
theorem dX4_drift_19 : decode cX4_drift 19 = .ok (.ifCond .ne 5, 3) := by decide +kernel
theorem dX4_drift_22 : decode cX4_drift 22 = .ok (.iconst (-1), 1) := by decide +kernel
theorem dX4_drift_23 : decode cX4_drift 23 = .ok (.ireturn, 1) := by decide +kernel
theorem dX4_drift_24 : decode cX4_drift 24 = .ok (.aload_n 0, 1) := by decide +kernel
theorem dX4_drift_25 : decode cX4_drift 25 = .ok (.getfield 7, 3) := by decide +kernel
theorem dX4_drift_28 : decode cX4_drift 28 = .ok (.bipush 16, 2) := by decide +kernel
theorem dX4_drift_30 : decode cX4_drift 30 = .ok (.iaload, 1) := by decide +kernel
theorem dX4_drift_31 : decode cX4_drift 31 = .ok (.ifCond .ne 6, 3) := by decide +kernel
theorem dX4_drift_34 : decode cX4_drift 34 = .ok (.bipush (-2), 2) := by decide +kernel
theorem dX4_drift_36 : decode cX4_drift 36 = .ok (.ireturn, 1) := by decide +kernel
theorem dX4_drift_37 : decode cX4_drift 37 = .ok (.aload_n 0, 1) := by decide +kernel
theorem dX4_drift_38 : decode cX4_drift 38 = .ok (.iconst 0, 1) := by decide +kernel
theorem dX4_drift_39 : decode cX4_drift 39 = .ok (.sipush 156, 3) := by decide +kernel
theorem dX4_drift_42 : decode cX4_drift 42 = .ok (.invokevirtual 176, 3) := by decide +kernel
theorem dX4_drift_45 : decode cX4_drift 45 = .ok (.iload_n 1, 1) := by decide +kernel
theorem dX4_drift_46 : decode cX4_drift 46 = .ok (.istore 4, 2) := by decide +kernel
theorem dX4_drift_48 : decode cX4_drift 48 = .ok (.iconst 0, 1) := by decide +kernel
theorem dX4_drift_49 : decode cX4_drift 49 = .ok (.istore 5, 2) := by decide +kernel
theorem dX4_drift_51 : decode cX4_drift 51 = .ok (.iload 5, 2) := by decide +kernel
theorem dX4_drift_53 : decode cX4_drift 53 = .ok (.iload_n 2, 1) := by decide +kernel
theorem dX4_drift_54 : decode cX4_drift 54 = .ok (.if_icmp .ge 48, 3) := by decide +kernel
theorem dX4_drift_57 : decode cX4_drift 57 = .ok (.iload 4, 2) := by decide +kernel
theorem dX4_drift_59 : decode cX4_drift 59 = .ok (.ldc 227, 2) := by decide +kernel
theorem dX4_drift_61 : decode cX4_drift 61 = .ok (.imul, 1) := by decide +kernel
theorem dX4_drift_62 : decode cX4_drift 62 = .ok (.sipush 12345, 3) := by decide +kernel
theorem dX4_drift_65 : decode cX4_drift 65 = .ok (.iadd, 1) := by decide +kernel
theorem dX4_drift_66 : decode cX4_drift 66 = .ok (.istore 4, 2) := by decide +kernel
theorem dX4_drift_68 : decode cX4_drift 68 = .ok (.aload_n 0, 1) := by decide +kernel
theorem dX4_drift_69 : decode cX4_drift 69 = .ok (.sipush 156, 3) := by decide +kernel
theorem dX4_drift_72 : decode cX4_drift 72 = .ok (.iload 4, 2) := by decide +kernel
theorem dX4_drift_74 : decode cX4_drift 74 = .ok (.bipush 16, 2) := by decide +kernel
theorem dX4_drift_76 : decode cX4_drift 76 = .ok (.ishr, 1) := by decide +kernel
theorem dX4_drift_77 : decode cX4_drift 77 = .ok (.sipush 32767, 3) := by decide +kernel
theorem dX4_drift_80 : decode cX4_drift 80 = .ok (.iand, 1) := by decide +kernel
theorem dX4_drift_81 : decode cX4_drift 81 = .ok (.sipush 204, 3) := by decide +kernel
theorem dX4_drift_84 : decode cX4_drift 84 = .ok (.irem, 1) := by decide +kernel
theorem dX4_drift_85 : decode cX4_drift 85 = .ok (.iconst 0, 1) := by decide +kernel
theorem dX4_drift_86 : decode cX4_drift 86 = .ok (.invokevirtual 137, 3) := by decide +kernel
theorem dX4_drift_89 : decode cX4_drift 89 = .ok (.aload_n 0, 1) := by decide +kernel
theorem dX4_drift_90 : decode cX4_drift 90 = .ok (.sipush 156, 3) := by decide +kernel
theorem dX4_drift_93 : decode cX4_drift 93 = .ok (.invokevirtual 141, 3) := by decide +kernel
theorem dX4_drift_96 : decode cX4_drift 96 = .ok (.iinc 5 1, 3) := by decide +kernel
theorem dX4_drift_99 : decode cX4_drift 99 = .ok (.goto (-48), 3) := by decide +kernel
theorem dX4_drift_102 : decode cX4_drift 102 = .ok (.iload_n 3, 1) := by decide +kernel
theorem dX4_drift_103 : decode cX4_drift 103 = .ok (.ifCond .ne 22, 3) := by decide +kernel
theorem dX4_drift_106 : decode cX4_drift 106 = .ok (.aload_n 0, 1) := by decide +kernel
theorem dX4_drift_107 : decode cX4_drift 107 = .ok (.getfield 7, 3) := by decide +kernel
theorem dX4_drift_110 : decode cX4_drift 110 = .ok (.sipush 193, 3) := by decide +kernel
theorem dX4_drift_113 : decode cX4_drift 113 = .ok (.iaload, 1) := by decide +kernel
theorem dX4_drift_114 : decode cX4_drift 114 = .ok (.aload_n 0, 1) := by decide +kernel
theorem dX4_drift_115 : decode cX4_drift 115 = .ok (.getfield 7, 3) := by decide +kernel
theorem dX4_drift_118 : decode cX4_drift 118 = .ok (.bipush 37, 2) := by decide +kernel
theorem dX4_drift_120 : decode cX4_drift 120 = .ok (.iaload, 1) := by decide +kernel
theorem dX4_drift_121 : decode cX4_drift 121 = .ok (.isub, 1) := by decide +kernel
theorem dX4_drift_122 : decode cX4_drift 122 = .ok (.goto 10, 3) := by decide +kernel
theorem dX4_drift_125 : decode cX4_drift 125 = .ok (.aload_n 0, 1) := by decide +kernel
theorem dX4_drift_126 : decode cX4_drift 126 = .ok (.sipush 156, 3) := by decide +kernel
theorem dX4_drift_129 : decode cX4_drift 129 = .ok (.invokevirtual 191, 3) := by decide +kernel
theorem dX4_drift_132 : decode cX4_drift 132 = .ok (.ireturn, 1) := by decide +kernel
theorem dX4_keep_0 : decode cX4_keep 0 = .ok (.iload_n 1, 1) := by decide +kernel
theorem dX4_keep_1 : decode cX4_keep 1 = .ok (.i2l, 1) := by decide +kernel
theorem dX4_keep_2 : decode cX4_keep 2 = .ok (.lconst 0, 1) := by decide +kernel
theorem dX4_keep_3 : decode cX4_keep 3 = .ok (.lconst 1, 1) := by decide +kernel
theorem dX4_keep_4 : decode cX4_keep 4 = .ok (.invokestatic 53, 3) := by decide +kernel
theorem dX4_keep_7 : decode cX4_keep 7 = .ok (.ifCond .ne 5, 3) := by decide +kernel
theorem dX4_keep_10 : decode cX4_keep 10 = .ok (.iconst (-1), 1) := by decide +kernel
theorem dX4_keep_11 : decode cX4_keep 11 = .ok (.ireturn, 1) := by decide +kernel
theorem dX4_keep_12 : decode cX4_keep 12 = .ok (.aload_n 0, 1) := by decide +kernel
theorem dX4_keep_13 : decode cX4_keep 13 = .ok (.iconst 0, 1) := by decide +kernel
theorem dX4_keep_14 : decode cX4_keep 14 = .ok (.bipush 39, 2) := by decide +kernel
theorem dX4_keep_16 : decode cX4_keep 16 = .ok (.iload_n 1, 1) := by decide +kernel
theorem dX4_keep_17 : decode cX4_keep 17 = .ok (.iconst 1, 1) := by decide +kernel
theorem dX4_keep_18 : decode cX4_keep 18 = .ok (.iadd, 1) := by decide +kernel
theorem dX4_keep_19 : decode cX4_keep 19 = .ok (.imul, 1) := by decide +kernel
theorem dX4_keep_20 : decode cX4_keep 20 = .ok (.invokevirtual 176, 3) := by decide +kernel
theorem dX4_keep_23 : decode cX4_keep 23 = .ok (.aload_n 0, 1) := by decide +kernel
theorem dX4_keep_24 : decode cX4_keep 24 = .ok (.getfield 38, 3) := by decide +kernel
theorem dX4_keep_27 : decode cX4_keep 27 = .ok (.iload_n 1, 1) := by decide +kernel
theorem dX4_keep_28 : decode cX4_keep 28 = .ok (.baload, 1) := by decide +kernel
theorem dX4_keep_29 : decode cX4_keep 29 = .ok (.ifCond .eq 7, 3) := by decide +kernel
theorem dX4_keep_32 : decode cX4_keep 32 = .ok (.iconst 1, 1) := by decide +kernel
theorem dX4_keep_33 : decode cX4_keep 33 = .ok (.goto 4, 3) := by decide +kernel
theorem dX4_keep_36 : decode cX4_keep 36 = .ok (.iconst 0, 1) := by decide +kernel
theorem dX4_keep_37 : decode cX4_keep 37 = .ok (.istore_n 2, 1) := by decide +kernel
theorem dX4_keep_38 : decode cX4_keep 38 = .ok (.aload_n 0, 1) := by decide +kernel
theorem dX4_keep_39 : decode cX4_keep 39 = .ok (.getfield 38, 3) := by decide +kernel
theorem dX4_keep_42 : decode cX4_keep 42 = .ok (.iload_n 1, 1) := by decide +kernel
theorem dX4_keep_43 : decode cX4_keep 43 = .ok (.iconst 1, 1) := by decide +kernel
theorem dX4_keep_44 : decode cX4_keep 44 = .ok (.bastore, 1) := by decide +kernel
theorem dX4_keep_45 : decode cX4_keep 45 = .ok (.iload_n 2, 1) := by decide +kernel
theorem dX4_keep_46 : decode cX4_keep 46 = .ok (.ireturn, 1) := by decide +kernel
theorem dX4_back_0 : decode cX4_back 0 = .ok (.iload_n 1, 1) := by decide +kernel
theorem dX4_back_1 : decode cX4_back 1 = .ok (.i2l, 1) := by decide +kernel
theorem dX4_back_2 : decode cX4_back 2 = .ok (.lconst 0, 1) := by decide +kernel
theorem dX4_back_3 : decode cX4_back 3 = .ok (.lconst 1, 1) := by decide +kernel
theorem dX4_back_4 : decode cX4_back 4 = .ok (.invokestatic 53, 3) := by decide +kernel
theorem dX4_back_7 : decode cX4_back 7 = .ok (.ifCond .ne 5, 3) := by decide +kernel
theorem dX4_back_10 : decode cX4_back 10 = .ok (.iconst (-1), 1) := by decide +kernel
theorem dX4_back_11 : decode cX4_back 11 = .ok (.ireturn, 1) := by decide +kernel
theorem dX4_back_12 : decode cX4_back 12 = .ok (.aload_n 0, 1) := by decide +kernel
theorem dX4_back_13 : decode cX4_back 13 = .ok (.getfield 38, 3) := by decide +kernel
theorem dX4_back_16 : decode cX4_back 16 = .ok (.iload_n 1, 1) := by decide +kernel
theorem dX4_back_17 : decode cX4_back 17 = .ok (.baload, 1) := by decide +kernel
theorem dX4_back_18 : decode cX4_back 18 = .ok (.ifCond .ne 6, 3) := by decide +kernel
theorem dX4_back_21 : decode cX4_back 21 = .ok (.bipush (-2), 2) := by decide +kernel
theorem dX4_back_23 : decode cX4_back 23 = .ok (.ireturn, 1) := by decide +kernel
theorem dX4_back_24 : decode cX4_back 24 = .ok (.aload_n 0, 1) := by decide +kernel
theorem dX4_back_25 : decode cX4_back 25 = .ok (.bipush 39, 2) := by decide +kernel
theorem dX4_back_27 : decode cX4_back 27 = .ok (.iload_n 1, 1) := by decide +kernel
theorem dX4_back_28 : decode cX4_back 28 = .ok (.iconst 1, 1) := by decide +kernel
theorem dX4_back_29 : decode cX4_back 29 = .ok (.iadd, 1) := by decide +kernel
theorem dX4_back_30 : decode cX4_back 30 = .ok (.imul, 1) := by decide +kernel
theorem dX4_back_31 : decode cX4_back 31 = .ok (.iconst 0, 1) := by decide +kernel
theorem dX4_back_32 : decode cX4_back 32 = .ok (.invokevirtual 176, 3) := by decide +kernel
theorem dX4_back_35 : decode cX4_back 35 = .ok (.aload_n 0, 1) := by decide +kernel
theorem dX4_back_36 : decode cX4_back 36 = .ok (.getfield 7, 3) := by decide +kernel
theorem dX4_back_39 : decode cX4_back 39 = .ok (.bipush 36, 2) := by decide +kernel
theorem dX4_back_41 : decode cX4_back 41 = .ok (.iaload, 1) := by decide +kernel
theorem dX4_back_42 : decode cX4_back 42 = .ok (.ireturn, 1) := by decide +kernel
theorem dX4_sheet_0 : decode cX4_sheet 0 = .ok (.iload_n 1, 1) := by decide +kernel
theorem dX4_sheet_1 : decode cX4_sheet 1 = .ok (.i2l, 1) := by decide +kernel
theorem dX4_sheet_2 : decode cX4_sheet 2 = .ok (.lconst 0, 1) := by decide +kernel
theorem dX4_sheet_3 : decode cX4_sheet 3 = .ok (.ldc2_w 153, 3) := by decide +kernel
theorem dX4_sheet_6 : decode cX4_sheet 6 = .ok (.invokestatic 53, 3) := by decide +kernel
theorem dX4_sheet_9 : decode cX4_sheet 9 = .ok (.ifCond .eq 21, 3) := by decide +kernel
theorem dX4_sheet_12 : decode cX4_sheet 12 = .ok (.iload_n 2, 1) := by decide +kernel
theorem dX4_sheet_13 : decode cX4_sheet 13 = .ok (.i2l, 1) := by decide +kernel
theorem dX4_sheet_14 : decode cX4_sheet 14 = .ok (.lconst 0, 1) := by decide +kernel
theorem dX4_sheet_15 : decode cX4_sheet 15 = .ok (.ldc2_w 228, 3) := by decide +kernel
theorem dX4_sheet_18 : decode cX4_sheet 18 = .ok (.invokestatic 53, 3) := by decide +kernel
theorem dX4_sheet_21 : decode cX4_sheet 21 = .ok (.ifCond .eq 9, 3) := by decide +kernel
theorem dX4_sheet_24 : decode cX4_sheet 24 = .ok (.iload_n 3, 1) := by decide +kernel
theorem dX4_sheet_25 : decode cX4_sheet 25 = .ok (.bipush 40, 2) := by decide +kernel
theorem dX4_sheet_27 : decode cX4_sheet 27 = .ok (.if_icmp .le 5, 3) := by decide +kernel
theorem dX4_sheet_30 : decode cX4_sheet 30 = .ok (.iconst (-1), 1) := by decide +kernel
theorem dX4_sheet_31 : decode cX4_sheet 31 = .ok (.ireturn, 1) := by decide +kernel
theorem dX4_sheet_32 : decode cX4_sheet 32 = .ok (.iload_n 3, 1) := by decide +kernel
theorem dX4_sheet_33 : decode cX4_sheet 33 = .ok (.ifCond .ge 6, 3) := by decide +kernel
theorem dX4_sheet_36 : decode cX4_sheet 36 = .ok (.bipush (-14), 2) := by decide +kernel
theorem dX4_sheet_38 : decode cX4_sheet 38 = .ok (.ireturn, 1) := by decide +kernel
theorem dX4_sheet_39 : decode cX4_sheet 39 = .ok (.aload_n 0, 1) := by decide +kernel
theorem dX4_sheet_40 : decode cX4_sheet 40 = .ok (.getfield 42, 3) := by decide +kernel
theorem dX4_sheet_43 : decode cX4_sheet 43 = .ok (.iload_n 1, 1) := by decide +kernel
theorem dX4_sheet_44 : decode cX4_sheet 44 = .ok (.iload_n 2, 1) := by decide +kernel
theorem dX4_sheet_45 : decode cX4_sheet 45 = .ok (.iastore, 1) := by decide +kernel
theorem dX4_sheet_46 : decode cX4_sheet 46 = .ok (.aload_n 0, 1) := by decide +kernel
theorem dX4_sheet_47 : decode cX4_sheet 47 = .ok (.getfield 45, 3) := by decide +kernel
theorem dX4_sheet_50 : decode cX4_sheet 50 = .ok (.iload_n 1, 1) := by decide +kernel
theorem dX4_sheet_51 : decode cX4_sheet 51 = .ok (.iload_n 3, 1) := by decide +kernel
theorem dX4_sheet_52 : decode cX4_sheet 52 = .ok (.iastore, 1) := by decide +kernel
theorem dX4_sheet_53 : decode cX4_sheet 53 = .ok (.iconst 0, 1) := by decide +kernel
theorem dX4_sheet_54 : decode cX4_sheet 54 = .ok (.istore 4, 2) := by decide +kernel
theorem dX4_sheet_56 : decode cX4_sheet 56 = .ok (.iload 4, 2) := by decide +kernel
theorem dX4_sheet_58 : decode cX4_sheet 58 = .ok (.bipush 40, 2) := by decide +kernel
theorem dX4_sheet_60 : decode cX4_sheet 60 = .ok (.if_icmp .ge 22, 3) := by decide +kernel
theorem dX4_sheet_63 : decode cX4_sheet 63 = .ok (.aload_n 0, 1) := by decide +kernel
theorem dX4_sheet_64 : decode cX4_sheet 64 = .ok (.getfield 48, 3) := by decide +kernel
theorem dX4_sheet_67 : decode cX4_sheet 67 = .ok (.bipush 40, 2) := by decide +kernel
theorem dX4_sheet_69 : decode cX4_sheet 69 = .ok (.iload_n 1, 1) := by decide +kernel
theorem dX4_sheet_70 : decode cX4_sheet 70 = .ok (.imul, 1) := by decide +kernel
theorem dX4_sheet_71 : decode cX4_sheet 71 = .ok (.iload 4, 2) := by decide +kernel
theorem dX4_sheet_73 : decode cX4_sheet 73 = .ok (.iadd, 1) := by decide +kernel
theorem dX4_sheet_74 : decode cX4_sheet 74 = .ok (.iconst 0, 1) := by decide +kernel
theorem dX4_sheet_75 : decode cX4_sheet 75 = .ok (.iastore, 1) := by decide +kernel
theorem dX4_sheet_76 : decode cX4_sheet 76 = .ok (.iinc 4 1, 3) := by decide +kernel
theorem dX4_sheet_79 : decode cX4_sheet 79 = .ok (.goto (-23), 3) := by decide +kernel
theorem dX4_sheet_82 : decode cX4_sheet 82 = .ok (.iconst 1, 1) := by decide +kernel
theorem dX4_sheet_83 : decode cX4_sheet 83 = .ok (.ireturn, 1) := by decide +kernel
theorem dX4_lay_0 : decode cX4_lay 0 = .ok (.iload_n 1, 1) := by decide +kernel
theorem dX4_lay_1 : decode cX4_lay 1 = .ok (.i2l, 1) := by decide +kernel
theorem dX4_lay_2 : decode cX4_lay 2 = .ok (.lconst 0, 1) := by decide +kernel
theorem dX4_lay_3 : decode cX4_lay 3 = .ok (.ldc2_w 153, 3) := by decide +kernel
theorem dX4_lay_6 : decode cX4_lay 6 = .ok (.invokestatic 53, 3) := by decide +kernel
theorem dX4_lay_9 : decode cX4_lay 9 = .ok (.ifCond .ne 5, 3) := by decide +kernel
theorem dX4_lay_12 : decode cX4_lay 12 = .ok (.iconst (-1), 1) := by decide +kernel
theorem dX4_lay_13 : decode cX4_lay 13 = .ok (.ireturn, 1) := by decide +kernel
theorem dX4_lay_14 : decode cX4_lay 14 = .ok (.aload_n 0, 1) := by decide +kernel
theorem dX4_lay_15 : decode cX4_lay 15 = .ok (.getfield 42, 3) := by decide +kernel
theorem dX4_lay_18 : decode cX4_lay 18 = .ok (.iload_n 1, 1) := by decide +kernel
theorem dX4_lay_19 : decode cX4_lay 19 = .ok (.iaload, 1) := by decide +kernel
theorem dX4_lay_20 : decode cX4_lay 20 = .ok (.bipush (-4), 2) := by decide +kernel
theorem dX4_lay_22 : decode cX4_lay 22 = .ok (.if_icmp .ne 6, 3) := by decide +kernel
theorem dX4_lay_25 : decode cX4_lay 25 = .ok (.bipush (-11), 2) := by decide +kernel
theorem dX4_lay_27 : decode cX4_lay 27 = .ok (.ireturn, 1) := by decide +kernel
theorem dX4_lay_28 : decode cX4_lay 28 = .ok (.iload_n 2, 1) := by decide +kernel
theorem dX4_lay_29 : decode cX4_lay 29 = .ok (.i2l, 1) := by decide +kernel
theorem dX4_lay_30 : decode cX4_lay 30 = .ok (.lconst 0, 1) := by decide +kernel
theorem dX4_lay_31 : decode cX4_lay 31 = .ok (.aload_n 0, 1) := by decide +kernel
theorem dX4_lay_32 : decode cX4_lay 32 = .ok (.getfield 45, 3) := by decide +kernel
theorem dX4_lay_35 : decode cX4_lay 35 = .ok (.iload_n 1, 1) := by decide +kernel
theorem dX4_lay_36 : decode cX4_lay 36 = .ok (.iaload, 1) := by decide +kernel
theorem dX4_lay_37 : decode cX4_lay 37 = .ok (.iconst 1, 1) := by decide +kernel
theorem dX4_lay_38 : decode cX4_lay 38 = .ok (.isub, 1) := by decide +kernel
theorem dX4_lay_39 : decode cX4_lay 39 = .ok (.i2l, 1) := by decide +kernel
theorem dX4_lay_40 : decode cX4_lay 40 = .ok (.invokestatic 53, 3) := by decide +kernel
theorem dX4_lay_43 : decode cX4_lay 43 = .ok (.ifCond .ne 6, 3) := by decide +kernel
theorem dX4_lay_46 : decode cX4_lay 46 = .ok (.bipush (-12), 2) := by decide +kernel
theorem dX4_lay_48 : decode cX4_lay 48 = .ok (.ireturn, 1) := by decide +kernel
theorem dX4_lay_49 : decode cX4_lay 49 = .ok (.aload_n 0, 1) := by decide +kernel
theorem dX4_lay_50 : decode cX4_lay 50 = .ok (.getfield 48, 3) := by decide +kernel
theorem dX4_lay_53 : decode cX4_lay 53 = .ok (.bipush 40, 2) := by decide +kernel
theorem dX4_lay_55 : decode cX4_lay 55 = .ok (.iload_n 1, 1) := by decide +kernel
theorem dX4_lay_56 : decode cX4_lay 56 = .ok (.imul, 1) := by decide +kernel
theorem dX4_lay_57 : decode cX4_lay 57 = .ok (.iload_n 2, 1) := by decide +kernel
theorem dX4_lay_58 : decode cX4_lay 58 = .ok (.iadd, 1) := by decide +kernel
theorem dX4_lay_59 : decode cX4_lay 59 = .ok (.aload_n 0, 1) := by decide +kernel
theorem dX4_lay_60 : decode cX4_lay 60 = .ok (.getfield 42, 3) := by decide +kernel
theorem dX4_lay_63 : decode cX4_lay 63 = .ok (.iload_n 1, 1) := by decide +kernel
theorem dX4_lay_64 : decode cX4_lay 64 = .ok (.iaload, 1) := by decide +kernel
theorem dX4_lay_65 : decode cX4_lay 65 = .ok (.ifCond .ne 13, 3) := by decide +kernel
theorem dX4_lay_68 : decode cX4_lay 68 = .ok (.iload_n 3, 1) := by decide +kernel
theorem dX4_lay_69 : decode cX4_lay 69 = .ok (.bipush 24, 2) := by decide +kernel
theorem dX4_lay_71 : decode cX4_lay 71 = .ok (.ishl, 1) := by decide +kernel
theorem dX4_lay_72 : decode cX4_lay 72 = .ok (.bipush 24, 2) := by decide +kernel
theorem dX4_lay_74 : decode cX4_lay 74 = .ok (.ishr, 1) := by decide +kernel
theorem dX4_lay_75 : decode cX4_lay 75 = .ok (.goto 24, 3) := by decide +kernel
theorem dX4_lay_78 : decode cX4_lay 78 = .ok (.aload_n 0, 1) := by decide +kernel
theorem dX4_lay_79 : decode cX4_lay 79 = .ok (.getfield 42, 3) := by decide +kernel
theorem dX4_lay_82 : decode cX4_lay 82 = .ok (.iload_n 1, 1) := by decide +kernel
theorem dX4_lay_83 : decode cX4_lay 83 = .ok (.iaload, 1) := by decide +kernel
theorem dX4_lay_84 : decode cX4_lay 84 = .ok (.iconst 1, 1) := by decide +kernel
theorem dX4_lay_85 : decode cX4_lay 85 = .ok (.if_icmp .ne 13, 3) := by decide +kernel
theorem dX4_lay_88 : decode cX4_lay 88 = .ok (.iload_n 3, 1) := by decide +kernel
theorem dX4_lay_89 : decode cX4_lay 89 = .ok (.bipush 16, 2) := by decide +kernel
theorem dX4_lay_91 : decode cX4_lay 91 = .ok (.ishl, 1) := by decide +kernel
theorem dX4_lay_92 : decode cX4_lay 92 = .ok (.bipush 16, 2) := by decide +kernel
theorem dX4_lay_94 : decode cX4_lay 94 = .ok (.ishr, 1) := by decide +kernel
theorem dX4_lay_95 : decode cX4_lay 95 = .ok (.goto 4, 3) := by decide +kernel
theorem dX4_lay_98 : decode cX4_lay 98 = .ok (.iload_n 3, 1) := by decide +kernel
theorem dX4_lay_99 : decode cX4_lay 99 = .ok (.iastore, 1) := by decide +kernel
theorem dX4_lay_100 : decode cX4_lay 100 = .ok (.iconst 1, 1) := by decide +kernel
theorem dX4_lay_101 : decode cX4_lay 101 = .ok (.ireturn, 1) := by decide +kernel
theorem dX4_read_0 : decode cX4_read 0 = .ok (.iload_n 1, 1) := by decide +kernel
theorem dX4_read_1 : decode cX4_read 1 = .ok (.i2l, 1) := by decide +kernel
theorem dX4_read_2 : decode cX4_read 2 = .ok (.lconst 0, 1) := by decide +kernel
theorem dX4_read_3 : decode cX4_read 3 = .ok (.ldc2_w 153, 3) := by decide +kernel
theorem dX4_read_6 : decode cX4_read 6 = .ok (.invokestatic 53, 3) := by decide +kernel
theorem dX4_read_9 : decode cX4_read 9 = .ok (.ifCond .eq 28, 3) := by decide +kernel
theorem dX4_read_12 : decode cX4_read 12 = .ok (.iload_n 2, 1) := by decide +kernel
theorem dX4_read_13 : decode cX4_read 13 = .ok (.i2l, 1) := by decide +kernel
theorem dX4_read_14 : decode cX4_read 14 = .ok (.lconst 0, 1) := by decide +kernel
theorem dX4_read_15 : decode cX4_read 15 = .ok (.ldc2_w 228, 3) := by decide +kernel
theorem dX4_read_18 : decode cX4_read 18 = .ok (.invokestatic 53, 3) := by decide +kernel
theorem dX4_read_21 : decode cX4_read 21 = .ok (.ifCond .eq 16, 3) := by decide +kernel
theorem dX4_read_24 : decode cX4_read 24 = .ok (.iload 4, 2) := by decide +kernel
theorem dX4_read_26 : decode cX4_read 26 = .ok (.i2l, 1) := by decide +kernel
theorem dX4_read_27 : decode cX4_read 27 = .ok (.lconst 0, 1) := by decide +kernel
theorem dX4_read_28 : decode cX4_read 28 = .ok (.ldc2_w 212, 3) := by decide +kernel
theorem dX4_read_31 : decode cX4_read 31 = .ok (.invokestatic 53, 3) := by decide +kernel
theorem dX4_read_34 : decode cX4_read 34 = .ok (.ifCond .ne 5, 3) := by decide +kernel
theorem dX4_read_37 : decode cX4_read 37 = .ok (.iconst (-1), 1) := by decide +kernel
theorem dX4_read_38 : decode cX4_read 38 = .ok (.ireturn, 1) := by decide +kernel
theorem dX4_read_39 : decode cX4_read 39 = .ok (.aload_n 0, 1) := by decide +kernel
theorem dX4_read_40 : decode cX4_read 40 = .ok (.iconst 0, 1) := by decide +kernel
theorem dX4_read_41 : decode cX4_read 41 = .ok (.bipush 117, 2) := by decide +kernel
theorem dX4_read_43 : decode cX4_read 43 = .ok (.invokevirtual 176, 3) := by decide +kernel
theorem dX4_read_46 : decode cX4_read 46 = .ok (.iconst 0, 1) := by decide +kernel
theorem dX4_read_47 : decode cX4_read 47 = .ok (.istore 5, 2) := by decide +kernel
theorem dX4_read_49 : decode cX4_read 49 = .ok (.iconst 0, 1) := by decide +kernel
theorem dX4_read_50 : decode cX4_read 50 = .ok (.istore 6, 2) := by decide +kernel
theorem dX4_read_52 : decode cX4_read 52 = .ok (.iconst 0, 1) := by decide +kernel
theorem dX4_read_53 : decode cX4_read 53 = .ok (.istore 7, 2) := by decide +kernel
theorem dX4_read_55 : decode cX4_read 55 = .ok (.iload 7, 2) := by decide +kernel
theorem dX4_read_57 : decode cX4_read 57 = .ok (.iload 4, 2) := by decide +kernel
theorem dX4_read_59 : decode cX4_read 59 = .ok (.if_icmp .ge 118, 3) := by decide +kernel
theorem dX4_read_62 : decode cX4_read 62 = .ok (.iload 5, 2) := by decide +kernel
theorem dX4_read_64 : decode cX4_read 64 = .ok (.ifCond .ne 113, 3) := by decide +kernel
theorem dX4_read_67 : decode cX4_read 67 = .ok (.aload_n 0, 1) := by decide +kernel
theorem dX4_read_68 : decode cX4_read 68 = .ok (.getfield 42, 3) := by decide +kernel
theorem dX4_read_71 : decode cX4_read 71 = .ok (.iload_n 1, 1) := by decide +kernel
theorem dX4_read_72 : decode cX4_read 72 = .ok (.iaload, 1) := by decide +kernel
theorem dX4_read_73 : decode cX4_read 73 = .ok (.bipush (-4), 2) := by decide +kernel
theorem dX4_read_75 : decode cX4_read 75 = .ok (.if_icmp .ne 7, 3) := by decide +kernel
theorem dX4_read_78 : decode cX4_read 78 = .ok (.iconst 1, 1) := by decide +kernel
theorem dX4_read_79 : decode cX4_read 79 = .ok (.goto 44, 3) := by decide +kernel
theorem dX4_read_82 : decode cX4_read 82 = .ok (.aload_n 0, 1) := by decide +kernel
theorem dX4_read_83 : decode cX4_read 83 = .ok (.getfield 42, 3) := by decide +kernel
theorem dX4_read_86 : decode cX4_read 86 = .ok (.iload_n 1, 1) := by decide +kernel
theorem dX4_read_87 : decode cX4_read 87 = .ok (.iaload, 1) := by decide +kernel
theorem dX4_read_88 : decode cX4_read 88 = .ok (.iload_n 2, 1) := by decide +kernel
theorem dX4_read_89 : decode cX4_read 89 = .ok (.if_icmp .eq 7, 3) := by decide +kernel
theorem dX4_read_92 : decode cX4_read 92 = .ok (.iconst 3, 1) := by decide +kernel
theorem dX4_read_93 : decode cX4_read 93 = .ok (.goto 30, 3) := by decide +kernel
theorem dX4_read_96 : decode cX4_read 96 = .ok (.iload_n 3, 1) := by decide +kernel
theorem dX4_read_97 : decode cX4_read 97 = .ok (.i2l, 1) := by decide +kernel
theorem dX4_read_98 : decode cX4_read 98 = .ok (.iload 7, 2) := by decide +kernel
theorem dX4_read_100 : decode cX4_read 100 = .ok (.i2l, 1) := by decide +kernel
theorem dX4_read_101 : decode cX4_read 101 = .ok (.ladd, 1) := by decide +kernel
theorem dX4_read_102 : decode cX4_read 102 = .ok (.lconst 0, 1) := by decide +kernel
theorem dX4_read_103 : decode cX4_read 103 = .ok (.aload_n 0, 1) := by decide +kernel
theorem dX4_read_104 : decode cX4_read 104 = .ok (.getfield 45, 3) := by decide +kernel
theorem dX4_read_107 : decode cX4_read 107 = .ok (.iload_n 1, 1) := by decide +kernel
theorem dX4_read_108 : decode cX4_read 108 = .ok (.iaload, 1) := by decide +kernel
theorem dX4_read_109 : decode cX4_read 109 = .ok (.iconst 1, 1) := by decide +kernel
theorem dX4_read_110 : decode cX4_read 110 = .ok (.isub, 1) := by decide +kernel
theorem dX4_read_111 : decode cX4_read 111 = .ok (.i2l, 1) := by decide +kernel
theorem dX4_read_112 : decode cX4_read 112 = .ok (.invokestatic 53, 3) := by decide +kernel
theorem dX4_read_115 : decode cX4_read 115 = .ok (.ifCond .ne 7, 3) := by decide +kernel
theorem dX4_read_118 : decode cX4_read 118 = .ok (.iconst 2, 1) := by decide +kernel
theorem dX4_read_119 : decode cX4_read 119 = .ok (.goto 4, 3) := by decide +kernel
theorem dX4_read_122 : decode cX4_read 122 = .ok (.iconst 0, 1) := by decide +kernel
theorem dX4_read_123 : decode cX4_read 123 = .ok (.istore 5, 2) := by decide +kernel
theorem dX4_read_125 : decode cX4_read 125 = .ok (.iload 5, 2) := by decide +kernel
theorem dX4_read_127 : decode cX4_read 127 = .ok (.ifCond .ne 44, 3) := by decide +kernel
theorem dX4_read_130 : decode cX4_read 130 = .ok (.bipush 40, 2) := by decide +kernel
theorem dX4_read_132 : decode cX4_read 132 = .ok (.iload_n 1, 1) := by decide +kernel
theorem dX4_read_133 : decode cX4_read 133 = .ok (.imul, 1) := by decide +kernel
theorem dX4_read_134 : decode cX4_read 134 = .ok (.iload_n 3, 1) := by decide +kernel
theorem dX4_read_135 : decode cX4_read 135 = .ok (.iadd, 1) := by decide +kernel
theorem dX4_read_136 : decode cX4_read 136 = .ok (.iload 7, 2) := by decide +kernel
theorem dX4_read_138 : decode cX4_read 138 = .ok (.iadd, 1) := by decide +kernel
theorem dX4_read_139 : decode cX4_read 139 = .ok (.istore 8, 2) := by decide +kernel
theorem dX4_read_141 : decode cX4_read 141 = .ok (.aload_n 0, 1) := by decide +kernel
theorem dX4_read_142 : decode cX4_read 142 = .ok (.aload_n 0, 1) := by decide +kernel
theorem dX4_read_143 : decode cX4_read 143 = .ok (.getfield 48, 3) := by decide +kernel
theorem dX4_read_146 : decode cX4_read 146 = .ok (.iload 8, 2) := by decide +kernel
theorem dX4_read_148 : decode cX4_read 148 = .ok (.iaload, 1) := by decide +kernel
theorem dX4_read_149 : decode cX4_read 149 = .ok (.invokevirtual 167, 3) := by decide +kernel
theorem dX4_read_152 : decode cX4_read 152 = .ok (.ifCond .ge 16, 3) := by decide +kernel
theorem dX4_read_155 : decode cX4_read 155 = .ok (.aload_n 0, 1) := by decide +kernel
theorem dX4_read_156 : decode cX4_read 156 = .ok (.bipush 117, 2) := by decide +kernel
theorem dX4_read_158 : decode cX4_read 158 = .ok (.iconst 0, 1) := by decide +kernel
theorem dX4_read_159 : decode cX4_read 159 = .ok (.invokevirtual 176, 3) := by decide +kernel
theorem dX4_read_162 : decode cX4_read 162 = .ok (.bipush (-20), 2) := by decide +kernel
theorem dX4_read_164 : decode cX4_read 164 = .ok (.iload 6, 2) := by decide +kernel
theorem dX4_read_166 : decode cX4_read 166 = .ok (.isub, 1) := by decide +kernel
theorem dX4_read_167 : decode cX4_read 167 = .ok (.ireturn, 1) := by decide +kernel
theorem dX4_read_168 : decode cX4_read 168 = .ok (.iinc 6 1, 3) := by decide +kernel
theorem dX4_read_171 : decode cX4_read 171 = .ok (.iinc 7 1, 3) := by decide +kernel
theorem dX4_read_174 : decode cX4_read 174 = .ok (.goto (-119), 3) := by decide +kernel
theorem dX4_read_177 : decode cX4_read 177 = .ok (.aload_n 0, 1) := by decide +kernel
theorem dX4_read_178 : decode cX4_read 178 = .ok (.iload 5, 2) := by decide +kernel
theorem dX4_read_180 : decode cX4_read 180 = .ok (.putfield 230, 3) := by decide +kernel
theorem dX4_read_183 : decode cX4_read 183 = .ok (.iload 6, 2) := by decide +kernel
theorem dX4_read_185 : decode cX4_read 185 = .ok (.ireturn, 1) := by decide +kernel
theorem dX4_torn_0 : decode cX4_torn 0 = .ok (.aload_n 0, 1) := by decide +kernel
theorem dX4_torn_1 : decode cX4_torn 1 = .ok (.getfield 230, 3) := by decide +kernel
theorem dX4_torn_4 : decode cX4_torn 4 = .ok (.ireturn, 1) := by decide +kernel
theorem dX4_count_0 : decode cX4_count 0 = .ok (.iconst 0, 1) := by decide +kernel
theorem dX4_count_1 : decode cX4_count 1 = .ok (.istore_n 2, 1) := by decide +kernel
theorem dX4_count_2 : decode cX4_count 2 = .ok (.iconst 0, 1) := by decide +kernel
theorem dX4_count_3 : decode cX4_count 3 = .ok (.istore_n 3, 1) := by decide +kernel
theorem dX4_count_4 : decode cX4_count 4 = .ok (.iconst 0, 1) := by decide +kernel
theorem dX4_count_5 : decode cX4_count 5 = .ok (.istore 4, 2) := by decide +kernel
theorem dX4_count_7 : decode cX4_count 7 = .ok (.iload 4, 2) := by decide +kernel
theorem dX4_count_9 : decode cX4_count 9 = .ok (.aload_n 0, 1) := by decide +kernel
theorem dX4_count_10 : decode cX4_count 10 = .ok (.getfield 7, 3) := by decide +kernel
theorem dX4_count_13 : decode cX4_count 13 = .ok (.bipush 16, 2) := by decide +kernel
theorem dX4_count_15 : decode cX4_count 15 = .ok (.iaload, 1) := by decide +kernel
theorem dX4_count_16 : decode cX4_count 16 = .ok (.if_icmp .ge 34, 3) := by decide +kernel
theorem dX4_count_19 : decode cX4_count 19 = .ok (.iload_n 2, 1) := by decide +kernel
theorem dX4_count_20 : decode cX4_count 20 = .ok (.aload_n 0, 1) := by decide +kernel
theorem dX4_count_21 : decode cX4_count 21 = .ok (.getfield 7, 3) := by decide +kernel
theorem dX4_count_24 : decode cX4_count 24 = .ok (.iconst 4, 1) := by decide +kernel
theorem dX4_count_25 : decode cX4_count 25 = .ok (.iload 4, 2) := by decide +kernel
theorem dX4_count_27 : decode cX4_count 27 = .ok (.iadd, 1) := by decide +kernel
theorem dX4_count_28 : decode cX4_count 28 = .ok (.iaload, 1) := by decide +kernel
theorem dX4_count_29 : decode cX4_count 29 = .ok (.iadd, 1) := by decide +kernel
theorem dX4_count_30 : decode cX4_count 30 = .ok (.istore_n 2, 1) := by decide +kernel
theorem dX4_count_31 : decode cX4_count 31 = .ok (.iload_n 3, 1) := by decide +kernel
theorem dX4_count_32 : decode cX4_count 32 = .ok (.aload_n 0, 1) := by decide +kernel
theorem dX4_count_33 : decode cX4_count 33 = .ok (.getfield 7, 3) := by decide +kernel
theorem dX4_count_36 : decode cX4_count 36 = .ok (.bipush 8, 2) := by decide +kernel
theorem dX4_count_38 : decode cX4_count 38 = .ok (.iload 4, 2) := by decide +kernel
theorem dX4_count_40 : decode cX4_count 40 = .ok (.iadd, 1) := by decide +kernel
theorem dX4_count_41 : decode cX4_count 41 = .ok (.iaload, 1) := by decide +kernel
theorem dX4_count_42 : decode cX4_count 42 = .ok (.iadd, 1) := by decide +kernel
theorem dX4_count_43 : decode cX4_count 43 = .ok (.istore_n 3, 1) := by decide +kernel
theorem dX4_count_44 : decode cX4_count 44 = .ok (.iinc 4 1, 3) := by decide +kernel
theorem dX4_count_47 : decode cX4_count 47 = .ok (.goto (-40), 3) := by decide +kernel
theorem dX4_count_50 : decode cX4_count 50 = .ok (.iload_n 1, 1) := by decide +kernel
theorem dX4_count_51 : decode cX4_count 51 = .ok (.tableswitch 104 0 5 #[37, 42, 72, 77, 100, 102], 37) := by decide +kernel
theorem dX4_count_88 : decode cX4_count 88 = .ok (.aload_n 0, 1) := by decide +kernel
theorem dX4_count_89 : decode cX4_count 89 = .ok (.getfield 120, 3) := by decide +kernel
theorem dX4_count_92 : decode cX4_count 92 = .ok (.ireturn, 1) := by decide +kernel
theorem dX4_count_93 : decode cX4_count 93 = .ok (.aload_n 0, 1) := by decide +kernel
theorem dX4_count_94 : decode cX4_count 94 = .ok (.getfield 38, 3) := by decide +kernel
theorem dX4_count_97 : decode cX4_count 97 = .ok (.iconst 0, 1) := by decide +kernel
theorem dX4_count_98 : decode cX4_count 98 = .ok (.baload, 1) := by decide +kernel
theorem dX4_count_99 : decode cX4_count 99 = .ok (.ifCond .eq 7, 3) := by decide +kernel
theorem dX4_count_102 : decode cX4_count 102 = .ok (.iconst 1, 1) := by decide +kernel
theorem dX4_count_103 : decode cX4_count 103 = .ok (.goto 4, 3) := by decide +kernel
theorem dX4_count_106 : decode cX4_count 106 = .ok (.iconst 0, 1) := by decide +kernel
theorem dX4_count_107 : decode cX4_count 107 = .ok (.aload_n 0, 1) := by decide +kernel
theorem dX4_count_108 : decode cX4_count 108 = .ok (.getfield 38, 3) := by decide +kernel
theorem dX4_count_111 : decode cX4_count 111 = .ok (.iconst 1, 1) := by decide +kernel
theorem dX4_count_112 : decode cX4_count 112 = .ok (.baload, 1) := by decide +kernel
theorem dX4_count_113 : decode cX4_count 113 = .ok (.ifCond .eq 7, 3) := by decide +kernel
theorem dX4_count_116 : decode cX4_count 116 = .ok (.iconst 1, 1) := by decide +kernel
theorem dX4_count_117 : decode cX4_count 117 = .ok (.goto 4, 3) := by decide +kernel
theorem dX4_count_120 : decode cX4_count 120 = .ok (.iconst 0, 1) := by decide +kernel
theorem dX4_count_121 : decode cX4_count 121 = .ok (.iadd, 1) := by decide +kernel
theorem dX4_count_122 : decode cX4_count 122 = .ok (.ireturn, 1) := by decide +kernel
theorem dX4_count_123 : decode cX4_count 123 = .ok (.aload_n 0, 1) := by decide +kernel
theorem dX4_count_124 : decode cX4_count 124 = .ok (.getfield 57, 3) := by decide +kernel
theorem dX4_count_127 : decode cX4_count 127 = .ok (.ireturn, 1) := by decide +kernel
theorem dX4_count_128 : decode cX4_count 128 = .ok (.aload_n 0, 1) := by decide +kernel
theorem dX4_count_129 : decode cX4_count 129 = .ok (.getfield 42, 3) := by decide +kernel
theorem dX4_count_132 : decode cX4_count 132 = .ok (.iconst 0, 1) := by decide +kernel
theorem dX4_count_133 : decode cX4_count 133 = .ok (.iaload, 1) := by decide +kernel
theorem dX4_count_134 : decode cX4_count 134 = .ok (.bipush (-4), 2) := by decide +kernel
theorem dX4_count_136 : decode cX4_count 136 = .ok (.if_icmp .ne 8, 3) := by decide +kernel
theorem dX4_count_139 : decode cX4_count 139 = .ok (.bipush (-4), 2) := by decide +kernel
theorem dX4_count_141 : decode cX4_count 141 = .ok (.goto 9, 3) := by decide +kernel
theorem dX4_count_144 : decode cX4_count 144 = .ok (.aload_n 0, 1) := by decide +kernel
theorem dX4_count_145 : decode cX4_count 145 = .ok (.getfield 45, 3) := by decide +kernel
theorem dX4_count_148 : decode cX4_count 148 = .ok (.iconst 0, 1) := by decide +kernel
theorem dX4_count_149 : decode cX4_count 149 = .ok (.iaload, 1) := by decide +kernel
theorem dX4_count_150 : decode cX4_count 150 = .ok (.ireturn, 1) := by decide +kernel
theorem dX4_count_151 : decode cX4_count 151 = .ok (.iload_n 2, 1) := by decide +kernel
theorem dX4_count_152 : decode cX4_count 152 = .ok (.ireturn, 1) := by decide +kernel
theorem dX4_count_153 : decode cX4_count 153 = .ok (.iload_n 3, 1) := by decide +kernel
theorem dX4_count_154 : decode cX4_count 154 = .ok (.ireturn, 1) := by decide +kernel
theorem dX4_count_155 : decode cX4_count 155 = .ok (.iconst (-1), 1) := by decide +kernel
theorem dX4_count_156 : decode cX4_count 156 = .ok (.ireturn, 1) := by decide +kernel
theorem dJ6_bitCount_0f7a4_0 : decode cJ6_bitCount_0f7a4 0 = .ok (.iload_n 0, 1) := by decide +kernel
theorem dJ6_bitCount_0f7a4_1 : decode cJ6_bitCount_0f7a4 1 = .ok (.iload_n 0, 1) := by decide +kernel
theorem dJ6_bitCount_0f7a4_2 : decode cJ6_bitCount_0f7a4 2 = .ok (.iconst 1, 1) := by decide +kernel
theorem dJ6_bitCount_0f7a4_3 : decode cJ6_bitCount_0f7a4 3 = .ok (.iushr, 1) := by decide +kernel
theorem dJ6_bitCount_0f7a4_4 : decode cJ6_bitCount_0f7a4 4 = .ok (.ldc_w 265, 3) := by decide +kernel
theorem dJ6_bitCount_0f7a4_7 : decode cJ6_bitCount_0f7a4 7 = .ok (.iand, 1) := by decide +kernel
theorem dJ6_bitCount_0f7a4_8 : decode cJ6_bitCount_0f7a4 8 = .ok (.isub, 1) := by decide +kernel
theorem dJ6_bitCount_0f7a4_9 : decode cJ6_bitCount_0f7a4 9 = .ok (.istore_n 0, 1) := by decide +kernel
theorem dJ6_bitCount_0f7a4_10 : decode cJ6_bitCount_0f7a4 10 = .ok (.iload_n 0, 1) := by decide +kernel
theorem dJ6_bitCount_0f7a4_11 : decode cJ6_bitCount_0f7a4 11 = .ok (.ldc_w 266, 3) := by decide +kernel
theorem dJ6_bitCount_0f7a4_14 : decode cJ6_bitCount_0f7a4 14 = .ok (.iand, 1) := by decide +kernel
theorem dJ6_bitCount_0f7a4_15 : decode cJ6_bitCount_0f7a4 15 = .ok (.iload_n 0, 1) := by decide +kernel
theorem dJ6_bitCount_0f7a4_16 : decode cJ6_bitCount_0f7a4 16 = .ok (.iconst 2, 1) := by decide +kernel
theorem dJ6_bitCount_0f7a4_17 : decode cJ6_bitCount_0f7a4 17 = .ok (.iushr, 1) := by decide +kernel
theorem dJ6_bitCount_0f7a4_18 : decode cJ6_bitCount_0f7a4 18 = .ok (.ldc_w 266, 3) := by decide +kernel
theorem dJ6_bitCount_0f7a4_21 : decode cJ6_bitCount_0f7a4 21 = .ok (.iand, 1) := by decide +kernel
theorem dJ6_bitCount_0f7a4_22 : decode cJ6_bitCount_0f7a4 22 = .ok (.iadd, 1) := by decide +kernel
theorem dJ6_bitCount_0f7a4_23 : decode cJ6_bitCount_0f7a4 23 = .ok (.istore_n 0, 1) := by decide +kernel
theorem dJ6_bitCount_0f7a4_24 : decode cJ6_bitCount_0f7a4 24 = .ok (.iload_n 0, 1) := by decide +kernel
theorem dJ6_bitCount_0f7a4_25 : decode cJ6_bitCount_0f7a4 25 = .ok (.iload_n 0, 1) := by decide +kernel
theorem dJ6_bitCount_0f7a4_26 : decode cJ6_bitCount_0f7a4 26 = .ok (.iconst 4, 1) := by decide +kernel
theorem dJ6_bitCount_0f7a4_27 : decode cJ6_bitCount_0f7a4 27 = .ok (.iushr, 1) := by decide +kernel
theorem dJ6_bitCount_0f7a4_28 : decode cJ6_bitCount_0f7a4 28 = .ok (.iadd, 1) := by decide +kernel
theorem dJ6_bitCount_0f7a4_29 : decode cJ6_bitCount_0f7a4 29 = .ok (.ldc_w 267, 3) := by decide +kernel
theorem dJ6_bitCount_0f7a4_32 : decode cJ6_bitCount_0f7a4 32 = .ok (.iand, 1) := by decide +kernel
theorem dJ6_bitCount_0f7a4_33 : decode cJ6_bitCount_0f7a4 33 = .ok (.istore_n 0, 1) := by decide +kernel
theorem dJ6_bitCount_0f7a4_34 : decode cJ6_bitCount_0f7a4 34 = .ok (.iload_n 0, 1) := by decide +kernel
theorem dJ6_bitCount_0f7a4_35 : decode cJ6_bitCount_0f7a4 35 = .ok (.iload_n 0, 1) := by decide +kernel
theorem dJ6_bitCount_0f7a4_36 : decode cJ6_bitCount_0f7a4 36 = .ok (.bipush 8, 2) := by decide +kernel
theorem dJ6_bitCount_0f7a4_38 : decode cJ6_bitCount_0f7a4 38 = .ok (.iushr, 1) := by decide +kernel
theorem dJ6_bitCount_0f7a4_39 : decode cJ6_bitCount_0f7a4 39 = .ok (.iadd, 1) := by decide +kernel
theorem dJ6_bitCount_0f7a4_40 : decode cJ6_bitCount_0f7a4 40 = .ok (.istore_n 0, 1) := by decide +kernel
theorem dJ6_bitCount_0f7a4_41 : decode cJ6_bitCount_0f7a4 41 = .ok (.iload_n 0, 1) := by decide +kernel
theorem dJ6_bitCount_0f7a4_42 : decode cJ6_bitCount_0f7a4 42 = .ok (.iload_n 0, 1) := by decide +kernel
theorem dJ6_bitCount_0f7a4_43 : decode cJ6_bitCount_0f7a4 43 = .ok (.bipush 16, 2) := by decide +kernel
theorem dJ6_bitCount_0f7a4_45 : decode cJ6_bitCount_0f7a4 45 = .ok (.iushr, 1) := by decide +kernel
theorem dJ6_bitCount_0f7a4_46 : decode cJ6_bitCount_0f7a4 46 = .ok (.iadd, 1) := by decide +kernel
theorem dJ6_bitCount_0f7a4_47 : decode cJ6_bitCount_0f7a4 47 = .ok (.istore_n 0, 1) := by decide +kernel
theorem dJ6_bitCount_0f7a4_48 : decode cJ6_bitCount_0f7a4 48 = .ok (.iload_n 0, 1) := by decide +kernel
theorem dJ6_bitCount_0f7a4_49 : decode cJ6_bitCount_0f7a4 49 = .ok (.bipush 63, 2) := by decide +kernel
theorem dJ6_bitCount_0f7a4_51 : decode cJ6_bitCount_0f7a4 51 = .ok (.iand, 1) := by decide +kernel
theorem dJ6_bitCount_0f7a4_52 : decode cJ6_bitCount_0f7a4 52 = .ok (.ireturn, 1) := by decide +kernel
theorem dJ9_max_7cf53_0 : decode cJ9_max_7cf53 0 = .ok (.iload_n 0, 1) := by decide +kernel
theorem dJ9_max_7cf53_1 : decode cJ9_max_7cf53 1 = .ok (.iload_n 1, 1) := by decide +kernel
theorem dJ9_max_7cf53_2 : decode cJ9_max_7cf53 2 = .ok (.if_icmp .lt 7, 3) := by decide +kernel
theorem dJ9_max_7cf53_5 : decode cJ9_max_7cf53 5 = .ok (.iload_n 0, 1) := by decide +kernel
theorem dJ9_max_7cf53_6 : decode cJ9_max_7cf53 6 = .ok (.goto 4, 3) := by decide +kernel
theorem dJ9_max_7cf53_9 : decode cJ9_max_7cf53 9 = .ok (.iload_n 1, 1) := by decide +kernel
theorem dJ9_max_7cf53_10 : decode cJ9_max_7cf53 10 = .ok (.ireturn, 1) := by decide +kernel
theorem dJ9_min_7cf53_0 : decode cJ9_min_7cf53 0 = .ok (.iload_n 0, 1) := by decide +kernel
theorem dJ9_min_7cf53_1 : decode cJ9_min_7cf53 1 = .ok (.iload_n 1, 1) := by decide +kernel
theorem dJ9_min_7cf53_2 : decode cJ9_min_7cf53 2 = .ok (.if_icmp .gt 7, 3) := by decide +kernel
theorem dJ9_min_7cf53_5 : decode cJ9_min_7cf53 5 = .ok (.iload_n 0, 1) := by decide +kernel
theorem dJ9_min_7cf53_6 : decode cJ9_min_7cf53 6 = .ok (.goto 4, 3) := by decide +kernel
theorem dJ9_min_7cf53_9 : decode cJ9_min_7cf53 9 = .ok (.iload_n 1, 1) := by decide +kernel
theorem dJ9_min_7cf53_10 : decode cJ9_min_7cf53 10 = .ok (.ireturn, 1) := by decide +kernel
theorem dJ0_length_8abf5_0 : decode cJ0_length_8abf5 0 = .ok (.aload_n 0, 1) := by decide +kernel
theorem dJ0_length_8abf5_1 : decode cJ0_length_8abf5 1 = .ok (.getfield 9, 3) := by decide +kernel
theorem dJ0_length_8abf5_4 : decode cJ0_length_8abf5 4 = .ok (.arraylength, 1) := by decide +kernel
theorem dJ0_length_8abf5_5 : decode cJ0_length_8abf5 5 = .ok (.aload_n 0, 1) := by decide +kernel
theorem dJ0_length_8abf5_6 : decode cJ0_length_8abf5 6 = .ok (.invokevirtual 335, 3) := by decide +kernel
theorem dJ0_length_8abf5_9 : decode cJ0_length_8abf5 9 = .ok (.ishr, 1) := by decide +kernel
theorem dJ0_length_8abf5_10 : decode cJ0_length_8abf5 10 = .ok (.ireturn, 1) := by decide +kernel
theorem dJ0_charAt_5068e_0 : decode cJ0_charAt_5068e 0 = .ok (.aload_n 0, 1) := by decide +kernel
theorem dJ0_charAt_5068e_1 : decode cJ0_charAt_5068e 1 = .ok (.invokevirtual 492, 3) := by decide +kernel
theorem dJ0_charAt_5068e_4 : decode cJ0_charAt_5068e 4 = .ok (.ifCond .eq 12, 3) := by decide +kernel
theorem dJ0_charAt_5068e_7 : decode cJ0_charAt_5068e 7 = .ok (.aload_n 0, 1) := by decide +kernel
theorem dJ0_charAt_5068e_8 : decode cJ0_charAt_5068e 8 = .ok (.getfield 9, 3) := by decide +kernel
theorem dJ0_charAt_5068e_11 : decode cJ0_charAt_5068e 11 = .ok (.iload_n 1, 1) := by decide +kernel
theorem dJ0_charAt_5068e_12 : decode cJ0_charAt_5068e 12 = .ok (.invokestatic 495, 3) := by decide +kernel
theorem dJ0_charAt_5068e_15 : decode cJ0_charAt_5068e 15 = .ok (.ireturn, 1) := by decide +kernel
theorem dJ0_charAt_5068e_16 : decode cJ0_charAt_5068e 16 = .ok (.aload_n 0, 1) := by decide +kernel
theorem dJ0_charAt_5068e_17 : decode cJ0_charAt_5068e 17 = .ok (.getfield 9, 3) := by decide +kernel
theorem dJ0_charAt_5068e_20 : decode cJ0_charAt_5068e 20 = .ok (.iload_n 1, 1) := by decide +kernel
theorem dJ0_charAt_5068e_21 : decode cJ0_charAt_5068e 21 = .ok (.invokestatic 498, 3) := by decide +kernel
theorem dJ0_charAt_5068e_24 : decode cJ0_charAt_5068e 24 = .ok (.ireturn, 1) := by decide +kernel
theorem dJ0_coder_7d493_0 : decode cJ0_coder_7d493 0 = .ok (.getstatic 38, 3) := by decide +kernel
theorem dJ0_coder_7d493_3 : decode cJ0_coder_7d493 3 = .ok (.ifCond .eq 10, 3) := by decide +kernel
theorem dJ0_coder_7d493_6 : decode cJ0_coder_7d493 6 = .ok (.aload_n 0, 1) := by decide +kernel
theorem dJ0_coder_7d493_7 : decode cJ0_coder_7d493 7 = .ok (.getfield 15, 3) := by decide +kernel
theorem dJ0_coder_7d493_10 : decode cJ0_coder_7d493 10 = .ok (.goto 4, 3) := by decide +kernel
theorem dJ0_coder_7d493_13 : decode cJ0_coder_7d493 13 = .ok (.iconst 1, 1) := by decide +kernel
theorem dJ0_coder_7d493_14 : decode cJ0_coder_7d493 14 = .ok (.ireturn, 1) := by decide +kernel
theorem dJ0_isLatin1_aae02_0 : decode cJ0_isLatin1_aae02 0 = .ok (.getstatic 38, 3) := by decide +kernel
theorem dJ0_isLatin1_aae02_3 : decode cJ0_isLatin1_aae02 3 = .ok (.ifCond .eq 14, 3) := by decide +kernel
theorem dJ0_isLatin1_aae02_6 : decode cJ0_isLatin1_aae02 6 = .ok (.aload_n 0, 1) := by decide +kernel
theorem dJ0_isLatin1_aae02_7 : decode cJ0_isLatin1_aae02 7 = .ok (.getfield 15, 3) := by decide +kernel
theorem dJ0_isLatin1_aae02_10 : decode cJ0_isLatin1_aae02 10 = .ok (.ifCond .ne 7, 3) := by decide +kernel
theorem dJ0_isLatin1_aae02_13 : decode cJ0_isLatin1_aae02 13 = .ok (.iconst 1, 1) := by decide +kernel
theorem dJ0_isLatin1_aae02_14 : decode cJ0_isLatin1_aae02 14 = .ok (.goto 4, 3) := by decide +kernel
theorem dJ0_isLatin1_aae02_17 : decode cJ0_isLatin1_aae02 17 = .ok (.iconst 0, 1) := by decide +kernel
theorem dJ0_isLatin1_aae02_18 : decode cJ0_isLatin1_aae02 18 = .ok (.ireturn, 1) := by decide +kernel
theorem dJ0_checkIndex_df160_0 : decode cJ0_checkIndex_df160 0 = .ok (.iload_n 0, 1) := by decide +kernel
theorem dJ0_checkIndex_df160_1 : decode cJ0_checkIndex_df160 1 = .ok (.iload_n 1, 1) := by decide +kernel
theorem dJ0_checkIndex_df160_2 : decode cJ0_checkIndex_df160 2 = .ok (.getstatic 1053, 3) := by decide +kernel
theorem dJ0_checkIndex_df160_5 : decode cJ0_checkIndex_df160 5 = .ok (.invokestatic 1059, 3) := by decide +kernel
theorem dJ0_checkIndex_df160_8 : decode cJ0_checkIndex_df160 8 = .ok (.pop, 1) := by decide +kernel
theorem dJ0_checkIndex_df160_9 : decode cJ0_checkIndex_df160 9 = .ok (.return_, 1) := by decide +kernel
theorem dJ1_charAt_3b067_0 : decode cJ1_charAt_3b067 0 = .ok (.iload_n 1, 1) := by decide +kernel
theorem dJ1_charAt_3b067_1 : decode cJ1_charAt_3b067 1 = .ok (.aload_n 0, 1) := by decide +kernel
theorem dJ1_charAt_3b067_2 : decode cJ1_charAt_3b067 2 = .ok (.arraylength, 1) := by decide +kernel
theorem dJ1_charAt_3b067_3 : decode cJ1_charAt_3b067 3 = .ok (.invokestatic 9, 3) := by decide +kernel
theorem dJ1_charAt_3b067_6 : decode cJ1_charAt_3b067 6 = .ok (.aload_n 0, 1) := by decide +kernel
theorem dJ1_charAt_3b067_7 : decode cJ1_charAt_3b067 7 = .ok (.iload_n 1, 1) := by decide +kernel
theorem dJ1_charAt_3b067_8 : decode cJ1_charAt_3b067 8 = .ok (.baload, 1) := by decide +kernel
theorem dJ1_charAt_3b067_9 : decode cJ1_charAt_3b067 9 = .ok (.sipush 255, 3) := by decide +kernel
theorem dJ1_charAt_3b067_12 : decode cJ1_charAt_3b067 12 = .ok (.iand, 1) := by decide +kernel
theorem dJ1_charAt_3b067_13 : decode cJ1_charAt_3b067 13 = .ok (.i2c, 1) := by decide +kernel
theorem dJ1_charAt_3b067_14 : decode cJ1_charAt_3b067 14 = .ok (.ireturn, 1) := by decide +kernel
theorem dJ2_getChar_3b067_0 : decode cJ2_getChar_3b067 0 = .ok (.getstatic 44, 3) := by decide +kernel
theorem dJ2_getChar_3b067_3 : decode cJ2_getChar_3b067 3 = .ok (.ifCond .ne 25, 3) := by decide +kernel
theorem dJ2_getChar_3b067_6 : decode cJ2_getChar_3b067 6 = .ok (.iload_n 1, 1) := by decide +kernel
theorem dJ2_getChar_3b067_7 : decode cJ2_getChar_3b067 7 = .ok (.ifCond .lt 11, 3) := by decide +kernel
theorem dJ2_getChar_3b067_10 : decode cJ2_getChar_3b067 10 = .ok (.iload_n 1, 1) := by decide +kernel
theorem dJ2_getChar_3b067_11 : decode cJ2_getChar_3b067 11 = .ok (.aload_n 0, 1) := by decide +kernel
theorem dJ2_getChar_3b067_12 : decode cJ2_getChar_3b067 12 = .ok (.invokestatic 48, 3) := by decide +kernel
theorem dJ2_getChar_3b067_15 : decode cJ2_getChar_3b067 15 = .ok (.if_icmp .lt 13, 3) := by decide +kernel
theorem dJ2_getChar_3b067_18 : decode cJ2_getChar_3b067 18 = .ok (.new 52, 3) := by decide +kernel
theorem dJ2_getChar_3b067_21 : decode cJ2_getChar_3b067 21 = .ok (.dup, 1) := by decide +kernel
theorem dJ2_getChar_3b067_22 : decode cJ2_getChar_3b067 22 = .ok (.ldc 54, 2) := by decide +kernel
theorem dJ2_getChar_3b067_24 : decode cJ2_getChar_3b067 24 = .ok (.invokespecial 56, 3) := by decide +kernel
theorem dJ2_getChar_3b067_27 : decode cJ2_getChar_3b067 27 = .ok (.athrow, 1) := by decide +kernel
theorem dJ2_getChar_3b067_28 : decode cJ2_getChar_3b067 28 = .ok (.iload_n 1, 1) := by decide +kernel
theorem dJ2_getChar_3b067_29 : decode cJ2_getChar_3b067 29 = .ok (.iconst 1, 1) := by decide +kernel
theorem dJ2_getChar_3b067_30 : decode cJ2_getChar_3b067 30 = .ok (.ishl, 1) := by decide +kernel
theorem dJ2_getChar_3b067_31 : decode cJ2_getChar_3b067 31 = .ok (.istore_n 1, 1) := by decide +kernel
theorem dJ2_getChar_3b067_32 : decode cJ2_getChar_3b067 32 = .ok (.aload_n 0, 1) := by decide +kernel
theorem dJ2_getChar_3b067_33 : decode cJ2_getChar_3b067 33 = .ok (.iload_n 1, 1) := by decide +kernel
theorem dJ2_getChar_3b067_34 : decode cJ2_getChar_3b067 34 = .ok (.iinc 1 1, 3) := by decide +kernel
theorem dJ2_getChar_3b067_37 : decode cJ2_getChar_3b067 37 = .ok (.baload, 1) := by decide +kernel
theorem dJ2_getChar_3b067_38 : decode cJ2_getChar_3b067 38 = .ok (.sipush 255, 3) := by decide +kernel
theorem dJ2_getChar_3b067_41 : decode cJ2_getChar_3b067 41 = .ok (.iand, 1) := by decide +kernel
theorem dJ2_getChar_3b067_42 : decode cJ2_getChar_3b067 42 = .ok (.getstatic 59, 3) := by decide +kernel
theorem dJ2_getChar_3b067_45 : decode cJ2_getChar_3b067 45 = .ok (.ishl, 1) := by decide +kernel
theorem dJ2_getChar_3b067_46 : decode cJ2_getChar_3b067 46 = .ok (.aload_n 0, 1) := by decide +kernel
theorem dJ2_getChar_3b067_47 : decode cJ2_getChar_3b067 47 = .ok (.iload_n 1, 1) := by decide +kernel
theorem dJ2_getChar_3b067_48 : decode cJ2_getChar_3b067 48 = .ok (.baload, 1) := by decide +kernel
theorem dJ2_getChar_3b067_49 : decode cJ2_getChar_3b067 49 = .ok (.sipush 255, 3) := by decide +kernel
theorem dJ2_getChar_3b067_52 : decode cJ2_getChar_3b067 52 = .ok (.iand, 1) := by decide +kernel
theorem dJ2_getChar_3b067_53 : decode cJ2_getChar_3b067 53 = .ok (.getstatic 63, 3) := by decide +kernel
theorem dJ2_getChar_3b067_56 : decode cJ2_getChar_3b067 56 = .ok (.ishl, 1) := by decide +kernel
theorem dJ2_getChar_3b067_57 : decode cJ2_getChar_3b067 57 = .ok (.ior, 1) := by decide +kernel
theorem dJ2_getChar_3b067_58 : decode cJ2_getChar_3b067 58 = .ok (.i2c, 1) := by decide +kernel
theorem dJ2_getChar_3b067_59 : decode cJ2_getChar_3b067 59 = .ok (.ireturn, 1) := by decide +kernel
theorem dJ2_length_9d52b_0 : decode cJ2_length_9d52b 0 = .ok (.aload_n 0, 1) := by decide +kernel
theorem dJ2_length_9d52b_1 : decode cJ2_length_9d52b 1 = .ok (.arraylength, 1) := by decide +kernel
theorem dJ2_length_9d52b_2 : decode cJ2_length_9d52b 2 = .ok (.iconst 1, 1) := by decide +kernel
theorem dJ2_length_9d52b_3 : decode cJ2_length_9d52b 3 = .ok (.ishr, 1) := by decide +kernel
theorem dJ2_length_9d52b_4 : decode cJ2_length_9d52b 4 = .ok (.ireturn, 1) := by decide +kernel
theorem dJ2_charAt_3b067_0 : decode cJ2_charAt_3b067 0 = .ok (.iload_n 1, 1) := by decide +kernel
theorem dJ2_charAt_3b067_1 : decode cJ2_charAt_3b067 1 = .ok (.aload_n 0, 1) := by decide +kernel
theorem dJ2_charAt_3b067_2 : decode cJ2_charAt_3b067 2 = .ok (.invokestatic 67, 3) := by decide +kernel
theorem dJ2_charAt_3b067_5 : decode cJ2_charAt_3b067 5 = .ok (.aload_n 0, 1) := by decide +kernel
theorem dJ2_charAt_3b067_6 : decode cJ2_charAt_3b067 6 = .ok (.iload_n 1, 1) := by decide +kernel
theorem dJ2_charAt_3b067_7 : decode cJ2_charAt_3b067 7 = .ok (.invokestatic 71, 3) := by decide +kernel
theorem dJ2_charAt_3b067_10 : decode cJ2_charAt_3b067 10 = .ok (.ireturn, 1) := by decide +kernel
theorem dJ2_checkIndex_2214a_0 : decode cJ2_checkIndex_2214a 0 = .ok (.iload_n 0, 1) := by decide +kernel
theorem dJ2_checkIndex_2214a_1 : decode cJ2_checkIndex_2214a 1 = .ok (.aload_n 1, 1) := by decide +kernel
theorem dJ2_checkIndex_2214a_2 : decode cJ2_checkIndex_2214a 2 = .ok (.invokestatic 48, 3) := by decide +kernel
theorem dJ2_checkIndex_2214a_5 : decode cJ2_checkIndex_2214a 5 = .ok (.invokestatic 414, 3) := by decide +kernel
theorem dJ2_checkIndex_2214a_8 : decode cJ2_checkIndex_2214a 8 = .ok (.return_, 1) := by decide +kernel
theorem dJ3_checkIndex_8e157_0 : decode cJ3_checkIndex_8e157 0 = .ok (.iload_n 0, 1) := by decide +kernel
theorem dJ3_checkIndex_8e157_1 : decode cJ3_checkIndex_8e157 1 = .ok (.ifCond .lt 8, 3) := by decide +kernel
theorem dJ3_checkIndex_8e157_4 : decode cJ3_checkIndex_8e157 4 = .ok (.iload_n 0, 1) := by decide +kernel
theorem dJ3_checkIndex_8e157_5 : decode cJ3_checkIndex_8e157 5 = .ok (.iload_n 1, 1) := by decide +kernel
theorem dJ3_checkIndex_8e157_6 : decode cJ3_checkIndex_8e157 6 = .ok (.if_icmp .lt 10, 3) := by decide +kernel
theorem dJ3_checkIndex_8e157_9 : decode cJ3_checkIndex_8e157 9 = .ok (.aload_n 2, 1) := by decide +kernel
theorem dJ3_checkIndex_8e157_10 : decode cJ3_checkIndex_8e157 10 = .ok (.iload_n 0, 1) := by decide +kernel
theorem dJ3_checkIndex_8e157_11 : decode cJ3_checkIndex_8e157 11 = .ok (.iload_n 1, 1) := by decide +kernel
theorem dJ3_checkIndex_8e157_12 : decode cJ3_checkIndex_8e157 12 = .ok (.invokestatic 95, 3) := by decide +kernel
theorem dJ3_checkIndex_8e157_15 : decode cJ3_checkIndex_8e157 15 = .ok (.athrow, 1) := by decide +kernel
theorem dJ3_checkIndex_8e157_16 : decode cJ3_checkIndex_8e157 16 = .ok (.iload_n 0, 1) := by decide +kernel
theorem dJ3_checkIndex_8e157_17 : decode cJ3_checkIndex_8e157 17 = .ok (.ireturn, 1) := by decide +kernel
theorem dL_law_0 : decode cL_law 0 = .ok (.new 7, 3) := by decide +kernel
theorem dL_law_3 : decode cL_law 3 = .ok (.dup, 1) := by decide +kernel
theorem dL_law_4 : decode cL_law 4 = .ok (.invokespecial 9, 3) := by decide +kernel
theorem dL_law_7 : decode cL_law 7 = .ok (.astore_n 1, 1) := by decide +kernel
theorem dL_law_8 : decode cL_law 8 = .ok (.new 10, 3) := by decide +kernel
theorem dL_law_11 : decode cL_law 11 = .ok (.dup, 1) := by decide +kernel
theorem dL_law_12 : decode cL_law 12 = .ok (.invokespecial 12, 3) := by decide +kernel
theorem dL_law_15 : decode cL_law 15 = .ok (.astore_n 2, 1) := by decide +kernel
theorem dL_law_16 : decode cL_law 16 = .ok (.iconst 0, 1) := by decide +kernel
theorem dL_law_17 : decode cL_law 17 = .ok (.istore_n 3, 1) := by decide +kernel
theorem dL_law_18 : decode cL_law 18 = .ok (.iload_n 3, 1) := by decide +kernel
theorem dL_law_19 : decode cL_law 19 = .ok (.aload_n 0, 1) := by decide +kernel
theorem dL_law_20 : decode cL_law 20 = .ok (.arraylength, 1) := by decide +kernel
theorem dL_law_21 : decode cL_law 21 = .ok (.iconst 5, 1) := by decide +kernel
theorem dL_law_22 : decode cL_law 22 = .ok (.isub, 1) := by decide +kernel
theorem dL_law_23 : decode cL_law 23 = .ok (.if_icmp .gt 1420, 3) := by decide +kernel
theorem dL_law_26 : decode cL_law 26 = .ok (.aload_n 0, 1) := by decide +kernel
theorem dL_law_27 : decode cL_law 27 = .ok (.iload_n 3, 1) := by decide +kernel
theorem dL_law_28 : decode cL_law 28 = .ok (.iaload, 1) := by decide +kernel
theorem dL_law_29 : decode cL_law 29 = .ok (.bipush 63, 2) := by decide +kernel
theorem dL_law_31 : decode cL_law 31 = .ok (.iand, 1) := by decide +kernel
theorem dL_law_32 : decode cL_law 32 = .ok (.tableswitch 1405 0 40 #[180, 203, 226, 239, 252, 275, 308, 331, 374, 397, 440, 463, 496, 519, 542, 565, 588, 621, 654, 677, 690, 733, 776, 809, 842, 875, 908, 952, 996, 1039, 1062, 1085, 1108, 1141, 1184, 1207, 1230, 1273, 1316, 1369, 1382], 180) := by decide +kernel
theorem dL_law_212 : decode cL_law 212 = .ok (.aload_n 1, 1) := by decide +kernel
theorem dL_law_213 : decode cL_law 213 = .ok (.aload_n 0, 1) := by decide +kernel
theorem dL_law_214 : decode cL_law 214 = .ok (.iload_n 3, 1) := by decide +kernel
theorem dL_law_215 : decode cL_law 215 = .ok (.iconst 1, 1) := by decide +kernel
theorem dL_law_216 : decode cL_law 216 = .ok (.iadd, 1) := by decide +kernel
theorem dL_law_217 : decode cL_law 217 = .ok (.iaload, 1) := by decide +kernel
theorem dL_law_218 : decode cL_law 218 = .ok (.invokevirtual 13, 3) := by decide +kernel
theorem dL_law_221 : decode cL_law 221 = .ok (.aload_n 2, 1) := by decide +kernel
theorem dL_law_222 : decode cL_law 222 = .ok (.aload_n 0, 1) := by decide +kernel
theorem dL_law_223 : decode cL_law 223 = .ok (.iload_n 3, 1) := by decide +kernel
theorem dL_law_224 : decode cL_law 224 = .ok (.iconst 1, 1) := by decide +kernel
theorem dL_law_225 : decode cL_law 225 = .ok (.iadd, 1) := by decide +kernel
theorem dL_law_226 : decode cL_law 226 = .ok (.iaload, 1) := by decide +kernel
theorem dL_law_227 : decode cL_law 227 = .ok (.invokevirtual 17, 3) := by decide +kernel
theorem dL_law_230 : decode cL_law 230 = .ok (.if_icmp .eq 1207, 3) := by decide +kernel
theorem dL_law_233 : decode cL_law 233 = .ok (.iconst 0, 1) := by decide +kernel
theorem dL_law_234 : decode cL_law 234 = .ok (.ireturn, 1) := by decide +kernel
theorem dL_law_235 : decode cL_law 235 = .ok (.aload_n 1, 1) := by decide +kernel
theorem dL_law_236 : decode cL_law 236 = .ok (.aload_n 0, 1) := by decide +kernel
theorem dL_law_237 : decode cL_law 237 = .ok (.iload_n 3, 1) := by decide +kernel
theorem dL_law_238 : decode cL_law 238 = .ok (.iconst 1, 1) := by decide +kernel
theorem dL_law_239 : decode cL_law 239 = .ok (.iadd, 1) := by decide +kernel
theorem dL_law_240 : decode cL_law 240 = .ok (.iaload, 1) := by decide +kernel
theorem dL_law_241 : decode cL_law 241 = .ok (.invokevirtual 18, 3) := by decide +kernel
theorem dL_law_244 : decode cL_law 244 = .ok (.aload_n 2, 1) := by decide +kernel
theorem dL_law_245 : decode cL_law 245 = .ok (.aload_n 0, 1) := by decide +kernel
theorem dL_law_246 : decode cL_law 246 = .ok (.iload_n 3, 1) := by decide +kernel
theorem dL_law_247 : decode cL_law 247 = .ok (.iconst 1, 1) := by decide +kernel
theorem dL_law_248 : decode cL_law 248 = .ok (.iadd, 1) := by decide +kernel
theorem dL_law_249 : decode cL_law 249 = .ok (.iaload, 1) := by decide +kernel
theorem dL_law_250 : decode cL_law 250 = .ok (.invokevirtual 21, 3) := by decide +kernel
theorem dL_law_253 : decode cL_law 253 = .ok (.if_icmp .eq 1184, 3) := by decide +kernel
theorem dL_law_256 : decode cL_law 256 = .ok (.iconst 0, 1) := by decide +kernel
theorem dL_law_257 : decode cL_law 257 = .ok (.ireturn, 1) := by decide +kernel
theorem dL_law_258 : decode cL_law 258 = .ok (.aload_n 1, 1) := by decide +kernel
theorem dL_law_259 : decode cL_law 259 = .ok (.invokevirtual 22, 3) := by decide +kernel
theorem dL_law_262 : decode cL_law 262 = .ok (.aload_n 2, 1) := by decide +kernel
theorem dL_law_263 : decode cL_law 263 = .ok (.invokevirtual 26, 3) := by decide +kernel
theorem dL_law_266 : decode cL_law 266 = .ok (.if_icmp .eq 1171, 3) := by decide +kernel
theorem dL_law_269 : decode cL_law 269 = .ok (.iconst 0, 1) := by decide +kernel
theorem dL_law_270 : decode cL_law 270 = .ok (.ireturn, 1) := by decide +kernel
theorem dL_law_271 : decode cL_law 271 = .ok (.aload_n 1, 1) := by decide +kernel
theorem dL_law_272 : decode cL_law 272 = .ok (.invokevirtual 27, 3) := by decide +kernel
theorem dL_law_275 : decode cL_law 275 = .ok (.aload_n 2, 1) := by decide +kernel
theorem dL_law_276 : decode cL_law 276 = .ok (.invokevirtual 30, 3) := by decide +kernel
theorem dL_law_279 : decode cL_law 279 = .ok (.if_icmp .eq 1158, 3) := by decide +kernel
theorem dL_law_282 : decode cL_law 282 = .ok (.iconst 0, 1) := by decide +kernel
theorem dL_law_283 : decode cL_law 283 = .ok (.ireturn, 1) := by decide +kernel
theorem dL_law_284 : decode cL_law 284 = .ok (.aload_n 1, 1) := by decide +kernel
theorem dL_law_285 : decode cL_law 285 = .ok (.aload_n 0, 1) := by decide +kernel
theorem dL_law_286 : decode cL_law 286 = .ok (.iload_n 3, 1) := by decide +kernel
theorem dL_law_287 : decode cL_law 287 = .ok (.iconst 1, 1) := by decide +kernel
theorem dL_law_288 : decode cL_law 288 = .ok (.iadd, 1) := by decide +kernel
theorem dL_law_289 : decode cL_law 289 = .ok (.iaload, 1) := by decide +kernel
theorem dL_law_290 : decode cL_law 290 = .ok (.invokevirtual 31, 3) := by decide +kernel
theorem dL_law_293 : decode cL_law 293 = .ok (.aload_n 2, 1) := by decide +kernel
theorem dL_law_294 : decode cL_law 294 = .ok (.aload_n 0, 1) := by decide +kernel
theorem dL_law_295 : decode cL_law 295 = .ok (.iload_n 3, 1) := by decide +kernel
theorem dL_law_296 : decode cL_law 296 = .ok (.iconst 1, 1) := by decide +kernel
theorem dL_law_297 : decode cL_law 297 = .ok (.iadd, 1) := by decide +kernel
theorem dL_law_298 : decode cL_law 298 = .ok (.iaload, 1) := by decide +kernel
theorem dL_law_299 : decode cL_law 299 = .ok (.invokevirtual 34, 3) := by decide +kernel
theorem dL_law_302 : decode cL_law 302 = .ok (.if_icmp .eq 1135, 3) := by decide +kernel
theorem dL_law_305 : decode cL_law 305 = .ok (.iconst 0, 1) := by decide +kernel
theorem dL_law_306 : decode cL_law 306 = .ok (.ireturn, 1) := by decide +kernel
theorem dL_law_307 : decode cL_law 307 = .ok (.aload_n 1, 1) := by decide +kernel
theorem dL_law_308 : decode cL_law 308 = .ok (.aload_n 0, 1) := by decide +kernel
theorem dL_law_309 : decode cL_law 309 = .ok (.iload_n 3, 1) := by decide +kernel
theorem dL_law_310 : decode cL_law 310 = .ok (.iconst 1, 1) := by decide +kernel
theorem dL_law_311 : decode cL_law 311 = .ok (.iadd, 1) := by decide +kernel
theorem dL_law_312 : decode cL_law 312 = .ok (.iaload, 1) := by decide +kernel
theorem dL_law_313 : decode cL_law 313 = .ok (.aload_n 0, 1) := by decide +kernel
theorem dL_law_314 : decode cL_law 314 = .ok (.iload_n 3, 1) := by decide +kernel
theorem dL_law_315 : decode cL_law 315 = .ok (.iconst 2, 1) := by decide +kernel
theorem dL_law_316 : decode cL_law 316 = .ok (.iadd, 1) := by decide +kernel
theorem dL_law_317 : decode cL_law 317 = .ok (.iaload, 1) := by decide +kernel
theorem dL_law_318 : decode cL_law 318 = .ok (.invokevirtual 35, 3) := by decide +kernel
theorem dL_law_321 : decode cL_law 321 = .ok (.aload_n 2, 1) := by decide +kernel
theorem dL_law_322 : decode cL_law 322 = .ok (.aload_n 0, 1) := by decide +kernel
theorem dL_law_323 : decode cL_law 323 = .ok (.iload_n 3, 1) := by decide +kernel
theorem dL_law_324 : decode cL_law 324 = .ok (.iconst 1, 1) := by decide +kernel
theorem dL_law_325 : decode cL_law 325 = .ok (.iadd, 1) := by decide +kernel
theorem dL_law_326 : decode cL_law 326 = .ok (.iaload, 1) := by decide +kernel
theorem dL_law_327 : decode cL_law 327 = .ok (.aload_n 0, 1) := by decide +kernel
theorem dL_law_328 : decode cL_law 328 = .ok (.iload_n 3, 1) := by decide +kernel
theorem dL_law_329 : decode cL_law 329 = .ok (.iconst 2, 1) := by decide +kernel
theorem dL_law_330 : decode cL_law 330 = .ok (.iadd, 1) := by decide +kernel
theorem dL_law_331 : decode cL_law 331 = .ok (.iaload, 1) := by decide +kernel
theorem dL_law_332 : decode cL_law 332 = .ok (.invokevirtual 39, 3) := by decide +kernel
theorem dL_law_335 : decode cL_law 335 = .ok (.if_icmp .eq 1102, 3) := by decide +kernel
theorem dL_law_338 : decode cL_law 338 = .ok (.iconst 0, 1) := by decide +kernel
theorem dL_law_339 : decode cL_law 339 = .ok (.ireturn, 1) := by decide +kernel
theorem dL_law_340 : decode cL_law 340 = .ok (.aload_n 1, 1) := by decide +kernel
theorem dL_law_341 : decode cL_law 341 = .ok (.aload_n 0, 1) := by decide +kernel
theorem dL_law_342 : decode cL_law 342 = .ok (.iload_n 3, 1) := by decide +kernel
theorem dL_law_343 : decode cL_law 343 = .ok (.iconst 1, 1) := by decide +kernel
theorem dL_law_344 : decode cL_law 344 = .ok (.iadd, 1) := by decide +kernel
theorem dL_law_345 : decode cL_law 345 = .ok (.iaload, 1) := by decide +kernel
theorem dL_law_346 : decode cL_law 346 = .ok (.invokevirtual 40, 3) := by decide +kernel
theorem dL_law_349 : decode cL_law 349 = .ok (.aload_n 2, 1) := by decide +kernel
theorem dL_law_350 : decode cL_law 350 = .ok (.aload_n 0, 1) := by decide +kernel
theorem dL_law_351 : decode cL_law 351 = .ok (.iload_n 3, 1) := by decide +kernel
theorem dL_law_352 : decode cL_law 352 = .ok (.iconst 1, 1) := by decide +kernel
theorem dL_law_353 : decode cL_law 353 = .ok (.iadd, 1) := by decide +kernel
theorem dL_law_354 : decode cL_law 354 = .ok (.iaload, 1) := by decide +kernel
theorem dL_law_355 : decode cL_law 355 = .ok (.invokevirtual 43, 3) := by decide +kernel
theorem dL_law_358 : decode cL_law 358 = .ok (.if_icmp .eq 1079, 3) := by decide +kernel
theorem dL_law_361 : decode cL_law 361 = .ok (.iconst 0, 1) := by decide +kernel
theorem dL_law_362 : decode cL_law 362 = .ok (.ireturn, 1) := by decide +kernel
theorem dL_law_363 : decode cL_law 363 = .ok (.aload_n 1, 1) := by decide +kernel
theorem dL_law_364 : decode cL_law 364 = .ok (.aload_n 0, 1) := by decide +kernel
theorem dL_law_365 : decode cL_law 365 = .ok (.iload_n 3, 1) := by decide +kernel
theorem dL_law_366 : decode cL_law 366 = .ok (.iconst 1, 1) := by decide +kernel
theorem dL_law_367 : decode cL_law 367 = .ok (.iadd, 1) := by decide +kernel
theorem dL_law_368 : decode cL_law 368 = .ok (.iaload, 1) := by decide +kernel
theorem dL_law_369 : decode cL_law 369 = .ok (.aload_n 0, 1) := by decide +kernel
theorem dL_law_370 : decode cL_law 370 = .ok (.iload_n 3, 1) := by decide +kernel
theorem dL_law_371 : decode cL_law 371 = .ok (.iconst 2, 1) := by decide +kernel
theorem dL_law_372 : decode cL_law 372 = .ok (.iadd, 1) := by decide +kernel
theorem dL_law_373 : decode cL_law 373 = .ok (.iaload, 1) := by decide +kernel
theorem dL_law_374 : decode cL_law 374 = .ok (.aload_n 0, 1) := by decide +kernel
theorem dL_law_375 : decode cL_law 375 = .ok (.iload_n 3, 1) := by decide +kernel
theorem dL_law_376 : decode cL_law 376 = .ok (.iconst 3, 1) := by decide +kernel
theorem dL_law_377 : decode cL_law 377 = .ok (.iadd, 1) := by decide +kernel
theorem dL_law_378 : decode cL_law 378 = .ok (.iaload, 1) := by decide +kernel
theorem dL_law_379 : decode cL_law 379 = .ok (.invokevirtual 44, 3) := by decide +kernel
theorem dL_law_382 : decode cL_law 382 = .ok (.aload_n 2, 1) := by decide +kernel
theorem dL_law_383 : decode cL_law 383 = .ok (.aload_n 0, 1) := by decide +kernel
theorem dL_law_384 : decode cL_law 384 = .ok (.iload_n 3, 1) := by decide +kernel
theorem dL_law_385 : decode cL_law 385 = .ok (.iconst 1, 1) := by decide +kernel
theorem dL_law_386 : decode cL_law 386 = .ok (.iadd, 1) := by decide +kernel
theorem dL_law_387 : decode cL_law 387 = .ok (.iaload, 1) := by decide +kernel
theorem dL_law_388 : decode cL_law 388 = .ok (.aload_n 0, 1) := by decide +kernel
theorem dL_law_389 : decode cL_law 389 = .ok (.iload_n 3, 1) := by decide +kernel
theorem dL_law_390 : decode cL_law 390 = .ok (.iconst 2, 1) := by decide +kernel
theorem dL_law_391 : decode cL_law 391 = .ok (.iadd, 1) := by decide +kernel
theorem dL_law_392 : decode cL_law 392 = .ok (.iaload, 1) := by decide +kernel
theorem dL_law_393 : decode cL_law 393 = .ok (.aload_n 0, 1) := by decide +kernel
theorem dL_law_394 : decode cL_law 394 = .ok (.iload_n 3, 1) := by decide +kernel
theorem dL_law_395 : decode cL_law 395 = .ok (.iconst 3, 1) := by decide +kernel
theorem dL_law_396 : decode cL_law 396 = .ok (.iadd, 1) := by decide +kernel
theorem dL_law_397 : decode cL_law 397 = .ok (.iaload, 1) := by decide +kernel
theorem dL_law_398 : decode cL_law 398 = .ok (.invokevirtual 48, 3) := by decide +kernel
theorem dL_law_401 : decode cL_law 401 = .ok (.if_icmp .eq 1036, 3) := by decide +kernel
theorem dL_law_404 : decode cL_law 404 = .ok (.iconst 0, 1) := by decide +kernel
theorem dL_law_405 : decode cL_law 405 = .ok (.ireturn, 1) := by decide +kernel
theorem dL_law_406 : decode cL_law 406 = .ok (.aload_n 1, 1) := by decide +kernel
theorem dL_law_407 : decode cL_law 407 = .ok (.aload_n 0, 1) := by decide +kernel
theorem dL_law_408 : decode cL_law 408 = .ok (.iload_n 3, 1) := by decide +kernel
theorem dL_law_409 : decode cL_law 409 = .ok (.iconst 1, 1) := by decide +kernel
theorem dL_law_410 : decode cL_law 410 = .ok (.iadd, 1) := by decide +kernel
theorem dL_law_411 : decode cL_law 411 = .ok (.iaload, 1) := by decide +kernel
theorem dL_law_412 : decode cL_law 412 = .ok (.invokevirtual 49, 3) := by decide +kernel
theorem dL_law_415 : decode cL_law 415 = .ok (.aload_n 2, 1) := by decide +kernel
theorem dL_law_416 : decode cL_law 416 = .ok (.aload_n 0, 1) := by decide +kernel
theorem dL_law_417 : decode cL_law 417 = .ok (.iload_n 3, 1) := by decide +kernel
theorem dL_law_418 : decode cL_law 418 = .ok (.iconst 1, 1) := by decide +kernel
theorem dL_law_419 : decode cL_law 419 = .ok (.iadd, 1) := by decide +kernel
theorem dL_law_420 : decode cL_law 420 = .ok (.iaload, 1) := by decide +kernel
theorem dL_law_421 : decode cL_law 421 = .ok (.invokevirtual 52, 3) := by decide +kernel
theorem dL_law_424 : decode cL_law 424 = .ok (.if_icmp .eq 1013, 3) := by decide +kernel
theorem dL_law_427 : decode cL_law 427 = .ok (.iconst 0, 1) := by decide +kernel
theorem dL_law_428 : decode cL_law 428 = .ok (.ireturn, 1) := by decide +kernel
theorem dL_law_429 : decode cL_law 429 = .ok (.aload_n 1, 1) := by decide +kernel
theorem dL_law_430 : decode cL_law 430 = .ok (.aload_n 0, 1) := by decide +kernel
theorem dL_law_431 : decode cL_law 431 = .ok (.iload_n 3, 1) := by decide +kernel
theorem dL_law_432 : decode cL_law 432 = .ok (.iconst 1, 1) := by decide +kernel
theorem dL_law_433 : decode cL_law 433 = .ok (.iadd, 1) := by decide +kernel
theorem dL_law_434 : decode cL_law 434 = .ok (.iaload, 1) := by decide +kernel
theorem dL_law_435 : decode cL_law 435 = .ok (.aload_n 0, 1) := by decide +kernel
theorem dL_law_436 : decode cL_law 436 = .ok (.iload_n 3, 1) := by decide +kernel
theorem dL_law_437 : decode cL_law 437 = .ok (.iconst 2, 1) := by decide +kernel
theorem dL_law_438 : decode cL_law 438 = .ok (.iadd, 1) := by decide +kernel
theorem dL_law_439 : decode cL_law 439 = .ok (.iaload, 1) := by decide +kernel
theorem dL_law_440 : decode cL_law 440 = .ok (.aload_n 0, 1) := by decide +kernel
theorem dL_law_441 : decode cL_law 441 = .ok (.iload_n 3, 1) := by decide +kernel
theorem dL_law_442 : decode cL_law 442 = .ok (.iconst 3, 1) := by decide +kernel
theorem dL_law_443 : decode cL_law 443 = .ok (.iadd, 1) := by decide +kernel
theorem dL_law_444 : decode cL_law 444 = .ok (.iaload, 1) := by decide +kernel
theorem dL_law_445 : decode cL_law 445 = .ok (.invokevirtual 53, 3) := by decide +kernel
theorem dL_law_448 : decode cL_law 448 = .ok (.aload_n 2, 1) := by decide +kernel
theorem dL_law_449 : decode cL_law 449 = .ok (.aload_n 0, 1) := by decide +kernel
theorem dL_law_450 : decode cL_law 450 = .ok (.iload_n 3, 1) := by decide +kernel
theorem dL_law_451 : decode cL_law 451 = .ok (.iconst 1, 1) := by decide +kernel
theorem dL_law_452 : decode cL_law 452 = .ok (.iadd, 1) := by decide +kernel
theorem dL_law_453 : decode cL_law 453 = .ok (.iaload, 1) := by decide +kernel
theorem dL_law_454 : decode cL_law 454 = .ok (.aload_n 0, 1) := by decide +kernel
theorem dL_law_455 : decode cL_law 455 = .ok (.iload_n 3, 1) := by decide +kernel
theorem dL_law_456 : decode cL_law 456 = .ok (.iconst 2, 1) := by decide +kernel
theorem dL_law_457 : decode cL_law 457 = .ok (.iadd, 1) := by decide +kernel
theorem dL_law_458 : decode cL_law 458 = .ok (.iaload, 1) := by decide +kernel
theorem dL_law_459 : decode cL_law 459 = .ok (.aload_n 0, 1) := by decide +kernel
theorem dL_law_460 : decode cL_law 460 = .ok (.iload_n 3, 1) := by decide +kernel
theorem dL_law_461 : decode cL_law 461 = .ok (.iconst 3, 1) := by decide +kernel
theorem dL_law_462 : decode cL_law 462 = .ok (.iadd, 1) := by decide +kernel
theorem dL_law_463 : decode cL_law 463 = .ok (.iaload, 1) := by decide +kernel
theorem dL_law_464 : decode cL_law 464 = .ok (.invokevirtual 56, 3) := by decide +kernel
theorem dL_law_467 : decode cL_law 467 = .ok (.if_icmp .eq 970, 3) := by decide +kernel
theorem dL_law_470 : decode cL_law 470 = .ok (.iconst 0, 1) := by decide +kernel
theorem dL_law_471 : decode cL_law 471 = .ok (.ireturn, 1) := by decide +kernel
theorem dL_law_472 : decode cL_law 472 = .ok (.aload_n 1, 1) := by decide +kernel
theorem dL_law_473 : decode cL_law 473 = .ok (.aload_n 0, 1) := by decide +kernel
theorem dL_law_474 : decode cL_law 474 = .ok (.iload_n 3, 1) := by decide +kernel
theorem dL_law_475 : decode cL_law 475 = .ok (.iconst 1, 1) := by decide +kernel
theorem dL_law_476 : decode cL_law 476 = .ok (.iadd, 1) := by decide +kernel
theorem dL_law_477 : decode cL_law 477 = .ok (.iaload, 1) := by decide +kernel
theorem dL_law_478 : decode cL_law 478 = .ok (.invokevirtual 57, 3) := by decide +kernel
theorem dL_law_481 : decode cL_law 481 = .ok (.aload_n 2, 1) := by decide +kernel
theorem dL_law_482 : decode cL_law 482 = .ok (.aload_n 0, 1) := by decide +kernel
theorem dL_law_483 : decode cL_law 483 = .ok (.iload_n 3, 1) := by decide +kernel
theorem dL_law_484 : decode cL_law 484 = .ok (.iconst 1, 1) := by decide +kernel
theorem dL_law_485 : decode cL_law 485 = .ok (.iadd, 1) := by decide +kernel
theorem dL_law_486 : decode cL_law 486 = .ok (.iaload, 1) := by decide +kernel
theorem dL_law_487 : decode cL_law 487 = .ok (.invokevirtual 60, 3) := by decide +kernel
theorem dL_law_490 : decode cL_law 490 = .ok (.if_icmp .eq 947, 3) := by decide +kernel
theorem dL_law_493 : decode cL_law 493 = .ok (.iconst 0, 1) := by decide +kernel
theorem dL_law_494 : decode cL_law 494 = .ok (.ireturn, 1) := by decide +kernel
theorem dL_law_495 : decode cL_law 495 = .ok (.aload_n 1, 1) := by decide +kernel
theorem dL_law_496 : decode cL_law 496 = .ok (.aload_n 0, 1) := by decide +kernel
theorem dL_law_497 : decode cL_law 497 = .ok (.iload_n 3, 1) := by decide +kernel
theorem dL_law_498 : decode cL_law 498 = .ok (.iconst 1, 1) := by decide +kernel
theorem dL_law_499 : decode cL_law 499 = .ok (.iadd, 1) := by decide +kernel
theorem dL_law_500 : decode cL_law 500 = .ok (.iaload, 1) := by decide +kernel
theorem dL_law_501 : decode cL_law 501 = .ok (.aload_n 0, 1) := by decide +kernel
theorem dL_law_502 : decode cL_law 502 = .ok (.iload_n 3, 1) := by decide +kernel
theorem dL_law_503 : decode cL_law 503 = .ok (.iconst 2, 1) := by decide +kernel
theorem dL_law_504 : decode cL_law 504 = .ok (.iadd, 1) := by decide +kernel
theorem dL_law_505 : decode cL_law 505 = .ok (.iaload, 1) := by decide +kernel
theorem dL_law_506 : decode cL_law 506 = .ok (.invokevirtual 61, 3) := by decide +kernel
theorem dL_law_509 : decode cL_law 509 = .ok (.aload_n 2, 1) := by decide +kernel
theorem dL_law_510 : decode cL_law 510 = .ok (.aload_n 0, 1) := by decide +kernel
theorem dL_law_511 : decode cL_law 511 = .ok (.iload_n 3, 1) := by decide +kernel
theorem dL_law_512 : decode cL_law 512 = .ok (.iconst 1, 1) := by decide +kernel
theorem dL_law_513 : decode cL_law 513 = .ok (.iadd, 1) := by decide +kernel
theorem dL_law_514 : decode cL_law 514 = .ok (.iaload, 1) := by decide +kernel
theorem dL_law_515 : decode cL_law 515 = .ok (.aload_n 0, 1) := by decide +kernel
theorem dL_law_516 : decode cL_law 516 = .ok (.iload_n 3, 1) := by decide +kernel
theorem dL_law_517 : decode cL_law 517 = .ok (.iconst 2, 1) := by decide +kernel
theorem dL_law_518 : decode cL_law 518 = .ok (.iadd, 1) := by decide +kernel
theorem dL_law_519 : decode cL_law 519 = .ok (.iaload, 1) := by decide +kernel
theorem dL_law_520 : decode cL_law 520 = .ok (.invokevirtual 64, 3) := by decide +kernel
theorem dL_law_523 : decode cL_law 523 = .ok (.if_icmp .eq 914, 3) := by decide +kernel
theorem dL_law_526 : decode cL_law 526 = .ok (.iconst 0, 1) := by decide +kernel
theorem dL_law_527 : decode cL_law 527 = .ok (.ireturn, 1) := by decide +kernel
theorem dL_law_528 : decode cL_law 528 = .ok (.aload_n 1, 1) := by decide +kernel
theorem dL_law_529 : decode cL_law 529 = .ok (.aload_n 0, 1) := by decide +kernel
theorem dL_law_530 : decode cL_law 530 = .ok (.iload_n 3, 1) := by decide +kernel
theorem dL_law_531 : decode cL_law 531 = .ok (.iconst 1, 1) := by decide +kernel
theorem dL_law_532 : decode cL_law 532 = .ok (.iadd, 1) := by decide +kernel
theorem dL_law_533 : decode cL_law 533 = .ok (.iaload, 1) := by decide +kernel
theorem dL_law_534 : decode cL_law 534 = .ok (.invokevirtual 65, 3) := by decide +kernel
theorem dL_law_537 : decode cL_law 537 = .ok (.aload_n 2, 1) := by decide +kernel
theorem dL_law_538 : decode cL_law 538 = .ok (.aload_n 0, 1) := by decide +kernel
theorem dL_law_539 : decode cL_law 539 = .ok (.iload_n 3, 1) := by decide +kernel
theorem dL_law_540 : decode cL_law 540 = .ok (.iconst 1, 1) := by decide +kernel
theorem dL_law_541 : decode cL_law 541 = .ok (.iadd, 1) := by decide +kernel
theorem dL_law_542 : decode cL_law 542 = .ok (.iaload, 1) := by decide +kernel
theorem dL_law_543 : decode cL_law 543 = .ok (.invokevirtual 68, 3) := by decide +kernel
theorem dL_law_546 : decode cL_law 546 = .ok (.if_icmp .eq 891, 3) := by decide +kernel
theorem dL_law_549 : decode cL_law 549 = .ok (.iconst 0, 1) := by decide +kernel
theorem dL_law_550 : decode cL_law 550 = .ok (.ireturn, 1) := by decide +kernel
theorem dL_law_551 : decode cL_law 551 = .ok (.aload_n 1, 1) := by decide +kernel
theorem dL_law_552 : decode cL_law 552 = .ok (.aload_n 0, 1) := by decide +kernel
theorem dL_law_553 : decode cL_law 553 = .ok (.iload_n 3, 1) := by decide +kernel
theorem dL_law_554 : decode cL_law 554 = .ok (.iconst 1, 1) := by decide +kernel
theorem dL_law_555 : decode cL_law 555 = .ok (.iadd, 1) := by decide +kernel
theorem dL_law_556 : decode cL_law 556 = .ok (.iaload, 1) := by decide +kernel
theorem dL_law_557 : decode cL_law 557 = .ok (.invokevirtual 69, 3) := by decide +kernel
theorem dL_law_560 : decode cL_law 560 = .ok (.aload_n 2, 1) := by decide +kernel
theorem dL_law_561 : decode cL_law 561 = .ok (.aload_n 0, 1) := by decide +kernel
theorem dL_law_562 : decode cL_law 562 = .ok (.iload_n 3, 1) := by decide +kernel
theorem dL_law_563 : decode cL_law 563 = .ok (.iconst 1, 1) := by decide +kernel
theorem dL_law_564 : decode cL_law 564 = .ok (.iadd, 1) := by decide +kernel
theorem dL_law_565 : decode cL_law 565 = .ok (.iaload, 1) := by decide +kernel
theorem dL_law_566 : decode cL_law 566 = .ok (.invokevirtual 72, 3) := by decide +kernel
theorem dL_law_569 : decode cL_law 569 = .ok (.if_icmp .eq 868, 3) := by decide +kernel
theorem dL_law_572 : decode cL_law 572 = .ok (.iconst 0, 1) := by decide +kernel
theorem dL_law_573 : decode cL_law 573 = .ok (.ireturn, 1) := by decide +kernel
theorem dL_law_574 : decode cL_law 574 = .ok (.aload_n 1, 1) := by decide +kernel
theorem dL_law_575 : decode cL_law 575 = .ok (.aload_n 0, 1) := by decide +kernel
theorem dL_law_576 : decode cL_law 576 = .ok (.iload_n 3, 1) := by decide +kernel
theorem dL_law_577 : decode cL_law 577 = .ok (.iconst 1, 1) := by decide +kernel
theorem dL_law_578 : decode cL_law 578 = .ok (.iadd, 1) := by decide +kernel
theorem dL_law_579 : decode cL_law 579 = .ok (.iaload, 1) := by decide +kernel
theorem dL_law_580 : decode cL_law 580 = .ok (.invokevirtual 73, 3) := by decide +kernel
theorem dL_law_583 : decode cL_law 583 = .ok (.aload_n 2, 1) := by decide +kernel
theorem dL_law_584 : decode cL_law 584 = .ok (.aload_n 0, 1) := by decide +kernel
theorem dL_law_585 : decode cL_law 585 = .ok (.iload_n 3, 1) := by decide +kernel
theorem dL_law_586 : decode cL_law 586 = .ok (.iconst 1, 1) := by decide +kernel
theorem dL_law_587 : decode cL_law 587 = .ok (.iadd, 1) := by decide +kernel
theorem dL_law_588 : decode cL_law 588 = .ok (.iaload, 1) := by decide +kernel
theorem dL_law_589 : decode cL_law 589 = .ok (.invokevirtual 76, 3) := by decide +kernel
theorem dL_law_592 : decode cL_law 592 = .ok (.if_icmp .eq 845, 3) := by decide +kernel
theorem dL_law_595 : decode cL_law 595 = .ok (.iconst 0, 1) := by decide +kernel
theorem dL_law_596 : decode cL_law 596 = .ok (.ireturn, 1) := by decide +kernel
theorem dL_law_597 : decode cL_law 597 = .ok (.aload_n 1, 1) := by decide +kernel
theorem dL_law_598 : decode cL_law 598 = .ok (.aload_n 0, 1) := by decide +kernel
theorem dL_law_599 : decode cL_law 599 = .ok (.iload_n 3, 1) := by decide +kernel
theorem dL_law_600 : decode cL_law 600 = .ok (.iconst 1, 1) := by decide +kernel
theorem dL_law_601 : decode cL_law 601 = .ok (.iadd, 1) := by decide +kernel
theorem dL_law_602 : decode cL_law 602 = .ok (.iaload, 1) := by decide +kernel
theorem dL_law_603 : decode cL_law 603 = .ok (.invokevirtual 77, 3) := by decide +kernel
theorem dL_law_606 : decode cL_law 606 = .ok (.aload_n 2, 1) := by decide +kernel
theorem dL_law_607 : decode cL_law 607 = .ok (.aload_n 0, 1) := by decide +kernel
theorem dL_law_608 : decode cL_law 608 = .ok (.iload_n 3, 1) := by decide +kernel
theorem dL_law_609 : decode cL_law 609 = .ok (.iconst 1, 1) := by decide +kernel
theorem dL_law_610 : decode cL_law 610 = .ok (.iadd, 1) := by decide +kernel
theorem dL_law_611 : decode cL_law 611 = .ok (.iaload, 1) := by decide +kernel
theorem dL_law_612 : decode cL_law 612 = .ok (.invokevirtual 80, 3) := by decide +kernel
theorem dL_law_615 : decode cL_law 615 = .ok (.if_icmp .eq 822, 3) := by decide +kernel
theorem dL_law_618 : decode cL_law 618 = .ok (.iconst 0, 1) := by decide +kernel
theorem dL_law_619 : decode cL_law 619 = .ok (.ireturn, 1) := by decide +kernel
theorem dL_law_620 : decode cL_law 620 = .ok (.aload_n 1, 1) := by decide +kernel
theorem dL_law_621 : decode cL_law 621 = .ok (.aload_n 0, 1) := by decide +kernel
theorem dL_law_622 : decode cL_law 622 = .ok (.iload_n 3, 1) := by decide +kernel
theorem dL_law_623 : decode cL_law 623 = .ok (.iconst 1, 1) := by decide +kernel
theorem dL_law_624 : decode cL_law 624 = .ok (.iadd, 1) := by decide +kernel
theorem dL_law_625 : decode cL_law 625 = .ok (.iaload, 1) := by decide +kernel
theorem dL_law_626 : decode cL_law 626 = .ok (.aload_n 0, 1) := by decide +kernel
theorem dL_law_627 : decode cL_law 627 = .ok (.iload_n 3, 1) := by decide +kernel
theorem dL_law_628 : decode cL_law 628 = .ok (.iconst 2, 1) := by decide +kernel
theorem dL_law_629 : decode cL_law 629 = .ok (.iadd, 1) := by decide +kernel
theorem dL_law_630 : decode cL_law 630 = .ok (.iaload, 1) := by decide +kernel
theorem dL_law_631 : decode cL_law 631 = .ok (.invokevirtual 81, 3) := by decide +kernel
theorem dL_law_634 : decode cL_law 634 = .ok (.aload_n 2, 1) := by decide +kernel
theorem dL_law_635 : decode cL_law 635 = .ok (.aload_n 0, 1) := by decide +kernel
theorem dL_law_636 : decode cL_law 636 = .ok (.iload_n 3, 1) := by decide +kernel
theorem dL_law_637 : decode cL_law 637 = .ok (.iconst 1, 1) := by decide +kernel
theorem dL_law_638 : decode cL_law 638 = .ok (.iadd, 1) := by decide +kernel
theorem dL_law_639 : decode cL_law 639 = .ok (.iaload, 1) := by decide +kernel
theorem dL_law_640 : decode cL_law 640 = .ok (.aload_n 0, 1) := by decide +kernel
theorem dL_law_641 : decode cL_law 641 = .ok (.iload_n 3, 1) := by decide +kernel
theorem dL_law_642 : decode cL_law 642 = .ok (.iconst 2, 1) := by decide +kernel
theorem dL_law_643 : decode cL_law 643 = .ok (.iadd, 1) := by decide +kernel
theorem dL_law_644 : decode cL_law 644 = .ok (.iaload, 1) := by decide +kernel
theorem dL_law_645 : decode cL_law 645 = .ok (.invokevirtual 84, 3) := by decide +kernel
theorem dL_law_648 : decode cL_law 648 = .ok (.if_icmp .eq 789, 3) := by decide +kernel
theorem dL_law_651 : decode cL_law 651 = .ok (.iconst 0, 1) := by decide +kernel
theorem dL_law_652 : decode cL_law 652 = .ok (.ireturn, 1) := by decide +kernel
theorem dL_law_653 : decode cL_law 653 = .ok (.aload_n 1, 1) := by decide +kernel
theorem dL_law_654 : decode cL_law 654 = .ok (.aload_n 0, 1) := by decide +kernel
theorem dL_law_655 : decode cL_law 655 = .ok (.iload_n 3, 1) := by decide +kernel
theorem dL_law_656 : decode cL_law 656 = .ok (.iconst 1, 1) := by decide +kernel
theorem dL_law_657 : decode cL_law 657 = .ok (.iadd, 1) := by decide +kernel
theorem dL_law_658 : decode cL_law 658 = .ok (.iaload, 1) := by decide +kernel
theorem dL_law_659 : decode cL_law 659 = .ok (.aload_n 0, 1) := by decide +kernel
theorem dL_law_660 : decode cL_law 660 = .ok (.iload_n 3, 1) := by decide +kernel
theorem dL_law_661 : decode cL_law 661 = .ok (.iconst 2, 1) := by decide +kernel
theorem dL_law_662 : decode cL_law 662 = .ok (.iadd, 1) := by decide +kernel
theorem dL_law_663 : decode cL_law 663 = .ok (.iaload, 1) := by decide +kernel
theorem dL_law_664 : decode cL_law 664 = .ok (.invokevirtual 85, 3) := by decide +kernel
theorem dL_law_667 : decode cL_law 667 = .ok (.aload_n 2, 1) := by decide +kernel
theorem dL_law_668 : decode cL_law 668 = .ok (.aload_n 0, 1) := by decide +kernel
theorem dL_law_669 : decode cL_law 669 = .ok (.iload_n 3, 1) := by decide +kernel
theorem dL_law_670 : decode cL_law 670 = .ok (.iconst 1, 1) := by decide +kernel
theorem dL_law_671 : decode cL_law 671 = .ok (.iadd, 1) := by decide +kernel
theorem dL_law_672 : decode cL_law 672 = .ok (.iaload, 1) := by decide +kernel
theorem dL_law_673 : decode cL_law 673 = .ok (.aload_n 0, 1) := by decide +kernel
theorem dL_law_674 : decode cL_law 674 = .ok (.iload_n 3, 1) := by decide +kernel
theorem dL_law_675 : decode cL_law 675 = .ok (.iconst 2, 1) := by decide +kernel
theorem dL_law_676 : decode cL_law 676 = .ok (.iadd, 1) := by decide +kernel
theorem dL_law_677 : decode cL_law 677 = .ok (.iaload, 1) := by decide +kernel
theorem dL_law_678 : decode cL_law 678 = .ok (.invokevirtual 88, 3) := by decide +kernel
theorem dL_law_681 : decode cL_law 681 = .ok (.if_icmp .eq 756, 3) := by decide +kernel
theorem dL_law_684 : decode cL_law 684 = .ok (.iconst 0, 1) := by decide +kernel
theorem dL_law_685 : decode cL_law 685 = .ok (.ireturn, 1) := by decide +kernel
theorem dL_law_686 : decode cL_law 686 = .ok (.aload_n 1, 1) := by decide +kernel
theorem dL_law_687 : decode cL_law 687 = .ok (.aload_n 0, 1) := by decide +kernel
theorem dL_law_688 : decode cL_law 688 = .ok (.iload_n 3, 1) := by decide +kernel
theorem dL_law_689 : decode cL_law 689 = .ok (.iconst 1, 1) := by decide +kernel
theorem dL_law_690 : decode cL_law 690 = .ok (.iadd, 1) := by decide +kernel
theorem dL_law_691 : decode cL_law 691 = .ok (.iaload, 1) := by decide +kernel
theorem dL_law_692 : decode cL_law 692 = .ok (.invokevirtual 89, 3) := by decide +kernel
theorem dL_law_695 : decode cL_law 695 = .ok (.aload_n 2, 1) := by decide +kernel
theorem dL_law_696 : decode cL_law 696 = .ok (.aload_n 0, 1) := by decide +kernel
theorem dL_law_697 : decode cL_law 697 = .ok (.iload_n 3, 1) := by decide +kernel
theorem dL_law_698 : decode cL_law 698 = .ok (.iconst 1, 1) := by decide +kernel
theorem dL_law_699 : decode cL_law 699 = .ok (.iadd, 1) := by decide +kernel
theorem dL_law_700 : decode cL_law 700 = .ok (.iaload, 1) := by decide +kernel
theorem dL_law_701 : decode cL_law 701 = .ok (.invokevirtual 92, 3) := by decide +kernel
theorem dL_law_704 : decode cL_law 704 = .ok (.if_icmp .eq 733, 3) := by decide +kernel
theorem dL_law_707 : decode cL_law 707 = .ok (.iconst 0, 1) := by decide +kernel
theorem dL_law_708 : decode cL_law 708 = .ok (.ireturn, 1) := by decide +kernel
theorem dL_law_709 : decode cL_law 709 = .ok (.aload_n 1, 1) := by decide +kernel
theorem dL_law_710 : decode cL_law 710 = .ok (.invokevirtual 93, 3) := by decide +kernel
theorem dL_law_713 : decode cL_law 713 = .ok (.aload_n 2, 1) := by decide +kernel
theorem dL_law_714 : decode cL_law 714 = .ok (.invokevirtual 96, 3) := by decide +kernel
theorem dL_law_717 : decode cL_law 717 = .ok (.if_icmp .eq 720, 3) := by decide +kernel
theorem dL_law_720 : decode cL_law 720 = .ok (.iconst 0, 1) := by decide +kernel
theorem dL_law_721 : decode cL_law 721 = .ok (.ireturn, 1) := by decide +kernel
theorem dL_law_722 : decode cL_law 722 = .ok (.aload_n 1, 1) := by decide +kernel
theorem dL_law_723 : decode cL_law 723 = .ok (.aload_n 0, 1) := by decide +kernel
theorem dL_law_724 : decode cL_law 724 = .ok (.iload_n 3, 1) := by decide +kernel
theorem dL_law_725 : decode cL_law 725 = .ok (.iconst 1, 1) := by decide +kernel
theorem dL_law_726 : decode cL_law 726 = .ok (.iadd, 1) := by decide +kernel
theorem dL_law_727 : decode cL_law 727 = .ok (.iaload, 1) := by decide +kernel
theorem dL_law_728 : decode cL_law 728 = .ok (.aload_n 0, 1) := by decide +kernel
theorem dL_law_729 : decode cL_law 729 = .ok (.iload_n 3, 1) := by decide +kernel
theorem dL_law_730 : decode cL_law 730 = .ok (.iconst 2, 1) := by decide +kernel
theorem dL_law_731 : decode cL_law 731 = .ok (.iadd, 1) := by decide +kernel
theorem dL_law_732 : decode cL_law 732 = .ok (.iaload, 1) := by decide +kernel
theorem dL_law_733 : decode cL_law 733 = .ok (.aload_n 0, 1) := by decide +kernel
theorem dL_law_734 : decode cL_law 734 = .ok (.iload_n 3, 1) := by decide +kernel
theorem dL_law_735 : decode cL_law 735 = .ok (.iconst 3, 1) := by decide +kernel
theorem dL_law_736 : decode cL_law 736 = .ok (.iadd, 1) := by decide +kernel
theorem dL_law_737 : decode cL_law 737 = .ok (.iaload, 1) := by decide +kernel
theorem dL_law_738 : decode cL_law 738 = .ok (.invokevirtual 97, 3) := by decide +kernel
theorem dL_law_741 : decode cL_law 741 = .ok (.aload_n 2, 1) := by decide +kernel
theorem dL_law_742 : decode cL_law 742 = .ok (.aload_n 0, 1) := by decide +kernel
theorem dL_law_743 : decode cL_law 743 = .ok (.iload_n 3, 1) := by decide +kernel
theorem dL_law_744 : decode cL_law 744 = .ok (.iconst 1, 1) := by decide +kernel
theorem dL_law_745 : decode cL_law 745 = .ok (.iadd, 1) := by decide +kernel
theorem dL_law_746 : decode cL_law 746 = .ok (.iaload, 1) := by decide +kernel
theorem dL_law_747 : decode cL_law 747 = .ok (.aload_n 0, 1) := by decide +kernel
theorem dL_law_748 : decode cL_law 748 = .ok (.iload_n 3, 1) := by decide +kernel
theorem dL_law_749 : decode cL_law 749 = .ok (.iconst 2, 1) := by decide +kernel
theorem dL_law_750 : decode cL_law 750 = .ok (.iadd, 1) := by decide +kernel
theorem dL_law_751 : decode cL_law 751 = .ok (.iaload, 1) := by decide +kernel
theorem dL_law_752 : decode cL_law 752 = .ok (.aload_n 0, 1) := by decide +kernel
theorem dL_law_753 : decode cL_law 753 = .ok (.iload_n 3, 1) := by decide +kernel
theorem dL_law_754 : decode cL_law 754 = .ok (.iconst 3, 1) := by decide +kernel
theorem dL_law_755 : decode cL_law 755 = .ok (.iadd, 1) := by decide +kernel
theorem dL_law_756 : decode cL_law 756 = .ok (.iaload, 1) := by decide +kernel
theorem dL_law_757 : decode cL_law 757 = .ok (.invokevirtual 100, 3) := by decide +kernel
theorem dL_law_760 : decode cL_law 760 = .ok (.if_icmp .eq 677, 3) := by decide +kernel
theorem dL_law_763 : decode cL_law 763 = .ok (.iconst 0, 1) := by decide +kernel
theorem dL_law_764 : decode cL_law 764 = .ok (.ireturn, 1) := by decide +kernel
theorem dL_law_765 : decode cL_law 765 = .ok (.aload_n 1, 1) := by decide +kernel
theorem dL_law_766 : decode cL_law 766 = .ok (.aload_n 0, 1) := by decide +kernel
theorem dL_law_767 : decode cL_law 767 = .ok (.iload_n 3, 1) := by decide +kernel
theorem dL_law_768 : decode cL_law 768 = .ok (.iconst 1, 1) := by decide +kernel
theorem dL_law_769 : decode cL_law 769 = .ok (.iadd, 1) := by decide +kernel
theorem dL_law_770 : decode cL_law 770 = .ok (.iaload, 1) := by decide +kernel
theorem dL_law_771 : decode cL_law 771 = .ok (.aload_n 0, 1) := by decide +kernel
theorem dL_law_772 : decode cL_law 772 = .ok (.iload_n 3, 1) := by decide +kernel
theorem dL_law_773 : decode cL_law 773 = .ok (.iconst 2, 1) := by decide +kernel
theorem dL_law_774 : decode cL_law 774 = .ok (.iadd, 1) := by decide +kernel
theorem dL_law_775 : decode cL_law 775 = .ok (.iaload, 1) := by decide +kernel
theorem dL_law_776 : decode cL_law 776 = .ok (.aload_n 0, 1) := by decide +kernel
theorem dL_law_777 : decode cL_law 777 = .ok (.iload_n 3, 1) := by decide +kernel
theorem dL_law_778 : decode cL_law 778 = .ok (.iconst 3, 1) := by decide +kernel
theorem dL_law_779 : decode cL_law 779 = .ok (.iadd, 1) := by decide +kernel
theorem dL_law_780 : decode cL_law 780 = .ok (.iaload, 1) := by decide +kernel
theorem dL_law_781 : decode cL_law 781 = .ok (.invokevirtual 101, 3) := by decide +kernel
theorem dL_law_784 : decode cL_law 784 = .ok (.aload_n 2, 1) := by decide +kernel
theorem dL_law_785 : decode cL_law 785 = .ok (.aload_n 0, 1) := by decide +kernel
theorem dL_law_786 : decode cL_law 786 = .ok (.iload_n 3, 1) := by decide +kernel
theorem dL_law_787 : decode cL_law 787 = .ok (.iconst 1, 1) := by decide +kernel
theorem dL_law_788 : decode cL_law 788 = .ok (.iadd, 1) := by decide +kernel
theorem dL_law_789 : decode cL_law 789 = .ok (.iaload, 1) := by decide +kernel
theorem dL_law_790 : decode cL_law 790 = .ok (.aload_n 0, 1) := by decide +kernel
theorem dL_law_791 : decode cL_law 791 = .ok (.iload_n 3, 1) := by decide +kernel
theorem dL_law_792 : decode cL_law 792 = .ok (.iconst 2, 1) := by decide +kernel
theorem dL_law_793 : decode cL_law 793 = .ok (.iadd, 1) := by decide +kernel
theorem dL_law_794 : decode cL_law 794 = .ok (.iaload, 1) := by decide +kernel
theorem dL_law_795 : decode cL_law 795 = .ok (.aload_n 0, 1) := by decide +kernel
theorem dL_law_796 : decode cL_law 796 = .ok (.iload_n 3, 1) := by decide +kernel
theorem dL_law_797 : decode cL_law 797 = .ok (.iconst 3, 1) := by decide +kernel
theorem dL_law_798 : decode cL_law 798 = .ok (.iadd, 1) := by decide +kernel
theorem dL_law_799 : decode cL_law 799 = .ok (.iaload, 1) := by decide +kernel
theorem dL_law_800 : decode cL_law 800 = .ok (.invokevirtual 104, 3) := by decide +kernel
theorem dL_law_803 : decode cL_law 803 = .ok (.if_icmp .eq 634, 3) := by decide +kernel
theorem dL_law_806 : decode cL_law 806 = .ok (.iconst 0, 1) := by decide +kernel
theorem dL_law_807 : decode cL_law 807 = .ok (.ireturn, 1) := by decide +kernel
theorem dL_law_808 : decode cL_law 808 = .ok (.aload_n 1, 1) := by decide +kernel
theorem dL_law_809 : decode cL_law 809 = .ok (.aload_n 0, 1) := by decide +kernel
theorem dL_law_810 : decode cL_law 810 = .ok (.iload_n 3, 1) := by decide +kernel
theorem dL_law_811 : decode cL_law 811 = .ok (.iconst 1, 1) := by decide +kernel
theorem dL_law_812 : decode cL_law 812 = .ok (.iadd, 1) := by decide +kernel
theorem dL_law_813 : decode cL_law 813 = .ok (.iaload, 1) := by decide +kernel
theorem dL_law_814 : decode cL_law 814 = .ok (.aload_n 0, 1) := by decide +kernel
theorem dL_law_815 : decode cL_law 815 = .ok (.iload_n 3, 1) := by decide +kernel
theorem dL_law_816 : decode cL_law 816 = .ok (.iconst 2, 1) := by decide +kernel
theorem dL_law_817 : decode cL_law 817 = .ok (.iadd, 1) := by decide +kernel
theorem dL_law_818 : decode cL_law 818 = .ok (.iaload, 1) := by decide +kernel
theorem dL_law_819 : decode cL_law 819 = .ok (.invokevirtual 105, 3) := by decide +kernel
theorem dL_law_822 : decode cL_law 822 = .ok (.aload_n 2, 1) := by decide +kernel
theorem dL_law_823 : decode cL_law 823 = .ok (.aload_n 0, 1) := by decide +kernel
theorem dL_law_824 : decode cL_law 824 = .ok (.iload_n 3, 1) := by decide +kernel
theorem dL_law_825 : decode cL_law 825 = .ok (.iconst 1, 1) := by decide +kernel
theorem dL_law_826 : decode cL_law 826 = .ok (.iadd, 1) := by decide +kernel
theorem dL_law_827 : decode cL_law 827 = .ok (.iaload, 1) := by decide +kernel
theorem dL_law_828 : decode cL_law 828 = .ok (.aload_n 0, 1) := by decide +kernel
theorem dL_law_829 : decode cL_law 829 = .ok (.iload_n 3, 1) := by decide +kernel
theorem dL_law_830 : decode cL_law 830 = .ok (.iconst 2, 1) := by decide +kernel
theorem dL_law_831 : decode cL_law 831 = .ok (.iadd, 1) := by decide +kernel
theorem dL_law_832 : decode cL_law 832 = .ok (.iaload, 1) := by decide +kernel
theorem dL_law_833 : decode cL_law 833 = .ok (.invokevirtual 108, 3) := by decide +kernel
theorem dL_law_836 : decode cL_law 836 = .ok (.if_icmp .eq 601, 3) := by decide +kernel
theorem dL_law_839 : decode cL_law 839 = .ok (.iconst 0, 1) := by decide +kernel
theorem dL_law_840 : decode cL_law 840 = .ok (.ireturn, 1) := by decide +kernel
theorem dL_law_841 : decode cL_law 841 = .ok (.aload_n 1, 1) := by decide +kernel
theorem dL_law_842 : decode cL_law 842 = .ok (.aload_n 0, 1) := by decide +kernel
theorem dL_law_843 : decode cL_law 843 = .ok (.iload_n 3, 1) := by decide +kernel
theorem dL_law_844 : decode cL_law 844 = .ok (.iconst 1, 1) := by decide +kernel
theorem dL_law_845 : decode cL_law 845 = .ok (.iadd, 1) := by decide +kernel
theorem dL_law_846 : decode cL_law 846 = .ok (.iaload, 1) := by decide +kernel
theorem dL_law_847 : decode cL_law 847 = .ok (.aload_n 0, 1) := by decide +kernel
theorem dL_law_848 : decode cL_law 848 = .ok (.iload_n 3, 1) := by decide +kernel
theorem dL_law_849 : decode cL_law 849 = .ok (.iconst 2, 1) := by decide +kernel
theorem dL_law_850 : decode cL_law 850 = .ok (.iadd, 1) := by decide +kernel
theorem dL_law_851 : decode cL_law 851 = .ok (.iaload, 1) := by decide +kernel
theorem dL_law_852 : decode cL_law 852 = .ok (.invokevirtual 109, 3) := by decide +kernel
theorem dL_law_855 : decode cL_law 855 = .ok (.aload_n 2, 1) := by decide +kernel
theorem dL_law_856 : decode cL_law 856 = .ok (.aload_n 0, 1) := by decide +kernel
theorem dL_law_857 : decode cL_law 857 = .ok (.iload_n 3, 1) := by decide +kernel
theorem dL_law_858 : decode cL_law 858 = .ok (.iconst 1, 1) := by decide +kernel
theorem dL_law_859 : decode cL_law 859 = .ok (.iadd, 1) := by decide +kernel
theorem dL_law_860 : decode cL_law 860 = .ok (.iaload, 1) := by decide +kernel
theorem dL_law_861 : decode cL_law 861 = .ok (.aload_n 0, 1) := by decide +kernel
theorem dL_law_862 : decode cL_law 862 = .ok (.iload_n 3, 1) := by decide +kernel
theorem dL_law_863 : decode cL_law 863 = .ok (.iconst 2, 1) := by decide +kernel
theorem dL_law_864 : decode cL_law 864 = .ok (.iadd, 1) := by decide +kernel
theorem dL_law_865 : decode cL_law 865 = .ok (.iaload, 1) := by decide +kernel
theorem dL_law_866 : decode cL_law 866 = .ok (.invokevirtual 112, 3) := by decide +kernel
theorem dL_law_869 : decode cL_law 869 = .ok (.if_icmp .eq 568, 3) := by decide +kernel
theorem dL_law_872 : decode cL_law 872 = .ok (.iconst 0, 1) := by decide +kernel
theorem dL_law_873 : decode cL_law 873 = .ok (.ireturn, 1) := by decide +kernel
theorem dL_law_874 : decode cL_law 874 = .ok (.aload_n 1, 1) := by decide +kernel
theorem dL_law_875 : decode cL_law 875 = .ok (.aload_n 0, 1) := by decide +kernel
theorem dL_law_876 : decode cL_law 876 = .ok (.iload_n 3, 1) := by decide +kernel
theorem dL_law_877 : decode cL_law 877 = .ok (.iconst 1, 1) := by decide +kernel
theorem dL_law_878 : decode cL_law 878 = .ok (.iadd, 1) := by decide +kernel
theorem dL_law_879 : decode cL_law 879 = .ok (.iaload, 1) := by decide +kernel
theorem dL_law_880 : decode cL_law 880 = .ok (.aload_n 0, 1) := by decide +kernel
theorem dL_law_881 : decode cL_law 881 = .ok (.iload_n 3, 1) := by decide +kernel
theorem dL_law_882 : decode cL_law 882 = .ok (.iconst 2, 1) := by decide +kernel
theorem dL_law_883 : decode cL_law 883 = .ok (.iadd, 1) := by decide +kernel
theorem dL_law_884 : decode cL_law 884 = .ok (.iaload, 1) := by decide +kernel
theorem dL_law_885 : decode cL_law 885 = .ok (.invokevirtual 113, 3) := by decide +kernel
theorem dL_law_888 : decode cL_law 888 = .ok (.aload_n 2, 1) := by decide +kernel
theorem dL_law_889 : decode cL_law 889 = .ok (.aload_n 0, 1) := by decide +kernel
theorem dL_law_890 : decode cL_law 890 = .ok (.iload_n 3, 1) := by decide +kernel
theorem dL_law_891 : decode cL_law 891 = .ok (.iconst 1, 1) := by decide +kernel
theorem dL_law_892 : decode cL_law 892 = .ok (.iadd, 1) := by decide +kernel
theorem dL_law_893 : decode cL_law 893 = .ok (.iaload, 1) := by decide +kernel
theorem dL_law_894 : decode cL_law 894 = .ok (.aload_n 0, 1) := by decide +kernel
theorem dL_law_895 : decode cL_law 895 = .ok (.iload_n 3, 1) := by decide +kernel
theorem dL_law_896 : decode cL_law 896 = .ok (.iconst 2, 1) := by decide +kernel
theorem dL_law_897 : decode cL_law 897 = .ok (.iadd, 1) := by decide +kernel
theorem dL_law_898 : decode cL_law 898 = .ok (.iaload, 1) := by decide +kernel
theorem dL_law_899 : decode cL_law 899 = .ok (.invokevirtual 116, 3) := by decide +kernel
theorem dL_law_902 : decode cL_law 902 = .ok (.if_icmp .eq 535, 3) := by decide +kernel
theorem dL_law_905 : decode cL_law 905 = .ok (.iconst 0, 1) := by decide +kernel
theorem dL_law_906 : decode cL_law 906 = .ok (.ireturn, 1) := by decide +kernel
theorem dL_law_907 : decode cL_law 907 = .ok (.aload_n 1, 1) := by decide +kernel
theorem dL_law_908 : decode cL_law 908 = .ok (.aload_n 0, 1) := by decide +kernel
theorem dL_law_909 : decode cL_law 909 = .ok (.iload_n 3, 1) := by decide +kernel
theorem dL_law_910 : decode cL_law 910 = .ok (.iconst 1, 1) := by decide +kernel
theorem dL_law_911 : decode cL_law 911 = .ok (.iadd, 1) := by decide +kernel
theorem dL_law_912 : decode cL_law 912 = .ok (.iaload, 1) := by decide +kernel
theorem dL_law_913 : decode cL_law 913 = .ok (.aload_n 0, 1) := by decide +kernel
theorem dL_law_914 : decode cL_law 914 = .ok (.iload_n 3, 1) := by decide +kernel
theorem dL_law_915 : decode cL_law 915 = .ok (.iconst 2, 1) := by decide +kernel
theorem dL_law_916 : decode cL_law 916 = .ok (.iadd, 1) := by decide +kernel
theorem dL_law_917 : decode cL_law 917 = .ok (.iaload, 1) := by decide +kernel
theorem dL_law_918 : decode cL_law 918 = .ok (.invokevirtual 117, 3) := by decide +kernel
theorem dL_law_921 : decode cL_law 921 = .ok (.aload_n 2, 1) := by decide +kernel
theorem dL_law_922 : decode cL_law 922 = .ok (.aload_n 0, 1) := by decide +kernel
theorem dL_law_923 : decode cL_law 923 = .ok (.iload_n 3, 1) := by decide +kernel
theorem dL_law_924 : decode cL_law 924 = .ok (.iconst 1, 1) := by decide +kernel
theorem dL_law_925 : decode cL_law 925 = .ok (.iadd, 1) := by decide +kernel
theorem dL_law_926 : decode cL_law 926 = .ok (.iaload, 1) := by decide +kernel
theorem dL_law_927 : decode cL_law 927 = .ok (.aload_n 0, 1) := by decide +kernel
theorem dL_law_928 : decode cL_law 928 = .ok (.iload_n 3, 1) := by decide +kernel
theorem dL_law_929 : decode cL_law 929 = .ok (.iconst 2, 1) := by decide +kernel
theorem dL_law_930 : decode cL_law 930 = .ok (.iadd, 1) := by decide +kernel
theorem dL_law_931 : decode cL_law 931 = .ok (.iaload, 1) := by decide +kernel
theorem dL_law_932 : decode cL_law 932 = .ok (.invokevirtual 120, 3) := by decide +kernel
theorem dL_law_935 : decode cL_law 935 = .ok (.if_icmp .eq 502, 3) := by decide +kernel
theorem dL_law_938 : decode cL_law 938 = .ok (.iconst 0, 1) := by decide +kernel
theorem dL_law_939 : decode cL_law 939 = .ok (.ireturn, 1) := by decide +kernel
theorem dL_law_940 : decode cL_law 940 = .ok (.aload_n 1, 1) := by decide +kernel
theorem dL_law_941 : decode cL_law 941 = .ok (.aload_n 0, 1) := by decide +kernel
theorem dL_law_942 : decode cL_law 942 = .ok (.iload_n 3, 1) := by decide +kernel
theorem dL_law_943 : decode cL_law 943 = .ok (.iconst 1, 1) := by decide +kernel
theorem dL_law_944 : decode cL_law 944 = .ok (.iadd, 1) := by decide +kernel
theorem dL_law_945 : decode cL_law 945 = .ok (.iaload, 1) := by decide +kernel
theorem dL_law_946 : decode cL_law 946 = .ok (.aload_n 0, 1) := by decide +kernel
theorem dL_law_947 : decode cL_law 947 = .ok (.iload_n 3, 1) := by decide +kernel
theorem dL_law_948 : decode cL_law 948 = .ok (.iconst 2, 1) := by decide +kernel
theorem dL_law_949 : decode cL_law 949 = .ok (.iadd, 1) := by decide +kernel
theorem dL_law_950 : decode cL_law 950 = .ok (.iaload, 1) := by decide +kernel
theorem dL_law_951 : decode cL_law 951 = .ok (.aload_n 0, 1) := by decide +kernel
theorem dL_law_952 : decode cL_law 952 = .ok (.iload_n 3, 1) := by decide +kernel
theorem dL_law_953 : decode cL_law 953 = .ok (.iconst 3, 1) := by decide +kernel
theorem dL_law_954 : decode cL_law 954 = .ok (.iadd, 1) := by decide +kernel
theorem dL_law_955 : decode cL_law 955 = .ok (.iaload, 1) := by decide +kernel
theorem dL_law_956 : decode cL_law 956 = .ok (.invokevirtual 121, 3) := by decide +kernel
theorem dL_law_959 : decode cL_law 959 = .ok (.aload_n 2, 1) := by decide +kernel
theorem dL_law_960 : decode cL_law 960 = .ok (.aload_n 0, 1) := by decide +kernel
theorem dL_law_961 : decode cL_law 961 = .ok (.iload_n 3, 1) := by decide +kernel
theorem dL_law_962 : decode cL_law 962 = .ok (.iconst 1, 1) := by decide +kernel
theorem dL_law_963 : decode cL_law 963 = .ok (.iadd, 1) := by decide +kernel
theorem dL_law_964 : decode cL_law 964 = .ok (.iaload, 1) := by decide +kernel
theorem dL_law_965 : decode cL_law 965 = .ok (.aload_n 0, 1) := by decide +kernel
theorem dL_law_966 : decode cL_law 966 = .ok (.iload_n 3, 1) := by decide +kernel
theorem dL_law_967 : decode cL_law 967 = .ok (.iconst 2, 1) := by decide +kernel
theorem dL_law_968 : decode cL_law 968 = .ok (.iadd, 1) := by decide +kernel
theorem dL_law_969 : decode cL_law 969 = .ok (.iaload, 1) := by decide +kernel
theorem dL_law_970 : decode cL_law 970 = .ok (.aload_n 0, 1) := by decide +kernel
theorem dL_law_971 : decode cL_law 971 = .ok (.iload_n 3, 1) := by decide +kernel
theorem dL_law_972 : decode cL_law 972 = .ok (.iconst 3, 1) := by decide +kernel
theorem dL_law_973 : decode cL_law 973 = .ok (.iadd, 1) := by decide +kernel
theorem dL_law_974 : decode cL_law 974 = .ok (.iaload, 1) := by decide +kernel
theorem dL_law_975 : decode cL_law 975 = .ok (.invokevirtual 125, 3) := by decide +kernel
theorem dL_law_978 : decode cL_law 978 = .ok (.lcmp, 1) := by decide +kernel
theorem dL_law_979 : decode cL_law 979 = .ok (.ifCond .eq 458, 3) := by decide +kernel
theorem dL_law_982 : decode cL_law 982 = .ok (.iconst 0, 1) := by decide +kernel
theorem dL_law_983 : decode cL_law 983 = .ok (.ireturn, 1) := by decide +kernel
theorem dL_law_984 : decode cL_law 984 = .ok (.aload_n 1, 1) := by decide +kernel
theorem dL_law_985 : decode cL_law 985 = .ok (.aload_n 0, 1) := by decide +kernel
theorem dL_law_986 : decode cL_law 986 = .ok (.iload_n 3, 1) := by decide +kernel
theorem dL_law_987 : decode cL_law 987 = .ok (.iconst 1, 1) := by decide +kernel
theorem dL_law_988 : decode cL_law 988 = .ok (.iadd, 1) := by decide +kernel
theorem dL_law_989 : decode cL_law 989 = .ok (.iaload, 1) := by decide +kernel
theorem dL_law_990 : decode cL_law 990 = .ok (.aload_n 0, 1) := by decide +kernel
theorem dL_law_991 : decode cL_law 991 = .ok (.iload_n 3, 1) := by decide +kernel
theorem dL_law_992 : decode cL_law 992 = .ok (.iconst 2, 1) := by decide +kernel
theorem dL_law_993 : decode cL_law 993 = .ok (.iadd, 1) := by decide +kernel
theorem dL_law_994 : decode cL_law 994 = .ok (.iaload, 1) := by decide +kernel
theorem dL_law_995 : decode cL_law 995 = .ok (.aload_n 0, 1) := by decide +kernel
theorem dL_law_996 : decode cL_law 996 = .ok (.iload_n 3, 1) := by decide +kernel
theorem dL_law_997 : decode cL_law 997 = .ok (.iconst 3, 1) := by decide +kernel
theorem dL_law_998 : decode cL_law 998 = .ok (.iadd, 1) := by decide +kernel
theorem dL_law_999 : decode cL_law 999 = .ok (.iaload, 1) := by decide +kernel
theorem dL_law_1000 : decode cL_law 1000 = .ok (.invokevirtual 126, 3) := by decide +kernel
theorem dL_law_1003 : decode cL_law 1003 = .ok (.aload_n 2, 1) := by decide +kernel
theorem dL_law_1004 : decode cL_law 1004 = .ok (.aload_n 0, 1) := by decide +kernel
theorem dL_law_1005 : decode cL_law 1005 = .ok (.iload_n 3, 1) := by decide +kernel
theorem dL_law_1006 : decode cL_law 1006 = .ok (.iconst 1, 1) := by decide +kernel
theorem dL_law_1007 : decode cL_law 1007 = .ok (.iadd, 1) := by decide +kernel
theorem dL_law_1008 : decode cL_law 1008 = .ok (.iaload, 1) := by decide +kernel
theorem dL_law_1009 : decode cL_law 1009 = .ok (.aload_n 0, 1) := by decide +kernel
theorem dL_law_1010 : decode cL_law 1010 = .ok (.iload_n 3, 1) := by decide +kernel
theorem dL_law_1011 : decode cL_law 1011 = .ok (.iconst 2, 1) := by decide +kernel
theorem dL_law_1012 : decode cL_law 1012 = .ok (.iadd, 1) := by decide +kernel
theorem dL_law_1013 : decode cL_law 1013 = .ok (.iaload, 1) := by decide +kernel
theorem dL_law_1014 : decode cL_law 1014 = .ok (.aload_n 0, 1) := by decide +kernel
theorem dL_law_1015 : decode cL_law 1015 = .ok (.iload_n 3, 1) := by decide +kernel
theorem dL_law_1016 : decode cL_law 1016 = .ok (.iconst 3, 1) := by decide +kernel
theorem dL_law_1017 : decode cL_law 1017 = .ok (.iadd, 1) := by decide +kernel
theorem dL_law_1018 : decode cL_law 1018 = .ok (.iaload, 1) := by decide +kernel
theorem dL_law_1019 : decode cL_law 1019 = .ok (.invokevirtual 129, 3) := by decide +kernel
theorem dL_law_1022 : decode cL_law 1022 = .ok (.lcmp, 1) := by decide +kernel
theorem dL_law_1023 : decode cL_law 1023 = .ok (.ifCond .eq 414, 3) := by decide +kernel
theorem dL_law_1026 : decode cL_law 1026 = .ok (.iconst 0, 1) := by decide +kernel
theorem dL_law_1027 : decode cL_law 1027 = .ok (.ireturn, 1) := by decide +kernel
theorem dL_law_1028 : decode cL_law 1028 = .ok (.aload_n 1, 1) := by decide +kernel
theorem dL_law_1029 : decode cL_law 1029 = .ok (.aload_n 0, 1) := by decide +kernel
theorem dL_law_1030 : decode cL_law 1030 = .ok (.iload_n 3, 1) := by decide +kernel
theorem dL_law_1031 : decode cL_law 1031 = .ok (.iconst 1, 1) := by decide +kernel
theorem dL_law_1032 : decode cL_law 1032 = .ok (.iadd, 1) := by decide +kernel
theorem dL_law_1033 : decode cL_law 1033 = .ok (.iaload, 1) := by decide +kernel
theorem dL_law_1034 : decode cL_law 1034 = .ok (.aload_n 0, 1) := by decide +kernel
theorem dL_law_1035 : decode cL_law 1035 = .ok (.iload_n 3, 1) := by decide +kernel
theorem dL_law_1036 : decode cL_law 1036 = .ok (.iconst 2, 1) := by decide +kernel
theorem dL_law_1037 : decode cL_law 1037 = .ok (.iadd, 1) := by decide +kernel
theorem dL_law_1038 : decode cL_law 1038 = .ok (.iaload, 1) := by decide +kernel
theorem dL_law_1039 : decode cL_law 1039 = .ok (.aload_n 0, 1) := by decide +kernel
theorem dL_law_1040 : decode cL_law 1040 = .ok (.iload_n 3, 1) := by decide +kernel
theorem dL_law_1041 : decode cL_law 1041 = .ok (.iconst 3, 1) := by decide +kernel
theorem dL_law_1042 : decode cL_law 1042 = .ok (.iadd, 1) := by decide +kernel
theorem dL_law_1043 : decode cL_law 1043 = .ok (.iaload, 1) := by decide +kernel
theorem dL_law_1044 : decode cL_law 1044 = .ok (.invokevirtual 130, 3) := by decide +kernel
theorem dL_law_1047 : decode cL_law 1047 = .ok (.aload_n 2, 1) := by decide +kernel
theorem dL_law_1048 : decode cL_law 1048 = .ok (.aload_n 0, 1) := by decide +kernel
theorem dL_law_1049 : decode cL_law 1049 = .ok (.iload_n 3, 1) := by decide +kernel
theorem dL_law_1050 : decode cL_law 1050 = .ok (.iconst 1, 1) := by decide +kernel
theorem dL_law_1051 : decode cL_law 1051 = .ok (.iadd, 1) := by decide +kernel
theorem dL_law_1052 : decode cL_law 1052 = .ok (.iaload, 1) := by decide +kernel
theorem dL_law_1053 : decode cL_law 1053 = .ok (.aload_n 0, 1) := by decide +kernel
theorem dL_law_1054 : decode cL_law 1054 = .ok (.iload_n 3, 1) := by decide +kernel
theorem dL_law_1055 : decode cL_law 1055 = .ok (.iconst 2, 1) := by decide +kernel
theorem dL_law_1056 : decode cL_law 1056 = .ok (.iadd, 1) := by decide +kernel
theorem dL_law_1057 : decode cL_law 1057 = .ok (.iaload, 1) := by decide +kernel
theorem dL_law_1058 : decode cL_law 1058 = .ok (.aload_n 0, 1) := by decide +kernel
theorem dL_law_1059 : decode cL_law 1059 = .ok (.iload_n 3, 1) := by decide +kernel
theorem dL_law_1060 : decode cL_law 1060 = .ok (.iconst 3, 1) := by decide +kernel
theorem dL_law_1061 : decode cL_law 1061 = .ok (.iadd, 1) := by decide +kernel
theorem dL_law_1062 : decode cL_law 1062 = .ok (.iaload, 1) := by decide +kernel
theorem dL_law_1063 : decode cL_law 1063 = .ok (.invokevirtual 133, 3) := by decide +kernel
theorem dL_law_1066 : decode cL_law 1066 = .ok (.if_icmp .eq 371, 3) := by decide +kernel
theorem dL_law_1069 : decode cL_law 1069 = .ok (.iconst 0, 1) := by decide +kernel
theorem dL_law_1070 : decode cL_law 1070 = .ok (.ireturn, 1) := by decide +kernel
theorem dL_law_1071 : decode cL_law 1071 = .ok (.aload_n 1, 1) := by decide +kernel
theorem dL_law_1072 : decode cL_law 1072 = .ok (.aload_n 0, 1) := by decide +kernel
theorem dL_law_1073 : decode cL_law 1073 = .ok (.iload_n 3, 1) := by decide +kernel
theorem dL_law_1074 : decode cL_law 1074 = .ok (.iconst 1, 1) := by decide +kernel
theorem dL_law_1075 : decode cL_law 1075 = .ok (.iadd, 1) := by decide +kernel
theorem dL_law_1076 : decode cL_law 1076 = .ok (.iaload, 1) := by decide +kernel
theorem dL_law_1077 : decode cL_law 1077 = .ok (.invokevirtual 134, 3) := by decide +kernel
theorem dL_law_1080 : decode cL_law 1080 = .ok (.aload_n 2, 1) := by decide +kernel
theorem dL_law_1081 : decode cL_law 1081 = .ok (.aload_n 0, 1) := by decide +kernel
theorem dL_law_1082 : decode cL_law 1082 = .ok (.iload_n 3, 1) := by decide +kernel
theorem dL_law_1083 : decode cL_law 1083 = .ok (.iconst 1, 1) := by decide +kernel
theorem dL_law_1084 : decode cL_law 1084 = .ok (.iadd, 1) := by decide +kernel
theorem dL_law_1085 : decode cL_law 1085 = .ok (.iaload, 1) := by decide +kernel
theorem dL_law_1086 : decode cL_law 1086 = .ok (.invokevirtual 137, 3) := by decide +kernel
theorem dL_law_1089 : decode cL_law 1089 = .ok (.if_icmp .eq 348, 3) := by decide +kernel
theorem dL_law_1092 : decode cL_law 1092 = .ok (.iconst 0, 1) := by decide +kernel
theorem dL_law_1093 : decode cL_law 1093 = .ok (.ireturn, 1) := by decide +kernel
theorem dL_law_1094 : decode cL_law 1094 = .ok (.aload_n 1, 1) := by decide +kernel
theorem dL_law_1095 : decode cL_law 1095 = .ok (.aload_n 0, 1) := by decide +kernel
theorem dL_law_1096 : decode cL_law 1096 = .ok (.iload_n 3, 1) := by decide +kernel
theorem dL_law_1097 : decode cL_law 1097 = .ok (.iconst 1, 1) := by decide +kernel
theorem dL_law_1098 : decode cL_law 1098 = .ok (.iadd, 1) := by decide +kernel
theorem dL_law_1099 : decode cL_law 1099 = .ok (.iaload, 1) := by decide +kernel
theorem dL_law_1100 : decode cL_law 1100 = .ok (.invokevirtual 138, 3) := by decide +kernel
theorem dL_law_1103 : decode cL_law 1103 = .ok (.aload_n 2, 1) := by decide +kernel
theorem dL_law_1104 : decode cL_law 1104 = .ok (.aload_n 0, 1) := by decide +kernel
theorem dL_law_1105 : decode cL_law 1105 = .ok (.iload_n 3, 1) := by decide +kernel
theorem dL_law_1106 : decode cL_law 1106 = .ok (.iconst 1, 1) := by decide +kernel
theorem dL_law_1107 : decode cL_law 1107 = .ok (.iadd, 1) := by decide +kernel
theorem dL_law_1108 : decode cL_law 1108 = .ok (.iaload, 1) := by decide +kernel
theorem dL_law_1109 : decode cL_law 1109 = .ok (.invokevirtual 141, 3) := by decide +kernel
theorem dL_law_1112 : decode cL_law 1112 = .ok (.if_icmp .eq 325, 3) := by decide +kernel
theorem dL_law_1115 : decode cL_law 1115 = .ok (.iconst 0, 1) := by decide +kernel
theorem dL_law_1116 : decode cL_law 1116 = .ok (.ireturn, 1) := by decide +kernel
theorem dL_law_1117 : decode cL_law 1117 = .ok (.aload_n 1, 1) := by decide +kernel
theorem dL_law_1118 : decode cL_law 1118 = .ok (.aload_n 0, 1) := by decide +kernel
theorem dL_law_1119 : decode cL_law 1119 = .ok (.iload_n 3, 1) := by decide +kernel
theorem dL_law_1120 : decode cL_law 1120 = .ok (.iconst 1, 1) := by decide +kernel
theorem dL_law_1121 : decode cL_law 1121 = .ok (.iadd, 1) := by decide +kernel
theorem dL_law_1122 : decode cL_law 1122 = .ok (.iaload, 1) := by decide +kernel
theorem dL_law_1123 : decode cL_law 1123 = .ok (.invokevirtual 142, 3) := by decide +kernel
theorem dL_law_1126 : decode cL_law 1126 = .ok (.aload_n 2, 1) := by decide +kernel
theorem dL_law_1127 : decode cL_law 1127 = .ok (.aload_n 0, 1) := by decide +kernel
theorem dL_law_1128 : decode cL_law 1128 = .ok (.iload_n 3, 1) := by decide +kernel
theorem dL_law_1129 : decode cL_law 1129 = .ok (.iconst 1, 1) := by decide +kernel
theorem dL_law_1130 : decode cL_law 1130 = .ok (.iadd, 1) := by decide +kernel
theorem dL_law_1131 : decode cL_law 1131 = .ok (.iaload, 1) := by decide +kernel
theorem dL_law_1132 : decode cL_law 1132 = .ok (.invokevirtual 145, 3) := by decide +kernel
theorem dL_law_1135 : decode cL_law 1135 = .ok (.if_icmp .eq 302, 3) := by decide +kernel
theorem dL_law_1138 : decode cL_law 1138 = .ok (.iconst 0, 1) := by decide +kernel
theorem dL_law_1139 : decode cL_law 1139 = .ok (.ireturn, 1) := by decide +kernel
theorem dL_law_1140 : decode cL_law 1140 = .ok (.aload_n 1, 1) := by decide +kernel
theorem dL_law_1141 : decode cL_law 1141 = .ok (.aload_n 0, 1) := by decide +kernel
theorem dL_law_1142 : decode cL_law 1142 = .ok (.iload_n 3, 1) := by decide +kernel
theorem dL_law_1143 : decode cL_law 1143 = .ok (.iconst 1, 1) := by decide +kernel
theorem dL_law_1144 : decode cL_law 1144 = .ok (.iadd, 1) := by decide +kernel
theorem dL_law_1145 : decode cL_law 1145 = .ok (.iaload, 1) := by decide +kernel
theorem dL_law_1146 : decode cL_law 1146 = .ok (.aload_n 0, 1) := by decide +kernel
theorem dL_law_1147 : decode cL_law 1147 = .ok (.iload_n 3, 1) := by decide +kernel
theorem dL_law_1148 : decode cL_law 1148 = .ok (.iconst 2, 1) := by decide +kernel
theorem dL_law_1149 : decode cL_law 1149 = .ok (.iadd, 1) := by decide +kernel
theorem dL_law_1150 : decode cL_law 1150 = .ok (.iaload, 1) := by decide +kernel
theorem dL_law_1151 : decode cL_law 1151 = .ok (.invokevirtual 146, 3) := by decide +kernel
theorem dL_law_1154 : decode cL_law 1154 = .ok (.aload_n 2, 1) := by decide +kernel
theorem dL_law_1155 : decode cL_law 1155 = .ok (.aload_n 0, 1) := by decide +kernel
theorem dL_law_1156 : decode cL_law 1156 = .ok (.iload_n 3, 1) := by decide +kernel
theorem dL_law_1157 : decode cL_law 1157 = .ok (.iconst 1, 1) := by decide +kernel
theorem dL_law_1158 : decode cL_law 1158 = .ok (.iadd, 1) := by decide +kernel
theorem dL_law_1159 : decode cL_law 1159 = .ok (.iaload, 1) := by decide +kernel
theorem dL_law_1160 : decode cL_law 1160 = .ok (.aload_n 0, 1) := by decide +kernel
theorem dL_law_1161 : decode cL_law 1161 = .ok (.iload_n 3, 1) := by decide +kernel
theorem dL_law_1162 : decode cL_law 1162 = .ok (.iconst 2, 1) := by decide +kernel
theorem dL_law_1163 : decode cL_law 1163 = .ok (.iadd, 1) := by decide +kernel
theorem dL_law_1164 : decode cL_law 1164 = .ok (.iaload, 1) := by decide +kernel
theorem dL_law_1165 : decode cL_law 1165 = .ok (.invokevirtual 149, 3) := by decide +kernel
theorem dL_law_1168 : decode cL_law 1168 = .ok (.if_icmp .eq 269, 3) := by decide +kernel
theorem dL_law_1171 : decode cL_law 1171 = .ok (.iconst 0, 1) := by decide +kernel
theorem dL_law_1172 : decode cL_law 1172 = .ok (.ireturn, 1) := by decide +kernel
theorem dL_law_1173 : decode cL_law 1173 = .ok (.aload_n 1, 1) := by decide +kernel
theorem dL_law_1174 : decode cL_law 1174 = .ok (.aload_n 0, 1) := by decide +kernel
theorem dL_law_1175 : decode cL_law 1175 = .ok (.iload_n 3, 1) := by decide +kernel
theorem dL_law_1176 : decode cL_law 1176 = .ok (.iconst 1, 1) := by decide +kernel
theorem dL_law_1177 : decode cL_law 1177 = .ok (.iadd, 1) := by decide +kernel
theorem dL_law_1178 : decode cL_law 1178 = .ok (.iaload, 1) := by decide +kernel
theorem dL_law_1179 : decode cL_law 1179 = .ok (.aload_n 0, 1) := by decide +kernel
theorem dL_law_1180 : decode cL_law 1180 = .ok (.iload_n 3, 1) := by decide +kernel
theorem dL_law_1181 : decode cL_law 1181 = .ok (.iconst 2, 1) := by decide +kernel
theorem dL_law_1182 : decode cL_law 1182 = .ok (.iadd, 1) := by decide +kernel
theorem dL_law_1183 : decode cL_law 1183 = .ok (.iaload, 1) := by decide +kernel
theorem dL_law_1184 : decode cL_law 1184 = .ok (.aload_n 0, 1) := by decide +kernel
theorem dL_law_1185 : decode cL_law 1185 = .ok (.iload_n 3, 1) := by decide +kernel
theorem dL_law_1186 : decode cL_law 1186 = .ok (.iconst 3, 1) := by decide +kernel
theorem dL_law_1187 : decode cL_law 1187 = .ok (.iadd, 1) := by decide +kernel
theorem dL_law_1188 : decode cL_law 1188 = .ok (.iaload, 1) := by decide +kernel
theorem dL_law_1189 : decode cL_law 1189 = .ok (.invokevirtual 150, 3) := by decide +kernel
theorem dL_law_1192 : decode cL_law 1192 = .ok (.aload_n 2, 1) := by decide +kernel
theorem dL_law_1193 : decode cL_law 1193 = .ok (.aload_n 0, 1) := by decide +kernel
theorem dL_law_1194 : decode cL_law 1194 = .ok (.iload_n 3, 1) := by decide +kernel
theorem dL_law_1195 : decode cL_law 1195 = .ok (.iconst 1, 1) := by decide +kernel
theorem dL_law_1196 : decode cL_law 1196 = .ok (.iadd, 1) := by decide +kernel
theorem dL_law_1197 : decode cL_law 1197 = .ok (.iaload, 1) := by decide +kernel
theorem dL_law_1198 : decode cL_law 1198 = .ok (.aload_n 0, 1) := by decide +kernel
theorem dL_law_1199 : decode cL_law 1199 = .ok (.iload_n 3, 1) := by decide +kernel
theorem dL_law_1200 : decode cL_law 1200 = .ok (.iconst 2, 1) := by decide +kernel
theorem dL_law_1201 : decode cL_law 1201 = .ok (.iadd, 1) := by decide +kernel
theorem dL_law_1202 : decode cL_law 1202 = .ok (.iaload, 1) := by decide +kernel
theorem dL_law_1203 : decode cL_law 1203 = .ok (.aload_n 0, 1) := by decide +kernel
theorem dL_law_1204 : decode cL_law 1204 = .ok (.iload_n 3, 1) := by decide +kernel
theorem dL_law_1205 : decode cL_law 1205 = .ok (.iconst 3, 1) := by decide +kernel
theorem dL_law_1206 : decode cL_law 1206 = .ok (.iadd, 1) := by decide +kernel
theorem dL_law_1207 : decode cL_law 1207 = .ok (.iaload, 1) := by decide +kernel
theorem dL_law_1208 : decode cL_law 1208 = .ok (.invokevirtual 153, 3) := by decide +kernel
theorem dL_law_1211 : decode cL_law 1211 = .ok (.if_icmp .eq 226, 3) := by decide +kernel
theorem dL_law_1214 : decode cL_law 1214 = .ok (.iconst 0, 1) := by decide +kernel
theorem dL_law_1215 : decode cL_law 1215 = .ok (.ireturn, 1) := by decide +kernel
theorem dL_law_1216 : decode cL_law 1216 = .ok (.aload_n 1, 1) := by decide +kernel
theorem dL_law_1217 : decode cL_law 1217 = .ok (.aload_n 0, 1) := by decide +kernel
theorem dL_law_1218 : decode cL_law 1218 = .ok (.iload_n 3, 1) := by decide +kernel
theorem dL_law_1219 : decode cL_law 1219 = .ok (.iconst 1, 1) := by decide +kernel
theorem dL_law_1220 : decode cL_law 1220 = .ok (.iadd, 1) := by decide +kernel
theorem dL_law_1221 : decode cL_law 1221 = .ok (.iaload, 1) := by decide +kernel
theorem dL_law_1222 : decode cL_law 1222 = .ok (.invokevirtual 154, 3) := by decide +kernel
theorem dL_law_1225 : decode cL_law 1225 = .ok (.aload_n 2, 1) := by decide +kernel
theorem dL_law_1226 : decode cL_law 1226 = .ok (.aload_n 0, 1) := by decide +kernel
theorem dL_law_1227 : decode cL_law 1227 = .ok (.iload_n 3, 1) := by decide +kernel
theorem dL_law_1228 : decode cL_law 1228 = .ok (.iconst 1, 1) := by decide +kernel
theorem dL_law_1229 : decode cL_law 1229 = .ok (.iadd, 1) := by decide +kernel
theorem dL_law_1230 : decode cL_law 1230 = .ok (.iaload, 1) := by decide +kernel
theorem dL_law_1231 : decode cL_law 1231 = .ok (.invokevirtual 157, 3) := by decide +kernel
theorem dL_law_1234 : decode cL_law 1234 = .ok (.if_icmp .eq 203, 3) := by decide +kernel
theorem dL_law_1237 : decode cL_law 1237 = .ok (.iconst 0, 1) := by decide +kernel
theorem dL_law_1238 : decode cL_law 1238 = .ok (.ireturn, 1) := by decide +kernel
theorem dL_law_1239 : decode cL_law 1239 = .ok (.aload_n 1, 1) := by decide +kernel
theorem dL_law_1240 : decode cL_law 1240 = .ok (.aload_n 0, 1) := by decide +kernel
theorem dL_law_1241 : decode cL_law 1241 = .ok (.iload_n 3, 1) := by decide +kernel
theorem dL_law_1242 : decode cL_law 1242 = .ok (.iconst 1, 1) := by decide +kernel
theorem dL_law_1243 : decode cL_law 1243 = .ok (.iadd, 1) := by decide +kernel
theorem dL_law_1244 : decode cL_law 1244 = .ok (.iaload, 1) := by decide +kernel
theorem dL_law_1245 : decode cL_law 1245 = .ok (.invokevirtual 158, 3) := by decide +kernel
theorem dL_law_1248 : decode cL_law 1248 = .ok (.aload_n 2, 1) := by decide +kernel
theorem dL_law_1249 : decode cL_law 1249 = .ok (.aload_n 0, 1) := by decide +kernel
theorem dL_law_1250 : decode cL_law 1250 = .ok (.iload_n 3, 1) := by decide +kernel
theorem dL_law_1251 : decode cL_law 1251 = .ok (.iconst 1, 1) := by decide +kernel
theorem dL_law_1252 : decode cL_law 1252 = .ok (.iadd, 1) := by decide +kernel
theorem dL_law_1253 : decode cL_law 1253 = .ok (.iaload, 1) := by decide +kernel
theorem dL_law_1254 : decode cL_law 1254 = .ok (.invokevirtual 161, 3) := by decide +kernel
theorem dL_law_1257 : decode cL_law 1257 = .ok (.if_icmp .eq 180, 3) := by decide +kernel
theorem dL_law_1260 : decode cL_law 1260 = .ok (.iconst 0, 1) := by decide +kernel
theorem dL_law_1261 : decode cL_law 1261 = .ok (.ireturn, 1) := by decide +kernel
theorem dL_law_1262 : decode cL_law 1262 = .ok (.aload_n 1, 1) := by decide +kernel
theorem dL_law_1263 : decode cL_law 1263 = .ok (.aload_n 0, 1) := by decide +kernel
theorem dL_law_1264 : decode cL_law 1264 = .ok (.iload_n 3, 1) := by decide +kernel
theorem dL_law_1265 : decode cL_law 1265 = .ok (.iconst 1, 1) := by decide +kernel
theorem dL_law_1266 : decode cL_law 1266 = .ok (.iadd, 1) := by decide +kernel
theorem dL_law_1267 : decode cL_law 1267 = .ok (.iaload, 1) := by decide +kernel
theorem dL_law_1268 : decode cL_law 1268 = .ok (.aload_n 0, 1) := by decide +kernel
theorem dL_law_1269 : decode cL_law 1269 = .ok (.iload_n 3, 1) := by decide +kernel
theorem dL_law_1270 : decode cL_law 1270 = .ok (.iconst 2, 1) := by decide +kernel
theorem dL_law_1271 : decode cL_law 1271 = .ok (.iadd, 1) := by decide +kernel
theorem dL_law_1272 : decode cL_law 1272 = .ok (.iaload, 1) := by decide +kernel
theorem dL_law_1273 : decode cL_law 1273 = .ok (.aload_n 0, 1) := by decide +kernel
theorem dL_law_1274 : decode cL_law 1274 = .ok (.iload_n 3, 1) := by decide +kernel
theorem dL_law_1275 : decode cL_law 1275 = .ok (.iconst 3, 1) := by decide +kernel
theorem dL_law_1276 : decode cL_law 1276 = .ok (.iadd, 1) := by decide +kernel
theorem dL_law_1277 : decode cL_law 1277 = .ok (.iaload, 1) := by decide +kernel
theorem dL_law_1278 : decode cL_law 1278 = .ok (.invokevirtual 162, 3) := by decide +kernel
theorem dL_law_1281 : decode cL_law 1281 = .ok (.aload_n 2, 1) := by decide +kernel
theorem dL_law_1282 : decode cL_law 1282 = .ok (.aload_n 0, 1) := by decide +kernel
theorem dL_law_1283 : decode cL_law 1283 = .ok (.iload_n 3, 1) := by decide +kernel
theorem dL_law_1284 : decode cL_law 1284 = .ok (.iconst 1, 1) := by decide +kernel
theorem dL_law_1285 : decode cL_law 1285 = .ok (.iadd, 1) := by decide +kernel
theorem dL_law_1286 : decode cL_law 1286 = .ok (.iaload, 1) := by decide +kernel
theorem dL_law_1287 : decode cL_law 1287 = .ok (.aload_n 0, 1) := by decide +kernel
theorem dL_law_1288 : decode cL_law 1288 = .ok (.iload_n 3, 1) := by decide +kernel
theorem dL_law_1289 : decode cL_law 1289 = .ok (.iconst 2, 1) := by decide +kernel
theorem dL_law_1290 : decode cL_law 1290 = .ok (.iadd, 1) := by decide +kernel
theorem dL_law_1291 : decode cL_law 1291 = .ok (.iaload, 1) := by decide +kernel
theorem dL_law_1292 : decode cL_law 1292 = .ok (.aload_n 0, 1) := by decide +kernel
theorem dL_law_1293 : decode cL_law 1293 = .ok (.iload_n 3, 1) := by decide +kernel
theorem dL_law_1294 : decode cL_law 1294 = .ok (.iconst 3, 1) := by decide +kernel
theorem dL_law_1295 : decode cL_law 1295 = .ok (.iadd, 1) := by decide +kernel
theorem dL_law_1296 : decode cL_law 1296 = .ok (.iaload, 1) := by decide +kernel
theorem dL_law_1297 : decode cL_law 1297 = .ok (.invokevirtual 165, 3) := by decide +kernel
theorem dL_law_1300 : decode cL_law 1300 = .ok (.if_icmp .eq 137, 3) := by decide +kernel
theorem dL_law_1303 : decode cL_law 1303 = .ok (.iconst 0, 1) := by decide +kernel
theorem dL_law_1304 : decode cL_law 1304 = .ok (.ireturn, 1) := by decide +kernel
theorem dL_law_1305 : decode cL_law 1305 = .ok (.aload_n 1, 1) := by decide +kernel
theorem dL_law_1306 : decode cL_law 1306 = .ok (.aload_n 0, 1) := by decide +kernel
theorem dL_law_1307 : decode cL_law 1307 = .ok (.iload_n 3, 1) := by decide +kernel
theorem dL_law_1308 : decode cL_law 1308 = .ok (.iconst 1, 1) := by decide +kernel
theorem dL_law_1309 : decode cL_law 1309 = .ok (.iadd, 1) := by decide +kernel
theorem dL_law_1310 : decode cL_law 1310 = .ok (.iaload, 1) := by decide +kernel
theorem dL_law_1311 : decode cL_law 1311 = .ok (.aload_n 0, 1) := by decide +kernel
theorem dL_law_1312 : decode cL_law 1312 = .ok (.iload_n 3, 1) := by decide +kernel
theorem dL_law_1313 : decode cL_law 1313 = .ok (.iconst 2, 1) := by decide +kernel
theorem dL_law_1314 : decode cL_law 1314 = .ok (.iadd, 1) := by decide +kernel
theorem dL_law_1315 : decode cL_law 1315 = .ok (.iaload, 1) := by decide +kernel
theorem dL_law_1316 : decode cL_law 1316 = .ok (.aload_n 0, 1) := by decide +kernel
theorem dL_law_1317 : decode cL_law 1317 = .ok (.iload_n 3, 1) := by decide +kernel
theorem dL_law_1318 : decode cL_law 1318 = .ok (.iconst 3, 1) := by decide +kernel
theorem dL_law_1319 : decode cL_law 1319 = .ok (.iadd, 1) := by decide +kernel
theorem dL_law_1320 : decode cL_law 1320 = .ok (.iaload, 1) := by decide +kernel
theorem dL_law_1321 : decode cL_law 1321 = .ok (.invokevirtual 166, 3) := by decide +kernel
theorem dL_law_1324 : decode cL_law 1324 = .ok (.aload_n 2, 1) := by decide +kernel
theorem dL_law_1325 : decode cL_law 1325 = .ok (.aload_n 0, 1) := by decide +kernel
theorem dL_law_1326 : decode cL_law 1326 = .ok (.iload_n 3, 1) := by decide +kernel
theorem dL_law_1327 : decode cL_law 1327 = .ok (.iconst 1, 1) := by decide +kernel
theorem dL_law_1328 : decode cL_law 1328 = .ok (.iadd, 1) := by decide +kernel
theorem dL_law_1329 : decode cL_law 1329 = .ok (.iaload, 1) := by decide +kernel
theorem dL_law_1330 : decode cL_law 1330 = .ok (.aload_n 0, 1) := by decide +kernel
theorem dL_law_1331 : decode cL_law 1331 = .ok (.iload_n 3, 1) := by decide +kernel
theorem dL_law_1332 : decode cL_law 1332 = .ok (.iconst 2, 1) := by decide +kernel
theorem dL_law_1333 : decode cL_law 1333 = .ok (.iadd, 1) := by decide +kernel
theorem dL_law_1334 : decode cL_law 1334 = .ok (.iaload, 1) := by decide +kernel
theorem dL_law_1335 : decode cL_law 1335 = .ok (.aload_n 0, 1) := by decide +kernel
theorem dL_law_1336 : decode cL_law 1336 = .ok (.iload_n 3, 1) := by decide +kernel
theorem dL_law_1337 : decode cL_law 1337 = .ok (.iconst 3, 1) := by decide +kernel
theorem dL_law_1338 : decode cL_law 1338 = .ok (.iadd, 1) := by decide +kernel
theorem dL_law_1339 : decode cL_law 1339 = .ok (.iaload, 1) := by decide +kernel
theorem dL_law_1340 : decode cL_law 1340 = .ok (.invokevirtual 169, 3) := by decide +kernel
theorem dL_law_1343 : decode cL_law 1343 = .ok (.if_icmp .eq 94, 3) := by decide +kernel
theorem dL_law_1346 : decode cL_law 1346 = .ok (.iconst 0, 1) := by decide +kernel
theorem dL_law_1347 : decode cL_law 1347 = .ok (.ireturn, 1) := by decide +kernel
theorem dL_law_1348 : decode cL_law 1348 = .ok (.aload_n 1, 1) := by decide +kernel
theorem dL_law_1349 : decode cL_law 1349 = .ok (.aload_n 0, 1) := by decide +kernel
theorem dL_law_1350 : decode cL_law 1350 = .ok (.iload_n 3, 1) := by decide +kernel
theorem dL_law_1351 : decode cL_law 1351 = .ok (.iconst 1, 1) := by decide +kernel
theorem dL_law_1352 : decode cL_law 1352 = .ok (.iadd, 1) := by decide +kernel
theorem dL_law_1353 : decode cL_law 1353 = .ok (.iaload, 1) := by decide +kernel
theorem dL_law_1354 : decode cL_law 1354 = .ok (.aload_n 0, 1) := by decide +kernel
theorem dL_law_1355 : decode cL_law 1355 = .ok (.iload_n 3, 1) := by decide +kernel
theorem dL_law_1356 : decode cL_law 1356 = .ok (.iconst 2, 1) := by decide +kernel
theorem dL_law_1357 : decode cL_law 1357 = .ok (.iadd, 1) := by decide +kernel
theorem dL_law_1358 : decode cL_law 1358 = .ok (.iaload, 1) := by decide +kernel
theorem dL_law_1359 : decode cL_law 1359 = .ok (.aload_n 0, 1) := by decide +kernel
theorem dL_law_1360 : decode cL_law 1360 = .ok (.iload_n 3, 1) := by decide +kernel
theorem dL_law_1361 : decode cL_law 1361 = .ok (.iconst 3, 1) := by decide +kernel
theorem dL_law_1362 : decode cL_law 1362 = .ok (.iadd, 1) := by decide +kernel
theorem dL_law_1363 : decode cL_law 1363 = .ok (.iaload, 1) := by decide +kernel
theorem dL_law_1364 : decode cL_law 1364 = .ok (.aload_n 0, 1) := by decide +kernel
theorem dL_law_1365 : decode cL_law 1365 = .ok (.iload_n 3, 1) := by decide +kernel
theorem dL_law_1366 : decode cL_law 1366 = .ok (.iconst 4, 1) := by decide +kernel
theorem dL_law_1367 : decode cL_law 1367 = .ok (.iadd, 1) := by decide +kernel
theorem dL_law_1368 : decode cL_law 1368 = .ok (.iaload, 1) := by decide +kernel
theorem dL_law_1369 : decode cL_law 1369 = .ok (.invokevirtual 170, 3) := by decide +kernel
theorem dL_law_1372 : decode cL_law 1372 = .ok (.aload_n 2, 1) := by decide +kernel
theorem dL_law_1373 : decode cL_law 1373 = .ok (.aload_n 0, 1) := by decide +kernel
theorem dL_law_1374 : decode cL_law 1374 = .ok (.iload_n 3, 1) := by decide +kernel
theorem dL_law_1375 : decode cL_law 1375 = .ok (.iconst 1, 1) := by decide +kernel
theorem dL_law_1376 : decode cL_law 1376 = .ok (.iadd, 1) := by decide +kernel
theorem dL_law_1377 : decode cL_law 1377 = .ok (.iaload, 1) := by decide +kernel
theorem dL_law_1378 : decode cL_law 1378 = .ok (.aload_n 0, 1) := by decide +kernel
theorem dL_law_1379 : decode cL_law 1379 = .ok (.iload_n 3, 1) := by decide +kernel
theorem dL_law_1380 : decode cL_law 1380 = .ok (.iconst 2, 1) := by decide +kernel
theorem dL_law_1381 : decode cL_law 1381 = .ok (.iadd, 1) := by decide +kernel
theorem dL_law_1382 : decode cL_law 1382 = .ok (.iaload, 1) := by decide +kernel
theorem dL_law_1383 : decode cL_law 1383 = .ok (.aload_n 0, 1) := by decide +kernel
theorem dL_law_1384 : decode cL_law 1384 = .ok (.iload_n 3, 1) := by decide +kernel
theorem dL_law_1385 : decode cL_law 1385 = .ok (.iconst 3, 1) := by decide +kernel
theorem dL_law_1386 : decode cL_law 1386 = .ok (.iadd, 1) := by decide +kernel
theorem dL_law_1387 : decode cL_law 1387 = .ok (.iaload, 1) := by decide +kernel
theorem dL_law_1388 : decode cL_law 1388 = .ok (.aload_n 0, 1) := by decide +kernel
theorem dL_law_1389 : decode cL_law 1389 = .ok (.iload_n 3, 1) := by decide +kernel
theorem dL_law_1390 : decode cL_law 1390 = .ok (.iconst 4, 1) := by decide +kernel
theorem dL_law_1391 : decode cL_law 1391 = .ok (.iadd, 1) := by decide +kernel
theorem dL_law_1392 : decode cL_law 1392 = .ok (.iaload, 1) := by decide +kernel
theorem dL_law_1393 : decode cL_law 1393 = .ok (.invokevirtual 174, 3) := by decide +kernel
theorem dL_law_1396 : decode cL_law 1396 = .ok (.if_icmp .eq 41, 3) := by decide +kernel
theorem dL_law_1399 : decode cL_law 1399 = .ok (.iconst 0, 1) := by decide +kernel
theorem dL_law_1400 : decode cL_law 1400 = .ok (.ireturn, 1) := by decide +kernel
theorem dL_law_1401 : decode cL_law 1401 = .ok (.aload_n 1, 1) := by decide +kernel
theorem dL_law_1402 : decode cL_law 1402 = .ok (.invokevirtual 175, 3) := by decide +kernel
theorem dL_law_1405 : decode cL_law 1405 = .ok (.aload_n 2, 1) := by decide +kernel
theorem dL_law_1406 : decode cL_law 1406 = .ok (.invokevirtual 178, 3) := by decide +kernel
theorem dL_law_1409 : decode cL_law 1409 = .ok (.if_icmp .eq 28, 3) := by decide +kernel
theorem dL_law_1412 : decode cL_law 1412 = .ok (.iconst 0, 1) := by decide +kernel
theorem dL_law_1413 : decode cL_law 1413 = .ok (.ireturn, 1) := by decide +kernel
theorem dL_law_1414 : decode cL_law 1414 = .ok (.aload_n 1, 1) := by decide +kernel
theorem dL_law_1415 : decode cL_law 1415 = .ok (.aload_n 0, 1) := by decide +kernel
theorem dL_law_1416 : decode cL_law 1416 = .ok (.iload_n 3, 1) := by decide +kernel
theorem dL_law_1417 : decode cL_law 1417 = .ok (.iconst 1, 1) := by decide +kernel
theorem dL_law_1418 : decode cL_law 1418 = .ok (.iadd, 1) := by decide +kernel
theorem dL_law_1419 : decode cL_law 1419 = .ok (.iaload, 1) := by decide +kernel
theorem dL_law_1420 : decode cL_law 1420 = .ok (.invokevirtual 179, 3) := by decide +kernel
theorem dL_law_1423 : decode cL_law 1423 = .ok (.aload_n 2, 1) := by decide +kernel
theorem dL_law_1424 : decode cL_law 1424 = .ok (.aload_n 0, 1) := by decide +kernel
theorem dL_law_1425 : decode cL_law 1425 = .ok (.iload_n 3, 1) := by decide +kernel
theorem dL_law_1426 : decode cL_law 1426 = .ok (.iconst 1, 1) := by decide +kernel
theorem dL_law_1427 : decode cL_law 1427 = .ok (.iadd, 1) := by decide +kernel
theorem dL_law_1428 : decode cL_law 1428 = .ok (.iaload, 1) := by decide +kernel
theorem dL_law_1429 : decode cL_law 1429 = .ok (.invokevirtual 182, 3) := by decide +kernel
theorem dL_law_1432 : decode cL_law 1432 = .ok (.if_icmp .eq 5, 3) := by decide +kernel
theorem dL_law_1435 : decode cL_law 1435 = .ok (.iconst 0, 1) := by decide +kernel
theorem dL_law_1436 : decode cL_law 1436 = .ok (.ireturn, 1) := by decide +kernel
theorem dL_law_1437 : decode cL_law 1437 = .ok (.iinc 3 5, 3) := by decide +kernel
theorem dL_law_1440 : decode cL_law 1440 = .ok (.goto (-1422), 3) := by decide +kernel
theorem dL_law_1443 : decode cL_law 1443 = .ok (.iconst 1, 1) := by decide +kernel
theorem dL_law_1444 : decode cL_law 1444 = .ok (.ireturn, 1) := by decide +kernel
