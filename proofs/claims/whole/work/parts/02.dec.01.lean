theorem dX3_lay_26 : decode cX3_lay 26 = .ok (.iload_n 2, 1) := by decide +kernel
theorem dX3_lay_27 : decode cX3_lay 27 = .ok (.invokevirtual 248, 3) := by decide +kernel
theorem dX3_lay_30 : decode cX3_lay 30 = .ok (.istore 5, 2) := by decide +kernel
theorem dX3_lay_32 : decode cX3_lay 32 = .ok (.iload 5, 2) := by decide +kernel
theorem dX3_lay_34 : decode cX3_lay 34 = .ok (.ifCond .eq 9, 3) := by decide +kernel
theorem dX3_lay_37 : decode cX3_lay 37 = .ok (.bipush (-10), 2) := by decide +kernel
theorem dX3_lay_39 : decode cX3_lay 39 = .ok (.iload 5, 2) := by decide +kernel
theorem dX3_lay_41 : decode cX3_lay 41 = .ok (.isub, 1) := by decide +kernel
theorem dX3_lay_42 : decode cX3_lay 42 = .ok (.ireturn, 1) := by decide +kernel
theorem dX3_lay_43 : decode cX3_lay 43 = .ok (.aload 4, 2) := by decide +kernel
theorem dX3_lay_45 : decode cX3_lay 45 = .ok (.iload_n 2, 1) := by decide +kernel
theorem dX3_lay_46 : decode cX3_lay 46 = .ok (.iload_n 3, 1) := by decide +kernel
theorem dX3_lay_47 : decode cX3_lay 47 = .ok (.invokevirtual 251, 3) := by decide +kernel
theorem dX3_lay_50 : decode cX3_lay 50 = .ok (.iconst 1, 1) := by decide +kernel
theorem dX3_lay_51 : decode cX3_lay 51 = .ok (.ireturn, 1) := by decide +kernel
theorem dX3_read_0 : decode cX3_read 0 = .ok (.iload_n 1, 1) := by decide +kernel
theorem dX3_read_1 : decode cX3_read 1 = .ok (.iconst 0, 1) := by decide +kernel
theorem dX3_read_2 : decode cX3_read 2 = .ok (.iconst 3, 1) := by decide +kernel
theorem dX3_read_3 : decode cX3_read 3 = .ok (.invokestatic 67, 3) := by decide +kernel
theorem dX3_read_6 : decode cX3_read 6 = .ok (.ifCond .eq 23, 3) := by decide +kernel
theorem dX3_read_9 : decode cX3_read 9 = .ok (.iload_n 2, 1) := by decide +kernel
theorem dX3_read_10 : decode cX3_read 10 = .ok (.iconst 0, 1) := by decide +kernel
theorem dX3_read_11 : decode cX3_read 11 = .ok (.iconst 2, 1) := by decide +kernel
theorem dX3_read_12 : decode cX3_read 12 = .ok (.invokestatic 67, 3) := by decide +kernel
theorem dX3_read_15 : decode cX3_read 15 = .ok (.ifCond .eq 14, 3) := by decide +kernel
theorem dX3_read_18 : decode cX3_read 18 = .ok (.iload 4, 2) := by decide +kernel
theorem dX3_read_20 : decode cX3_read 20 = .ok (.iconst 0, 1) := by decide +kernel
theorem dX3_read_21 : decode cX3_read 21 = .ok (.bipush 40, 2) := by decide +kernel
theorem dX3_read_23 : decode cX3_read 23 = .ok (.invokestatic 67, 3) := by decide +kernel
theorem dX3_read_26 : decode cX3_read 26 = .ok (.ifCond .ne 5, 3) := by decide +kernel
theorem dX3_read_29 : decode cX3_read 29 = .ok (.iconst (-1), 1) := by decide +kernel
theorem dX3_read_30 : decode cX3_read 30 = .ok (.ireturn, 1) := by decide +kernel
theorem dX3_read_31 : decode cX3_read 31 = .ok (.aload_n 0, 1) := by decide +kernel
theorem dX3_read_32 : decode cX3_read 32 = .ok (.getfield 39, 3) := by decide +kernel
theorem dX3_read_35 : decode cX3_read 35 = .ok (.iload_n 1, 1) := by decide +kernel
theorem dX3_read_36 : decode cX3_read 36 = .ok (.aaload, 1) := by decide +kernel
theorem dX3_read_37 : decode cX3_read 37 = .ok (.astore 5, 2) := by decide +kernel
theorem dX3_read_39 : decode cX3_read 39 = .ok (.aload_n 0, 1) := by decide +kernel
theorem dX3_read_40 : decode cX3_read 40 = .ok (.getfield 10, 3) := by decide +kernel
theorem dX3_read_43 : decode cX3_read 43 = .ok (.getfield 92, 3) := by decide +kernel
theorem dX3_read_46 : decode cX3_read 46 = .ok (.istore 6, 2) := by decide +kernel
theorem dX3_read_48 : decode cX3_read 48 = .ok (.iconst 0, 1) := by decide +kernel
theorem dX3_read_49 : decode cX3_read 49 = .ok (.istore 7, 2) := by decide +kernel
theorem dX3_read_51 : decode cX3_read 51 = .ok (.iconst 0, 1) := by decide +kernel
theorem dX3_read_52 : decode cX3_read 52 = .ok (.istore 8, 2) := by decide +kernel
theorem dX3_read_54 : decode cX3_read 54 = .ok (.iconst 0, 1) := by decide +kernel
theorem dX3_read_55 : decode cX3_read 55 = .ok (.istore 9, 2) := by decide +kernel
theorem dX3_read_57 : decode cX3_read 57 = .ok (.iload 9, 2) := by decide +kernel
theorem dX3_read_59 : decode cX3_read 59 = .ok (.iload 4, 2) := by decide +kernel
theorem dX3_read_61 : decode cX3_read 61 = .ok (.if_icmp .ge 66, 3) := by decide +kernel
theorem dX3_read_64 : decode cX3_read 64 = .ok (.iload 7, 2) := by decide +kernel
theorem dX3_read_66 : decode cX3_read 66 = .ok (.ifCond .ne 61, 3) := by decide +kernel
theorem dX3_read_69 : decode cX3_read 69 = .ok (.aload 5, 2) := by decide +kernel
theorem dX3_read_71 : decode cX3_read 71 = .ok (.iload_n 2, 1) := by decide +kernel
theorem dX3_read_72 : decode cX3_read 72 = .ok (.iload_n 3, 1) := by decide +kernel
theorem dX3_read_73 : decode cX3_read 73 = .ok (.iload 9, 2) := by decide +kernel
theorem dX3_read_75 : decode cX3_read 75 = .ok (.iadd, 1) := by decide +kernel
theorem dX3_read_76 : decode cX3_read 76 = .ok (.invokevirtual 248, 3) := by decide +kernel
theorem dX3_read_79 : decode cX3_read 79 = .ok (.istore 7, 2) := by decide +kernel
theorem dX3_read_81 : decode cX3_read 81 = .ok (.iload 7, 2) := by decide +kernel
theorem dX3_read_83 : decode cX3_read 83 = .ok (.ifCond .ne 38, 3) := by decide +kernel
theorem dX3_read_86 : decode cX3_read 86 = .ok (.aload_n 0, 1) := by decide +kernel
theorem dX3_read_87 : decode cX3_read 87 = .ok (.aload 5, 2) := by decide +kernel
theorem dX3_read_89 : decode cX3_read 89 = .ok (.getfield 254, 3) := by decide +kernel
theorem dX3_read_92 : decode cX3_read 92 = .ok (.iload_n 3, 1) := by decide +kernel
theorem dX3_read_93 : decode cX3_read 93 = .ok (.iload 9, 2) := by decide +kernel
theorem dX3_read_95 : decode cX3_read 95 = .ok (.iadd, 1) := by decide +kernel
theorem dX3_read_96 : decode cX3_read 96 = .ok (.iaload, 1) := by decide +kernel
theorem dX3_read_97 : decode cX3_read 97 = .ok (.invokevirtual 154, 3) := by decide +kernel
theorem dX3_read_100 : decode cX3_read 100 = .ok (.ifCond .ge 18, 3) := by decide +kernel
theorem dX3_read_103 : decode cX3_read 103 = .ok (.aload_n 0, 1) := by decide +kernel
theorem dX3_read_104 : decode cX3_read 104 = .ok (.getfield 10, 3) := by decide +kernel
theorem dX3_read_107 : decode cX3_read 107 = .ok (.iload 6, 2) := by decide +kernel
theorem dX3_read_109 : decode cX3_read 109 = .ok (.putfield 92, 3) := by decide +kernel
theorem dX3_read_112 : decode cX3_read 112 = .ok (.bipush (-20), 2) := by decide +kernel
theorem dX3_read_114 : decode cX3_read 114 = .ok (.iload 9, 2) := by decide +kernel
theorem dX3_read_116 : decode cX3_read 116 = .ok (.isub, 1) := by decide +kernel
theorem dX3_read_117 : decode cX3_read 117 = .ok (.ireturn, 1) := by decide +kernel
theorem dX3_read_118 : decode cX3_read 118 = .ok (.iinc 8 1, 3) := by decide +kernel
theorem dX3_read_121 : decode cX3_read 121 = .ok (.iinc 9 1, 3) := by decide +kernel
theorem dX3_read_124 : decode cX3_read 124 = .ok (.goto (-67), 3) := by decide +kernel
theorem dX3_read_127 : decode cX3_read 127 = .ok (.aload_n 0, 1) := by decide +kernel
theorem dX3_read_128 : decode cX3_read 128 = .ok (.iload 7, 2) := by decide +kernel
theorem dX3_read_130 : decode cX3_read 130 = .ok (.putfield 60, 3) := by decide +kernel
theorem dX3_read_133 : decode cX3_read 133 = .ok (.iload 8, 2) := by decide +kernel
theorem dX3_read_135 : decode cX3_read 135 = .ok (.ireturn, 1) := by decide +kernel
theorem dX3_torn_0 : decode cX3_torn 0 = .ok (.aload_n 0, 1) := by decide +kernel
theorem dX3_torn_1 : decode cX3_torn 1 = .ok (.getfield 60, 3) := by decide +kernel
theorem dX3_torn_4 : decode cX3_torn 4 = .ok (.ireturn, 1) := by decide +kernel
theorem dX3_count_0 : decode cX3_count 0 = .ok (.iload_n 1, 1) := by decide +kernel
theorem dX3_count_1 : decode cX3_count 1 = .ok (.tableswitch 139 0 5 #[39, 44, 74, 82, 109, 124], 39) := by decide +kernel
theorem dX3_count_40 : decode cX3_count 40 = .ok (.aload_n 0, 1) := by decide +kernel
theorem dX3_count_41 : decode cX3_count 41 = .ok (.getfield 53, 3) := by decide +kernel
theorem dX3_count_44 : decode cX3_count 44 = .ok (.ireturn, 1) := by decide +kernel
theorem dX3_count_45 : decode cX3_count 45 = .ok (.aload_n 0, 1) := by decide +kernel
theorem dX3_count_46 : decode cX3_count 46 = .ok (.getfield 26, 3) := by decide +kernel
theorem dX3_count_49 : decode cX3_count 49 = .ok (.iconst 0, 1) := by decide +kernel
theorem dX3_count_50 : decode cX3_count 50 = .ok (.baload, 1) := by decide +kernel
theorem dX3_count_51 : decode cX3_count 51 = .ok (.ifCond .eq 7, 3) := by decide +kernel
theorem dX3_count_54 : decode cX3_count 54 = .ok (.iconst 1, 1) := by decide +kernel
theorem dX3_count_55 : decode cX3_count 55 = .ok (.goto 4, 3) := by decide +kernel
theorem dX3_count_58 : decode cX3_count 58 = .ok (.iconst 0, 1) := by decide +kernel
theorem dX3_count_59 : decode cX3_count 59 = .ok (.aload_n 0, 1) := by decide +kernel
theorem dX3_count_60 : decode cX3_count 60 = .ok (.getfield 26, 3) := by decide +kernel
theorem dX3_count_63 : decode cX3_count 63 = .ok (.iconst 1, 1) := by decide +kernel
theorem dX3_count_64 : decode cX3_count 64 = .ok (.baload, 1) := by decide +kernel
theorem dX3_count_65 : decode cX3_count 65 = .ok (.ifCond .eq 7, 3) := by decide +kernel
theorem dX3_count_68 : decode cX3_count 68 = .ok (.iconst 1, 1) := by decide +kernel
theorem dX3_count_69 : decode cX3_count 69 = .ok (.goto 4, 3) := by decide +kernel
theorem dX3_count_72 : decode cX3_count 72 = .ok (.iconst 0, 1) := by decide +kernel
theorem dX3_count_73 : decode cX3_count 73 = .ok (.iadd, 1) := by decide +kernel
theorem dX3_count_74 : decode cX3_count 74 = .ok (.ireturn, 1) := by decide +kernel
theorem dX3_count_75 : decode cX3_count 75 = .ok (.aload_n 0, 1) := by decide +kernel
theorem dX3_count_76 : decode cX3_count 76 = .ok (.getfield 33, 3) := by decide +kernel
theorem dX3_count_79 : decode cX3_count 79 = .ok (.getfield 75, 3) := by decide +kernel
theorem dX3_count_82 : decode cX3_count 82 = .ok (.ireturn, 1) := by decide +kernel
theorem dX3_count_83 : decode cX3_count 83 = .ok (.aload_n 0, 1) := by decide +kernel
theorem dX3_count_84 : decode cX3_count 84 = .ok (.getfield 39, 3) := by decide +kernel
theorem dX3_count_87 : decode cX3_count 87 = .ok (.iconst 0, 1) := by decide +kernel
theorem dX3_count_88 : decode cX3_count 88 = .ok (.aaload, 1) := by decide +kernel
theorem dX3_count_89 : decode cX3_count 89 = .ok (.getfield 257, 3) := by decide +kernel
theorem dX3_count_92 : decode cX3_count 92 = .ok (.ifCond .eq 15, 3) := by decide +kernel
theorem dX3_count_95 : decode cX3_count 95 = .ok (.aload_n 0, 1) := by decide +kernel
theorem dX3_count_96 : decode cX3_count 96 = .ok (.getfield 39, 3) := by decide +kernel
theorem dX3_count_99 : decode cX3_count 99 = .ok (.iconst 0, 1) := by decide +kernel
theorem dX3_count_100 : decode cX3_count 100 = .ok (.aaload, 1) := by decide +kernel
theorem dX3_count_101 : decode cX3_count 101 = .ok (.getfield 261, 3) := by decide +kernel
theorem dX3_count_104 : decode cX3_count 104 = .ok (.goto 5, 3) := by decide +kernel
theorem dX3_count_107 : decode cX3_count 107 = .ok (.bipush (-4), 2) := by decide +kernel
theorem dX3_count_109 : decode cX3_count 109 = .ok (.ireturn, 1) := by decide +kernel
theorem dX3_count_110 : decode cX3_count 110 = .ok (.aload_n 0, 1) := by decide +kernel
theorem dX3_count_111 : decode cX3_count 111 = .ok (.getfield 10, 3) := by decide +kernel
theorem dX3_count_114 : decode cX3_count 114 = .ok (.aload_n 0, 1) := by decide +kernel
theorem dX3_count_115 : decode cX3_count 115 = .ok (.getfield 10, 3) := by decide +kernel
theorem dX3_count_118 : decode cX3_count 118 = .ok (.getfield 124, 3) := by decide +kernel
theorem dX3_count_121 : decode cX3_count 121 = .ok (.invokevirtual 264, 3) := by decide +kernel
theorem dX3_count_124 : decode cX3_count 124 = .ok (.ireturn, 1) := by decide +kernel
theorem dX3_count_125 : decode cX3_count 125 = .ok (.aload_n 0, 1) := by decide +kernel
theorem dX3_count_126 : decode cX3_count 126 = .ok (.getfield 10, 3) := by decide +kernel
theorem dX3_count_129 : decode cX3_count 129 = .ok (.aload_n 0, 1) := by decide +kernel
theorem dX3_count_130 : decode cX3_count 130 = .ok (.getfield 10, 3) := by decide +kernel
theorem dX3_count_133 : decode cX3_count 133 = .ok (.getfield 127, 3) := by decide +kernel
theorem dX3_count_136 : decode cX3_count 136 = .ok (.invokevirtual 264, 3) := by decide +kernel
theorem dX3_count_139 : decode cX3_count 139 = .ok (.ireturn, 1) := by decide +kernel
theorem dX3_count_140 : decode cX3_count 140 = .ok (.iconst (-1), 1) := by decide +kernel
theorem dX3_count_141 : decode cX3_count 141 = .ok (.ireturn, 1) := by decide +kernel
theorem dX3_within_0 : decode cX3_within 0 = .ok (.iload_n 0, 1) := by decide +kernel
theorem dX3_within_1 : decode cX3_within 1 = .ok (.iload_n 1, 1) := by decide +kernel
theorem dX3_within_2 : decode cX3_within 2 = .ok (.if_icmp .lt 12, 3) := by decide +kernel
theorem dX3_within_5 : decode cX3_within 5 = .ok (.iload_n 0, 1) := by decide +kernel
theorem dX3_within_6 : decode cX3_within 6 = .ok (.iload_n 2, 1) := by decide +kernel
theorem dX3_within_7 : decode cX3_within 7 = .ok (.if_icmp .gt 7, 3) := by decide +kernel
theorem dX3_within_10 : decode cX3_within 10 = .ok (.iconst 1, 1) := by decide +kernel
theorem dX3_within_11 : decode cX3_within 11 = .ok (.goto 4, 3) := by decide +kernel
theorem dX3_within_14 : decode cX3_within 14 = .ok (.iconst 0, 1) := by decide +kernel
theorem dX3_within_15 : decode cX3_within 15 = .ok (.ireturn, 1) := by decide +kernel
theorem dX3_quotient_0 : decode cX3_quotient 0 = .ok (.iload_n 1, 1) := by decide +kernel
theorem dX3_quotient_1 : decode cX3_quotient 1 = .ok (.ifCond .le 9, 3) := by decide +kernel
theorem dX3_quotient_4 : decode cX3_quotient 4 = .ok (.iload_n 0, 1) := by decide +kernel
theorem dX3_quotient_5 : decode cX3_quotient 5 = .ok (.iload_n 1, 1) := by decide +kernel
theorem dX3_quotient_6 : decode cX3_quotient 6 = .ok (.idiv, 1) := by decide +kernel
theorem dX3_quotient_7 : decode cX3_quotient 7 = .ok (.goto 4, 3) := by decide +kernel
theorem dX3_quotient_10 : decode cX3_quotient 10 = .ok (.iconst 0, 1) := by decide +kernel
theorem dX3_quotient_11 : decode cX3_quotient 11 = .ok (.ireturn, 1) := by decide +kernel
theorem dX3_replace_0 : decode cX3_replace 0 = .ok (.aload_n 0, 1) := by decide +kernel
theorem dX3_replace_1 : decode cX3_replace 1 = .ok (.iload_n 1, 1) := by decide +kernel
theorem dX3_replace_2 : decode cX3_replace 2 = .ok (.iaload, 1) := by decide +kernel
theorem dX3_replace_3 : decode cX3_replace 3 = .ok (.istore_n 3, 1) := by decide +kernel
theorem dX3_replace_4 : decode cX3_replace 4 = .ok (.aload_n 0, 1) := by decide +kernel
theorem dX3_replace_5 : decode cX3_replace 5 = .ok (.iload_n 1, 1) := by decide +kernel
theorem dX3_replace_6 : decode cX3_replace 6 = .ok (.iload_n 2, 1) := by decide +kernel
theorem dX3_replace_7 : decode cX3_replace 7 = .ok (.iastore, 1) := by decide +kernel
theorem dX3_replace_8 : decode cX3_replace 8 = .ok (.iload_n 3, 1) := by decide +kernel
theorem dX3_replace_9 : decode cX3_replace 9 = .ok (.ireturn, 1) := by decide +kernel
theorem dX3_addAct_0 : decode cX3_addAct 0 = .ok (.iload_n 1, 1) := by decide +kernel
theorem dX3_addAct_1 : decode cX3_addAct 1 = .ok (.iconst 0, 1) := by decide +kernel
theorem dX3_addAct_2 : decode cX3_addAct 2 = .ok (.sipush 203, 3) := by decide +kernel
theorem dX3_addAct_5 : decode cX3_addAct 5 = .ok (.invokestatic 67, 3) := by decide +kernel
theorem dX3_addAct_8 : decode cX3_addAct 8 = .ok (.ifCond .eq 14, 3) := by decide +kernel
theorem dX3_addAct_11 : decode cX3_addAct 11 = .ok (.aload_n 0, 1) := by decide +kernel
theorem dX3_addAct_12 : decode cX3_addAct 12 = .ok (.getfield 10, 3) := by decide +kernel
theorem dX3_addAct_15 : decode cX3_addAct 15 = .ok (.iload_n 1, 1) := by decide +kernel
theorem dX3_addAct_16 : decode cX3_addAct 16 = .ok (.invokevirtual 268, 3) := by decide +kernel
theorem dX3_addAct_19 : decode cX3_addAct 19 = .ok (.goto 4, 3) := by decide +kernel
theorem dX3_addAct_22 : decode cX3_addAct 22 = .ok (.iconst (-1), 1) := by decide +kernel
theorem dX3_addAct_23 : decode cX3_addAct 23 = .ok (.ireturn, 1) := by decide +kernel
theorem dX3_asksBest_0 : decode cX3_asksBest 0 = .ok (.iload_n 0, 1) := by decide +kernel
theorem dX3_asksBest_1 : decode cX3_asksBest 1 = .ok (.iconst 0, 1) := by decide +kernel
theorem dX3_asksBest_2 : decode cX3_asksBest 2 = .ok (.sipush 200, 3) := by decide +kernel
theorem dX3_asksBest_5 : decode cX3_asksBest 5 = .ok (.invokestatic 67, 3) := by decide +kernel
theorem dX3_asksBest_8 : decode cX3_asksBest 8 = .ok (.ifCond .eq 16, 3) := by decide +kernel
theorem dX3_asksBest_11 : decode cX3_asksBest 11 = .ok (.iload_n 1, 1) := by decide +kernel
theorem dX3_asksBest_12 : decode cX3_asksBest 12 = .ok (.iconst 0, 1) := by decide +kernel
theorem dX3_asksBest_13 : decode cX3_asksBest 13 = .ok (.iconst 1, 1) := by decide +kernel
theorem dX3_asksBest_14 : decode cX3_asksBest 14 = .ok (.invokestatic 67, 3) := by decide +kernel
theorem dX3_asksBest_17 : decode cX3_asksBest 17 = .ok (.ifCond .eq 7, 3) := by decide +kernel
theorem dX3_asksBest_20 : decode cX3_asksBest 20 = .ok (.iconst 1, 1) := by decide +kernel
theorem dX3_asksBest_21 : decode cX3_asksBest 21 = .ok (.goto 4, 3) := by decide +kernel
theorem dX3_asksBest_24 : decode cX3_asksBest 24 = .ok (.iconst 0, 1) := by decide +kernel
theorem dX3_asksBest_25 : decode cX3_asksBest 25 = .ok (.ireturn, 1) := by decide +kernel
theorem dX3_doneAsItIs_0 : decode cX3_doneAsItIs 0 = .ok (.aload_n 0, 1) := by decide +kernel
theorem dX3_doneAsItIs_1 : decode cX3_doneAsItIs 1 = .ok (.getfield 16, 3) := by decide +kernel
theorem dX3_doneAsItIs_4 : decode cX3_doneAsItIs 4 = .ok (.aload_n 0, 1) := by decide +kernel
theorem dX3_doneAsItIs_5 : decode cX3_doneAsItIs 5 = .ok (.getfield 10, 3) := by decide +kernel
theorem dX3_doneAsItIs_8 : decode cX3_doneAsItIs 8 = .ok (.invokevirtual 164, 3) := by decide +kernel
theorem dX3_doneAsItIs_11 : decode cX3_doneAsItIs 11 = .ok (.aload_n 0, 1) := by decide +kernel
theorem dX3_doneAsItIs_12 : decode cX3_doneAsItIs 12 = .ok (.getfield 16, 3) := by decide +kernel
theorem dX3_doneAsItIs_15 : decode cX3_doneAsItIs 15 = .ok (.iload_n 1, 1) := by decide +kernel
theorem dX3_doneAsItIs_16 : decode cX3_doneAsItIs 16 = .ok (.invokevirtual 161, 3) := by decide +kernel
theorem dX3_doneAsItIs_19 : decode cX3_doneAsItIs 19 = .ok (.aload_n 0, 1) := by decide +kernel
theorem dX3_doneAsItIs_20 : decode cX3_doneAsItIs 20 = .ok (.getfield 16, 3) := by decide +kernel
theorem dX3_doneAsItIs_23 : decode cX3_doneAsItIs 23 = .ok (.getfield 98, 3) := by decide +kernel
theorem dX3_doneAsItIs_26 : decode cX3_doneAsItIs 26 = .ok (.ireturn, 1) := by decide +kernel
theorem dX3_doneSwapped_0 : decode cX3_doneSwapped 0 = .ok (.aload_n 0, 1) := by decide +kernel
theorem dX3_doneSwapped_1 : decode cX3_doneSwapped 1 = .ok (.getfield 16, 3) := by decide +kernel
theorem dX3_doneSwapped_4 : decode cX3_doneSwapped 4 = .ok (.aload_n 0, 1) := by decide +kernel
theorem dX3_doneSwapped_5 : decode cX3_doneSwapped 5 = .ok (.getfield 10, 3) := by decide +kernel
theorem dX3_doneSwapped_8 : decode cX3_doneSwapped 8 = .ok (.invokevirtual 164, 3) := by decide +kernel
theorem dX3_doneSwapped_11 : decode cX3_doneSwapped 11 = .ok (.aload_n 0, 1) := by decide +kernel
theorem dX3_doneSwapped_12 : decode cX3_doneSwapped 12 = .ok (.getfield 16, 3) := by decide +kernel
theorem dX3_doneSwapped_15 : decode cX3_doneSwapped 15 = .ok (.getfield 143, 3) := by decide +kernel
theorem dX3_doneSwapped_18 : decode cX3_doneSwapped 18 = .ok (.iload_n 1, 1) := by decide +kernel
theorem dX3_doneSwapped_19 : decode cX3_doneSwapped 19 = .ok (.aload_n 0, 1) := by decide +kernel
theorem dX3_doneSwapped_20 : decode cX3_doneSwapped 20 = .ok (.getfield 10, 3) := by decide +kernel
theorem dX3_doneSwapped_23 : decode cX3_doneSwapped 23 = .ok (.getfield 143, 3) := by decide +kernel
theorem dX3_doneSwapped_26 : decode cX3_doneSwapped 26 = .ok (.iload_n 2, 1) := by decide +kernel
theorem dX3_doneSwapped_27 : decode cX3_doneSwapped 27 = .ok (.iaload, 1) := by decide +kernel
theorem dX3_doneSwapped_28 : decode cX3_doneSwapped 28 = .ok (.iastore, 1) := by decide +kernel
theorem dX3_doneSwapped_29 : decode cX3_doneSwapped 29 = .ok (.aload_n 0, 1) := by decide +kernel
theorem dX3_doneSwapped_30 : decode cX3_doneSwapped 30 = .ok (.getfield 16, 3) := by decide +kernel
theorem dX3_doneSwapped_33 : decode cX3_doneSwapped 33 = .ok (.getfield 143, 3) := by decide +kernel
theorem dX3_doneSwapped_36 : decode cX3_doneSwapped 36 = .ok (.iload_n 2, 1) := by decide +kernel
theorem dX3_doneSwapped_37 : decode cX3_doneSwapped 37 = .ok (.aload_n 0, 1) := by decide +kernel
theorem dX3_doneSwapped_38 : decode cX3_doneSwapped 38 = .ok (.getfield 10, 3) := by decide +kernel
theorem dX3_doneSwapped_41 : decode cX3_doneSwapped 41 = .ok (.getfield 143, 3) := by decide +kernel
theorem dX3_doneSwapped_44 : decode cX3_doneSwapped 44 = .ok (.iload_n 1, 1) := by decide +kernel
theorem dX3_doneSwapped_45 : decode cX3_doneSwapped 45 = .ok (.iaload, 1) := by decide +kernel
theorem dX3_doneSwapped_46 : decode cX3_doneSwapped 46 = .ok (.iastore, 1) := by decide +kernel
theorem dX3_doneSwapped_47 : decode cX3_doneSwapped 47 = .ok (.aload_n 0, 1) := by decide +kernel
theorem dX3_doneSwapped_48 : decode cX3_doneSwapped 48 = .ok (.getfield 16, 3) := by decide +kernel
theorem dX3_doneSwapped_51 : decode cX3_doneSwapped 51 = .ok (.iload_n 3, 1) := by decide +kernel
theorem dX3_doneSwapped_52 : decode cX3_doneSwapped 52 = .ok (.invokevirtual 161, 3) := by decide +kernel
theorem dX3_doneSwapped_55 : decode cX3_doneSwapped 55 = .ok (.aload_n 0, 1) := by decide +kernel
theorem dX3_doneSwapped_56 : decode cX3_doneSwapped 56 = .ok (.getfield 16, 3) := by decide +kernel
theorem dX3_doneSwapped_59 : decode cX3_doneSwapped 59 = .ok (.getfield 98, 3) := by decide +kernel
theorem dX3_doneSwapped_62 : decode cX3_doneSwapped 62 = .ok (.ireturn, 1) := by decide +kernel
theorem dX3_asksOdds_0 : decode cX3_asksOdds 0 = .ok (.iload_n 0, 1) := by decide +kernel
theorem dX3_asksOdds_1 : decode cX3_asksOdds 1 = .ok (.iconst 0, 1) := by decide +kernel
theorem dX3_asksOdds_2 : decode cX3_asksOdds 2 = .ok (.bipush 10, 2) := by decide +kernel
theorem dX3_asksOdds_4 : decode cX3_asksOdds 4 = .ok (.invokestatic 67, 3) := by decide +kernel
theorem dX3_asksOdds_7 : decode cX3_asksOdds 7 = .ok (.ifCond .eq 26, 3) := by decide +kernel
theorem dX3_asksOdds_10 : decode cX3_asksOdds 10 = .ok (.iload_n 1, 1) := by decide +kernel
theorem dX3_asksOdds_11 : decode cX3_asksOdds 11 = .ok (.iconst 0, 1) := by decide +kernel
theorem dX3_asksOdds_12 : decode cX3_asksOdds 12 = .ok (.bipush 8, 2) := by decide +kernel
theorem dX3_asksOdds_14 : decode cX3_asksOdds 14 = .ok (.invokestatic 67, 3) := by decide +kernel
theorem dX3_asksOdds_17 : decode cX3_asksOdds 17 = .ok (.ifCond .eq 16, 3) := by decide +kernel
theorem dX3_asksOdds_20 : decode cX3_asksOdds 20 = .ok (.iload_n 2, 1) := by decide +kernel
theorem dX3_asksOdds_21 : decode cX3_asksOdds 21 = .ok (.iconst 0, 1) := by decide +kernel
theorem dX3_asksOdds_22 : decode cX3_asksOdds 22 = .ok (.iconst 1, 1) := by decide +kernel
theorem dX3_asksOdds_23 : decode cX3_asksOdds 23 = .ok (.invokestatic 67, 3) := by decide +kernel
theorem dX3_asksOdds_26 : decode cX3_asksOdds 26 = .ok (.ifCond .eq 7, 3) := by decide +kernel
theorem dX3_asksOdds_29 : decode cX3_asksOdds 29 = .ok (.iconst 1, 1) := by decide +kernel
theorem dX3_asksOdds_30 : decode cX3_asksOdds 30 = .ok (.goto 4, 3) := by decide +kernel
theorem dX3_asksOdds_33 : decode cX3_asksOdds 33 = .ok (.iconst 0, 1) := by decide +kernel
theorem dX3_asksOdds_34 : decode cX3_asksOdds 34 = .ok (.ireturn, 1) := by decide +kernel
theorem dX3_runFailing_0 : decode cX3_runFailing 0 = .ok (.aload_n 0, 1) := by decide +kernel
theorem dX3_runFailing_1 : decode cX3_runFailing 1 = .ok (.getfield 16, 3) := by decide +kernel
theorem dX3_runFailing_4 : decode cX3_runFailing 4 = .ok (.aload_n 0, 1) := by decide +kernel
theorem dX3_runFailing_5 : decode cX3_runFailing 5 = .ok (.getfield 10, 3) := by decide +kernel
theorem dX3_runFailing_8 : decode cX3_runFailing 8 = .ok (.invokevirtual 164, 3) := by decide +kernel
theorem dX3_runFailing_11 : decode cX3_runFailing 11 = .ok (.iconst 0, 1) := by decide +kernel
theorem dX3_runFailing_12 : decode cX3_runFailing 12 = .ok (.istore_n 3, 1) := by decide +kernel
theorem dX3_runFailing_13 : decode cX3_runFailing 13 = .ok (.iload_n 3, 1) := by decide +kernel
theorem dX3_runFailing_14 : decode cX3_runFailing 14 = .ok (.iload_n 2, 1) := by decide +kernel
theorem dX3_runFailing_15 : decode cX3_runFailing 15 = .ok (.if_icmp .ge 59, 3) := by decide +kernel
theorem dX3_runFailing_18 : decode cX3_runFailing 18 = .ok (.aload_n 0, 1) := by decide +kernel
theorem dX3_runFailing_19 : decode cX3_runFailing 19 = .ok (.getfield 16, 3) := by decide +kernel
theorem dX3_runFailing_22 : decode cX3_runFailing 22 = .ok (.invokevirtual 114, 3) := by decide +kernel
theorem dX3_runFailing_25 : decode cX3_runFailing 25 = .ok (.istore 4, 2) := by decide +kernel
theorem dX3_runFailing_27 : decode cX3_runFailing 27 = .ok (.iload_n 1, 1) := by decide +kernel
theorem dX3_runFailing_28 : decode cX3_runFailing 28 = .ok (.iload_n 3, 1) := by decide +kernel
theorem dX3_runFailing_29 : decode cX3_runFailing 29 = .ok (.ishr, 1) := by decide +kernel
theorem dX3_runFailing_30 : decode cX3_runFailing 30 = .ok (.iconst 1, 1) := by decide +kernel
theorem dX3_runFailing_31 : decode cX3_runFailing 31 = .ok (.iand, 1) := by decide +kernel
theorem dX3_runFailing_32 : decode cX3_runFailing 32 = .ok (.iconst 1, 1) := by decide +kernel
theorem dX3_runFailing_33 : decode cX3_runFailing 33 = .ok (.if_icmp .ne 14, 3) := by decide +kernel
theorem dX3_runFailing_36 : decode cX3_runFailing 36 = .ok (.iload 4, 2) := by decide +kernel
theorem dX3_runFailing_38 : decode cX3_runFailing 38 = .ok (.bipush 100, 2) := by decide +kernel
theorem dX3_runFailing_40 : decode cX3_runFailing 40 = .ok (.if_icmp .ge 7, 3) := by decide +kernel
theorem dX3_runFailing_43 : decode cX3_runFailing 43 = .ok (.iconst 1, 1) := by decide +kernel
theorem dX3_runFailing_44 : decode cX3_runFailing 44 = .ok (.goto 4, 3) := by decide +kernel
theorem dX3_runFailing_47 : decode cX3_runFailing 47 = .ok (.iconst 0, 1) := by decide +kernel
theorem dX3_runFailing_48 : decode cX3_runFailing 48 = .ok (.istore 5, 2) := by decide +kernel
theorem dX3_runFailing_50 : decode cX3_runFailing 50 = .ok (.aload_n 0, 1) := by decide +kernel
theorem dX3_runFailing_51 : decode cX3_runFailing 51 = .ok (.getfield 16, 3) := by decide +kernel
theorem dX3_runFailing_54 : decode cX3_runFailing 54 = .ok (.iload 5, 2) := by decide +kernel
theorem dX3_runFailing_56 : decode cX3_runFailing 56 = .ok (.ifCond .eq 7, 3) := by decide +kernel
theorem dX3_runFailing_59 : decode cX3_runFailing 59 = .ok (.iconst 0, 1) := by decide +kernel
theorem dX3_runFailing_60 : decode cX3_runFailing 60 = .ok (.goto 5, 3) := by decide +kernel
theorem dX3_runFailing_63 : decode cX3_runFailing 63 = .ok (.iload 4, 2) := by decide +kernel
theorem dX3_runFailing_65 : decode cX3_runFailing 65 = .ok (.invokevirtual 167, 3) := by decide +kernel
theorem dX3_runFailing_68 : decode cX3_runFailing 68 = .ok (.iinc 3 1, 3) := by decide +kernel
theorem dX3_runFailing_71 : decode cX3_runFailing 71 = .ok (.goto (-58), 3) := by decide +kernel
theorem dX3_runFailing_74 : decode cX3_runFailing 74 = .ok (.return_, 1) := by decide +kernel
theorem dX3_weightOf_0 : decode cX3_weightOf 0 = .ok (.lconst 1, 1) := by decide +kernel
theorem dX3_weightOf_1 : decode cX3_weightOf 1 = .ok (.lstore_n 3, 1) := by decide +kernel
theorem dX3_weightOf_2 : decode cX3_weightOf 2 = .ok (.iconst 0, 1) := by decide +kernel
theorem dX3_weightOf_3 : decode cX3_weightOf 3 = .ok (.istore 5, 2) := by decide +kernel
theorem dX3_weightOf_5 : decode cX3_weightOf 5 = .ok (.iload 5, 2) := by decide +kernel
theorem dX3_weightOf_7 : decode cX3_weightOf 7 = .ok (.iload_n 2, 1) := by decide +kernel
theorem dX3_weightOf_8 : decode cX3_weightOf 8 = .ok (.if_icmp .ge 32, 3) := by decide +kernel
theorem dX3_weightOf_11 : decode cX3_weightOf 11 = .ok (.lload_n 3, 1) := by decide +kernel
theorem dX3_weightOf_12 : decode cX3_weightOf 12 = .ok (.iload_n 0, 1) := by decide +kernel
theorem dX3_weightOf_13 : decode cX3_weightOf 13 = .ok (.iload 5, 2) := by decide +kernel
theorem dX3_weightOf_15 : decode cX3_weightOf 15 = .ok (.ishr, 1) := by decide +kernel
theorem dX3_weightOf_16 : decode cX3_weightOf 16 = .ok (.iconst 1, 1) := by decide +kernel
theorem dX3_weightOf_17 : decode cX3_weightOf 17 = .ok (.iand, 1) := by decide +kernel
theorem dX3_weightOf_18 : decode cX3_weightOf 18 = .ok (.iconst 1, 1) := by decide +kernel
theorem dX3_weightOf_19 : decode cX3_weightOf 19 = .ok (.if_icmp .ne 8, 3) := by decide +kernel
theorem dX3_weightOf_22 : decode cX3_weightOf 22 = .ok (.iload_n 1, 1) := by decide +kernel
theorem dX3_weightOf_23 : decode cX3_weightOf 23 = .ok (.i2l, 1) := by decide +kernel
theorem dX3_weightOf_24 : decode cX3_weightOf 24 = .ok (.goto 8, 3) := by decide +kernel
theorem dX3_weightOf_27 : decode cX3_weightOf 27 = .ok (.bipush 10, 2) := by decide +kernel
theorem dX3_weightOf_29 : decode cX3_weightOf 29 = .ok (.iload_n 1, 1) := by decide +kernel
theorem dX3_weightOf_30 : decode cX3_weightOf 30 = .ok (.isub, 1) := by decide +kernel
theorem dX3_weightOf_31 : decode cX3_weightOf 31 = .ok (.i2l, 1) := by decide +kernel
theorem dX3_weightOf_32 : decode cX3_weightOf 32 = .ok (.lmul, 1) := by decide +kernel
theorem dX3_weightOf_33 : decode cX3_weightOf 33 = .ok (.lstore_n 3, 1) := by decide +kernel
theorem dX3_weightOf_34 : decode cX3_weightOf 34 = .ok (.iinc 5 1, 3) := by decide +kernel
theorem dX3_weightOf_37 : decode cX3_weightOf 37 = .ok (.goto (-32), 3) := by decide +kernel
theorem dX3_weightOf_40 : decode cX3_weightOf 40 = .ok (.lload_n 3, 1) := by decide +kernel
theorem dX3_weightOf_41 : decode cX3_weightOf 41 = .ok (.lreturn, 1) := by decide +kernel
theorem dX3_allWeights_0 : decode cX3_allWeights 0 = .ok (.lconst 1, 1) := by decide +kernel
theorem dX3_allWeights_1 : decode cX3_allWeights 1 = .ok (.lstore_n 1, 1) := by decide +kernel
theorem dX3_allWeights_2 : decode cX3_allWeights 2 = .ok (.iconst 0, 1) := by decide +kernel
theorem dX3_allWeights_3 : decode cX3_allWeights 3 = .ok (.istore_n 3, 1) := by decide +kernel
theorem dX3_allWeights_4 : decode cX3_allWeights 4 = .ok (.iload_n 3, 1) := by decide +kernel
theorem dX3_allWeights_5 : decode cX3_allWeights 5 = .ok (.iload_n 0, 1) := by decide +kernel
theorem dX3_allWeights_6 : decode cX3_allWeights 6 = .ok (.if_icmp .ge 15, 3) := by decide +kernel
theorem dX3_allWeights_9 : decode cX3_allWeights 9 = .ok (.lload_n 1, 1) := by decide +kernel
theorem dX3_allWeights_10 : decode cX3_allWeights 10 = .ok (.ldc2_w 271, 3) := by decide +kernel
theorem dX3_allWeights_13 : decode cX3_allWeights 13 = .ok (.lmul, 1) := by decide +kernel
theorem dX3_allWeights_14 : decode cX3_allWeights 14 = .ok (.lstore_n 1, 1) := by decide +kernel
theorem dX3_allWeights_15 : decode cX3_allWeights 15 = .ok (.iinc 3 1, 3) := by decide +kernel
theorem dX3_allWeights_18 : decode cX3_allWeights 18 = .ok (.goto (-14), 3) := by decide +kernel
theorem dX3_allWeights_21 : decode cX3_allWeights 21 = .ok (.lload_n 1, 1) := by decide +kernel
theorem dX3_allWeights_22 : decode cX3_allWeights 22 = .ok (.lreturn, 1) := by decide +kernel
theorem dX3_partOfFraction_0 : decode cX3_partOfFraction 0 = .ok (.lload_n 0, 1) := by decide +kernel
theorem dX3_partOfFraction_1 : decode cX3_partOfFraction 1 = .ok (.lstore 5, 2) := by decide +kernel
theorem dX3_partOfFraction_3 : decode cX3_partOfFraction 3 = .ok (.lload_n 2, 1) := by decide +kernel
theorem dX3_partOfFraction_4 : decode cX3_partOfFraction 4 = .ok (.lstore 7, 2) := by decide +kernel
theorem dX3_partOfFraction_6 : decode cX3_partOfFraction 6 = .ok (.iconst 0, 1) := by decide +kernel
theorem dX3_partOfFraction_7 : decode cX3_partOfFraction 7 = .ok (.istore 9, 2) := by decide +kernel
theorem dX3_partOfFraction_9 : decode cX3_partOfFraction 9 = .ok (.iload 9, 2) := by decide +kernel
theorem dX3_partOfFraction_11 : decode cX3_partOfFraction 11 = .ok (.bipush 100, 2) := by decide +kernel
theorem dX3_partOfFraction_13 : decode cX3_partOfFraction 13 = .ok (.if_icmp .ge 31, 3) := by decide +kernel
theorem dX3_partOfFraction_16 : decode cX3_partOfFraction 16 = .ok (.lload 7, 2) := by decide +kernel
theorem dX3_partOfFraction_18 : decode cX3_partOfFraction 18 = .ok (.lconst 0, 1) := by decide +kernel
theorem dX3_partOfFraction_19 : decode cX3_partOfFraction 19 = .ok (.lcmp, 1) := by decide +kernel
theorem dX3_partOfFraction_20 : decode cX3_partOfFraction 20 = .ok (.ifCond .eq 24, 3) := by decide +kernel
theorem dX3_partOfFraction_23 : decode cX3_partOfFraction 23 = .ok (.lload 5, 2) := by decide +kernel
theorem dX3_partOfFraction_25 : decode cX3_partOfFraction 25 = .ok (.lload 7, 2) := by decide +kernel
theorem dX3_partOfFraction_27 : decode cX3_partOfFraction 27 = .ok (.lrem, 1) := by decide +kernel
theorem dX3_partOfFraction_28 : decode cX3_partOfFraction 28 = .ok (.lstore 10, 2) := by decide +kernel
theorem dX3_partOfFraction_30 : decode cX3_partOfFraction 30 = .ok (.lload 7, 2) := by decide +kernel
theorem dX3_partOfFraction_32 : decode cX3_partOfFraction 32 = .ok (.lstore 5, 2) := by decide +kernel
theorem dX3_partOfFraction_34 : decode cX3_partOfFraction 34 = .ok (.lload 10, 2) := by decide +kernel
theorem dX3_partOfFraction_36 : decode cX3_partOfFraction 36 = .ok (.lstore 7, 2) := by decide +kernel
theorem dX3_partOfFraction_38 : decode cX3_partOfFraction 38 = .ok (.iinc 9 1, 3) := by decide +kernel
theorem dX3_partOfFraction_41 : decode cX3_partOfFraction 41 = .ok (.goto (-32), 3) := by decide +kernel
theorem dX3_partOfFraction_44 : decode cX3_partOfFraction 44 = .ok (.iload 4, 2) := by decide +kernel
theorem dX3_partOfFraction_46 : decode cX3_partOfFraction 46 = .ok (.ifCond .ne 7, 3) := by decide +kernel
theorem dX3_partOfFraction_49 : decode cX3_partOfFraction 49 = .ok (.lload_n 0, 1) := by decide +kernel
theorem dX3_partOfFraction_50 : decode cX3_partOfFraction 50 = .ok (.goto 4, 3) := by decide +kernel
theorem dX3_partOfFraction_53 : decode cX3_partOfFraction 53 = .ok (.lload_n 2, 1) := by decide +kernel
theorem dX3_partOfFraction_54 : decode cX3_partOfFraction 54 = .ok (.lstore 9, 2) := by decide +kernel
theorem dX3_partOfFraction_56 : decode cX3_partOfFraction 56 = .ok (.lload 5, 2) := by decide +kernel
theorem dX3_partOfFraction_58 : decode cX3_partOfFraction 58 = .ok (.lconst 0, 1) := by decide +kernel
theorem dX3_partOfFraction_59 : decode cX3_partOfFraction 59 = .ok (.lcmp, 1) := by decide +kernel
theorem dX3_partOfFraction_60 : decode cX3_partOfFraction 60 = .ok (.ifCond .le 11, 3) := by decide +kernel
theorem dX3_partOfFraction_63 : decode cX3_partOfFraction 63 = .ok (.lload 9, 2) := by decide +kernel
theorem dX3_partOfFraction_65 : decode cX3_partOfFraction 65 = .ok (.lload 5, 2) := by decide +kernel
theorem dX3_partOfFraction_67 : decode cX3_partOfFraction 67 = .ok (.ldiv, 1) := by decide +kernel
theorem dX3_partOfFraction_68 : decode cX3_partOfFraction 68 = .ok (.goto 5, 3) := by decide +kernel
theorem dX3_partOfFraction_71 : decode cX3_partOfFraction 71 = .ok (.lload 9, 2) := by decide +kernel
theorem dX3_partOfFraction_73 : decode cX3_partOfFraction 73 = .ok (.lreturn, 1) := by decide +kernel
theorem dX3_fittingLosses_0 : decode cX3_fittingLosses 0 = .ok (.iconst 0, 1) := by decide +kernel
theorem dX3_fittingLosses_1 : decode cX3_fittingLosses 1 = .ok (.istore_n 2, 1) := by decide +kernel
theorem dX3_fittingLosses_2 : decode cX3_fittingLosses 2 = .ok (.iconst 0, 1) := by decide +kernel
theorem dX3_fittingLosses_3 : decode cX3_fittingLosses 3 = .ok (.istore_n 3, 1) := by decide +kernel
theorem dX3_fittingLosses_4 : decode cX3_fittingLosses 4 = .ok (.iload_n 3, 1) := by decide +kernel
theorem dX3_fittingLosses_5 : decode cX3_fittingLosses 5 = .ok (.bipush 9, 2) := by decide +kernel
theorem dX3_fittingLosses_7 : decode cX3_fittingLosses 7 = .ok (.if_icmp .gt 43, 3) := by decide +kernel
theorem dX3_fittingLosses_10 : decode cX3_fittingLosses 10 = .ok (.aload_n 0, 1) := by decide +kernel
theorem dX3_fittingLosses_11 : decode cX3_fittingLosses 11 = .ok (.getfield 16, 3) := by decide +kernel
theorem dX3_fittingLosses_14 : decode cX3_fittingLosses 14 = .ok (.aload_n 0, 1) := by decide +kernel
theorem dX3_fittingLosses_15 : decode cX3_fittingLosses 15 = .ok (.getfield 10, 3) := by decide +kernel
theorem dX3_fittingLosses_18 : decode cX3_fittingLosses 18 = .ok (.invokevirtual 164, 3) := by decide +kernel
theorem dX3_fittingLosses_21 : decode cX3_fittingLosses 21 = .ok (.aload_n 0, 1) := by decide +kernel
theorem dX3_fittingLosses_22 : decode cX3_fittingLosses 22 = .ok (.getfield 16, 3) := by decide +kernel
theorem dX3_fittingLosses_25 : decode cX3_fittingLosses 25 = .ok (.getfield 127, 3) := by decide +kernel
theorem dX3_fittingLosses_28 : decode cX3_fittingLosses 28 = .ok (.iload_n 1, 1) := by decide +kernel
theorem dX3_fittingLosses_29 : decode cX3_fittingLosses 29 = .ok (.iload_n 3, 1) := by decide +kernel
theorem dX3_fittingLosses_30 : decode cX3_fittingLosses 30 = .ok (.iastore, 1) := by decide +kernel
theorem dX3_fittingLosses_31 : decode cX3_fittingLosses 31 = .ok (.aload_n 0, 1) := by decide +kernel
theorem dX3_fittingLosses_32 : decode cX3_fittingLosses 32 = .ok (.invokevirtual 223, 3) := by decide +kernel
theorem dX3_fittingLosses_35 : decode cX3_fittingLosses 35 = .ok (.ifCond .eq 9, 3) := by decide +kernel
theorem dX3_fittingLosses_38 : decode cX3_fittingLosses 38 = .ok (.iload_n 2, 1) := by decide +kernel
theorem dX3_fittingLosses_39 : decode cX3_fittingLosses 39 = .ok (.iconst 1, 1) := by decide +kernel
theorem dX3_fittingLosses_40 : decode cX3_fittingLosses 40 = .ok (.iload_n 3, 1) := by decide +kernel
theorem dX3_fittingLosses_41 : decode cX3_fittingLosses 41 = .ok (.ishl, 1) := by decide +kernel
theorem dX3_fittingLosses_42 : decode cX3_fittingLosses 42 = .ok (.ior, 1) := by decide +kernel
theorem dX3_fittingLosses_43 : decode cX3_fittingLosses 43 = .ok (.istore_n 2, 1) := by decide +kernel
theorem dX3_fittingLosses_44 : decode cX3_fittingLosses 44 = .ok (.iinc 3 1, 3) := by decide +kernel
theorem dX3_fittingLosses_47 : decode cX3_fittingLosses 47 = .ok (.goto (-43), 3) := by decide +kernel
theorem dX3_fittingLosses_50 : decode cX3_fittingLosses 50 = .ok (.iload_n 2, 1) := by decide +kernel
theorem dX3_fittingLosses_51 : decode cX3_fittingLosses 51 = .ok (.ireturn, 1) := by decide +kernel
theorem dX3_trialGoesAsSeen_0 : decode cX3_trialGoesAsSeen 0 = .ok (.iconst 0, 1) := by decide +kernel
theorem dX3_trialGoesAsSeen_1 : decode cX3_trialGoesAsSeen 1 = .ok (.istore_n 1, 1) := by decide +kernel
theorem dX3_trialGoesAsSeen_2 : decode cX3_trialGoesAsSeen 2 = .ok (.iconst 0, 1) := by decide +kernel
theorem dX3_trialGoesAsSeen_3 : decode cX3_trialGoesAsSeen 3 = .ok (.istore_n 2, 1) := by decide +kernel
theorem dX3_trialGoesAsSeen_4 : decode cX3_trialGoesAsSeen 4 = .ok (.iload_n 2, 1) := by decide +kernel
theorem dX3_trialGoesAsSeen_5 : decode cX3_trialGoesAsSeen 5 = .ok (.aload_n 0, 1) := by decide +kernel
theorem dX3_trialGoesAsSeen_6 : decode cX3_trialGoesAsSeen 6 = .ok (.getfield 53, 3) := by decide +kernel
theorem dX3_trialGoesAsSeen_9 : decode cX3_trialGoesAsSeen 9 = .ok (.if_icmp .ge 20, 3) := by decide +kernel
theorem dX3_trialGoesAsSeen_12 : decode cX3_trialGoesAsSeen 12 = .ok (.iload_n 1, 1) := by decide +kernel
theorem dX3_trialGoesAsSeen_13 : decode cX3_trialGoesAsSeen 13 = .ok (.aload_n 0, 1) := by decide +kernel
theorem dX3_trialGoesAsSeen_14 : decode cX3_trialGoesAsSeen 14 = .ok (.getfield 43, 3) := by decide +kernel
theorem dX3_trialGoesAsSeen_17 : decode cX3_trialGoesAsSeen 17 = .ok (.iload_n 2, 1) := by decide +kernel
theorem dX3_trialGoesAsSeen_18 : decode cX3_trialGoesAsSeen 18 = .ok (.iaload, 1) := by decide +kernel
theorem dX3_trialGoesAsSeen_19 : decode cX3_trialGoesAsSeen 19 = .ok (.invokestatic 170, 3) := by decide +kernel
theorem dX3_trialGoesAsSeen_22 : decode cX3_trialGoesAsSeen 22 = .ok (.istore_n 1, 1) := by decide +kernel
theorem dX3_trialGoesAsSeen_23 : decode cX3_trialGoesAsSeen 23 = .ok (.iinc 2 1, 3) := by decide +kernel
theorem dX3_trialGoesAsSeen_26 : decode cX3_trialGoesAsSeen 26 = .ok (.goto (-22), 3) := by decide +kernel
theorem dX3_trialGoesAsSeen_29 : decode cX3_trialGoesAsSeen 29 = .ok (.iconst 0, 1) := by decide +kernel
theorem dX3_trialGoesAsSeen_30 : decode cX3_trialGoesAsSeen 30 = .ok (.istore_n 2, 1) := by decide +kernel
theorem dX3_trialGoesAsSeen_31 : decode cX3_trialGoesAsSeen 31 = .ok (.iload_n 2, 1) := by decide +kernel
theorem dX3_trialGoesAsSeen_32 : decode cX3_trialGoesAsSeen 32 = .ok (.iload_n 1, 1) := by decide +kernel
theorem dX3_trialGoesAsSeen_33 : decode cX3_trialGoesAsSeen 33 = .ok (.if_icmp .gt 33, 3) := by decide +kernel
theorem dX3_trialGoesAsSeen_36 : decode cX3_trialGoesAsSeen 36 = .ok (.aload_n 0, 1) := by decide +kernel
theorem dX3_trialGoesAsSeen_37 : decode cX3_trialGoesAsSeen 37 = .ok (.iload_n 2, 1) := by decide +kernel
theorem dX3_trialGoesAsSeen_38 : decode cX3_trialGoesAsSeen 38 = .ok (.invokevirtual 273, 3) := by decide +kernel
theorem dX3_trialGoesAsSeen_41 : decode cX3_trialGoesAsSeen 41 = .ok (.ifCond .ne 5, 3) := by decide +kernel
theorem dX3_trialGoesAsSeen_44 : decode cX3_trialGoesAsSeen 44 = .ok (.iconst 0, 1) := by decide +kernel
theorem dX3_trialGoesAsSeen_45 : decode cX3_trialGoesAsSeen 45 = .ok (.ireturn, 1) := by decide +kernel
theorem dX3_trialGoesAsSeen_46 : decode cX3_trialGoesAsSeen 46 = .ok (.aload_n 0, 1) := by decide +kernel
theorem dX3_trialGoesAsSeen_47 : decode cX3_trialGoesAsSeen 47 = .ok (.getfield 16, 3) := by decide +kernel
theorem dX3_trialGoesAsSeen_50 : decode cX3_trialGoesAsSeen 50 = .ok (.aload_n 0, 1) := by decide +kernel
theorem dX3_trialGoesAsSeen_51 : decode cX3_trialGoesAsSeen 51 = .ok (.getfield 16, 3) := by decide +kernel
theorem dX3_trialGoesAsSeen_54 : decode cX3_trialGoesAsSeen 54 = .ok (.invokevirtual 114, 3) := by decide +kernel
theorem dX3_trialGoesAsSeen_57 : decode cX3_trialGoesAsSeen 57 = .ok (.invokevirtual 167, 3) := by decide +kernel
theorem dX3_trialGoesAsSeen_60 : decode cX3_trialGoesAsSeen 60 = .ok (.iinc 2 1, 3) := by decide +kernel
theorem dX3_trialGoesAsSeen_63 : decode cX3_trialGoesAsSeen 63 = .ok (.goto (-32), 3) := by decide +kernel
theorem dX3_trialGoesAsSeen_66 : decode cX3_trialGoesAsSeen 66 = .ok (.iconst 1, 1) := by decide +kernel
theorem dX3_trialGoesAsSeen_67 : decode cX3_trialGoesAsSeen 67 = .ok (.ireturn, 1) := by decide +kernel
theorem dX3_trialIsAsSeen_0 : decode cX3_trialIsAsSeen 0 = .ok (.iconst 0, 1) := by decide +kernel
theorem dX3_trialIsAsSeen_1 : decode cX3_trialIsAsSeen 1 = .ok (.istore_n 2, 1) := by decide +kernel
theorem dX3_trialIsAsSeen_2 : decode cX3_trialIsAsSeen 2 = .ok (.iload_n 2, 1) := by decide +kernel
theorem dX3_trialIsAsSeen_3 : decode cX3_trialIsAsSeen 3 = .ok (.aload_n 0, 1) := by decide +kernel
theorem dX3_trialIsAsSeen_4 : decode cX3_trialIsAsSeen 4 = .ok (.getfield 53, 3) := by decide +kernel
theorem dX3_trialIsAsSeen_7 : decode cX3_trialIsAsSeen 7 = .ok (.if_icmp .ge 57, 3) := by decide +kernel
theorem dX3_trialIsAsSeen_10 : decode cX3_trialIsAsSeen 10 = .ok (.aload_n 0, 1) := by decide +kernel
theorem dX3_trialIsAsSeen_11 : decode cX3_trialIsAsSeen 11 = .ok (.getfield 47, 3) := by decide +kernel
theorem dX3_trialIsAsSeen_14 : decode cX3_trialIsAsSeen 14 = .ok (.iload_n 2, 1) := by decide +kernel
theorem dX3_trialIsAsSeen_15 : decode cX3_trialIsAsSeen 15 = .ok (.iaload, 1) := by decide +kernel
theorem dX3_trialIsAsSeen_16 : decode cX3_trialIsAsSeen 16 = .ok (.istore_n 3, 1) := by decide +kernel
theorem dX3_trialIsAsSeen_17 : decode cX3_trialIsAsSeen 17 = .ok (.aload_n 0, 1) := by decide +kernel
theorem dX3_trialIsAsSeen_18 : decode cX3_trialIsAsSeen 18 = .ok (.getfield 43, 3) := by decide +kernel
theorem dX3_trialIsAsSeen_21 : decode cX3_trialIsAsSeen 21 = .ok (.iload_n 2, 1) := by decide +kernel
theorem dX3_trialIsAsSeen_22 : decode cX3_trialIsAsSeen 22 = .ok (.iaload, 1) := by decide +kernel
theorem dX3_trialIsAsSeen_23 : decode cX3_trialIsAsSeen 23 = .ok (.iload_n 1, 1) := by decide +kernel
theorem dX3_trialIsAsSeen_24 : decode cX3_trialIsAsSeen 24 = .ok (.if_icmp .ne 34, 3) := by decide +kernel
theorem dX3_trialIsAsSeen_27 : decode cX3_trialIsAsSeen 27 = .ok (.aload_n 0, 1) := by decide +kernel
theorem dX3_trialIsAsSeen_28 : decode cX3_trialIsAsSeen 28 = .ok (.getfield 16, 3) := by decide +kernel
theorem dX3_trialIsAsSeen_31 : decode cX3_trialIsAsSeen 31 = .ok (.iload_n 3, 1) := by decide +kernel
theorem dX3_trialIsAsSeen_32 : decode cX3_trialIsAsSeen 32 = .ok (.invokevirtual 117, 3) := by decide +kernel
theorem dX3_trialIsAsSeen_35 : decode cX3_trialIsAsSeen 35 = .ok (.ifCond .eq 21, 3) := by decide +kernel
theorem dX3_trialIsAsSeen_38 : decode cX3_trialIsAsSeen 38 = .ok (.aload_n 0, 1) := by decide +kernel
theorem dX3_trialIsAsSeen_39 : decode cX3_trialIsAsSeen 39 = .ok (.getfield 16, 3) := by decide +kernel
theorem dX3_trialIsAsSeen_42 : decode cX3_trialIsAsSeen 42 = .ok (.getfield 130, 3) := by decide +kernel
theorem dX3_trialIsAsSeen_45 : decode cX3_trialIsAsSeen 45 = .ok (.iload_n 3, 1) := by decide +kernel
theorem dX3_trialIsAsSeen_46 : decode cX3_trialIsAsSeen 46 = .ok (.iaload, 1) := by decide +kernel
theorem dX3_trialIsAsSeen_47 : decode cX3_trialIsAsSeen 47 = .ok (.aload_n 0, 1) := by decide +kernel
theorem dX3_trialIsAsSeen_48 : decode cX3_trialIsAsSeen 48 = .ok (.getfield 50, 3) := by decide +kernel
theorem dX3_trialIsAsSeen_51 : decode cX3_trialIsAsSeen 51 = .ok (.iload_n 2, 1) := by decide +kernel
theorem dX3_trialIsAsSeen_52 : decode cX3_trialIsAsSeen 52 = .ok (.iaload, 1) := by decide +kernel
theorem dX3_trialIsAsSeen_53 : decode cX3_trialIsAsSeen 53 = .ok (.if_icmp .eq 5, 3) := by decide +kernel
theorem dX3_trialIsAsSeen_56 : decode cX3_trialIsAsSeen 56 = .ok (.iconst 0, 1) := by decide +kernel
theorem dX3_trialIsAsSeen_57 : decode cX3_trialIsAsSeen 57 = .ok (.ireturn, 1) := by decide +kernel
theorem dX3_trialIsAsSeen_58 : decode cX3_trialIsAsSeen 58 = .ok (.iinc 2 1, 3) := by decide +kernel
theorem dX3_trialIsAsSeen_61 : decode cX3_trialIsAsSeen 61 = .ok (.goto (-59), 3) := by decide +kernel
theorem dX3_trialIsAsSeen_64 : decode cX3_trialIsAsSeen 64 = .ok (.iconst 1, 1) := by decide +kernel
theorem dX3_trialIsAsSeen_65 : decode cX3_trialIsAsSeen 65 = .ok (.ireturn, 1) := by decide +kernel
theorem dX3_lookAhead_0 : decode cX3_lookAhead 0 = .ok (.iconst 0, 1) := by decide +kernel
theorem dX3_lookAhead_1 : decode cX3_lookAhead 1 = .ok (.istore_n 3, 1) := by decide +kernel
theorem dX3_lookAhead_2 : decode cX3_lookAhead 2 = .ok (.iload_n 3, 1) := by decide +kernel
theorem dX3_lookAhead_3 : decode cX3_lookAhead 3 = .ok (.bipush 9, 2) := by decide +kernel
theorem dX3_lookAhead_5 : decode cX3_lookAhead 5 = .ok (.if_icmp .gt 90, 3) := by decide +kernel
theorem dX3_lookAhead_8 : decode cX3_lookAhead 8 = .ok (.iload_n 2, 1) := by decide +kernel
theorem dX3_lookAhead_9 : decode cX3_lookAhead 9 = .ok (.iload_n 3, 1) := by decide +kernel
theorem dX3_lookAhead_10 : decode cX3_lookAhead 10 = .ok (.ishr, 1) := by decide +kernel
theorem dX3_lookAhead_11 : decode cX3_lookAhead 11 = .ok (.iconst 1, 1) := by decide +kernel
theorem dX3_lookAhead_12 : decode cX3_lookAhead 12 = .ok (.iand, 1) := by decide +kernel
theorem dX3_lookAhead_13 : decode cX3_lookAhead 13 = .ok (.iconst 1, 1) := by decide +kernel
theorem dX3_lookAhead_14 : decode cX3_lookAhead 14 = .ok (.if_icmp .ne 75, 3) := by decide +kernel
theorem dX3_lookAhead_17 : decode cX3_lookAhead 17 = .ok (.aload_n 0, 1) := by decide +kernel
theorem dX3_lookAhead_18 : decode cX3_lookAhead 18 = .ok (.getfield 16, 3) := by decide +kernel
theorem dX3_lookAhead_21 : decode cX3_lookAhead 21 = .ok (.aload_n 0, 1) := by decide +kernel
theorem dX3_lookAhead_22 : decode cX3_lookAhead 22 = .ok (.getfield 10, 3) := by decide +kernel
theorem dX3_lookAhead_25 : decode cX3_lookAhead 25 = .ok (.invokevirtual 164, 3) := by decide +kernel
theorem dX3_lookAhead_28 : decode cX3_lookAhead 28 = .ok (.aload_n 0, 1) := by decide +kernel
theorem dX3_lookAhead_29 : decode cX3_lookAhead 29 = .ok (.getfield 16, 3) := by decide +kernel
theorem dX3_lookAhead_32 : decode cX3_lookAhead 32 = .ok (.getfield 127, 3) := by decide +kernel
theorem dX3_lookAhead_35 : decode cX3_lookAhead 35 = .ok (.iload_n 1, 1) := by decide +kernel
theorem dX3_lookAhead_36 : decode cX3_lookAhead 36 = .ok (.iload_n 3, 1) := by decide +kernel
theorem dX3_lookAhead_37 : decode cX3_lookAhead 37 = .ok (.iastore, 1) := by decide +kernel
theorem dX3_lookAhead_38 : decode cX3_lookAhead 38 = .ok (.iconst 0, 1) := by decide +kernel
theorem dX3_lookAhead_39 : decode cX3_lookAhead 39 = .ok (.istore 4, 2) := by decide +kernel
theorem dX3_lookAhead_41 : decode cX3_lookAhead 41 = .ok (.iload 4, 2) := by decide +kernel
theorem dX3_lookAhead_43 : decode cX3_lookAhead 43 = .ok (.bipush 40, 2) := by decide +kernel
theorem dX3_lookAhead_45 : decode cX3_lookAhead 45 = .ok (.if_icmp .gt 44, 3) := by decide +kernel
theorem dX3_lookAhead_48 : decode cX3_lookAhead 48 = .ok (.aload_n 0, 1) := by decide +kernel
theorem dX3_lookAhead_49 : decode cX3_lookAhead 49 = .ok (.getfield 63, 3) := by decide +kernel
theorem dX3_lookAhead_52 : decode cX3_lookAhead 52 = .ok (.iload_n 3, 1) := by decide +kernel
theorem dX3_lookAhead_53 : decode cX3_lookAhead 53 = .ok (.bipush 41, 2) := by decide +kernel
theorem dX3_lookAhead_55 : decode cX3_lookAhead 55 = .ok (.imul, 1) := by decide +kernel
theorem dX3_lookAhead_56 : decode cX3_lookAhead 56 = .ok (.iload 4, 2) := by decide +kernel
theorem dX3_lookAhead_58 : decode cX3_lookAhead 58 = .ok (.iadd, 1) := by decide +kernel
theorem dX3_lookAhead_59 : decode cX3_lookAhead 59 = .ok (.aload_n 0, 1) := by decide +kernel
theorem dX3_lookAhead_60 : decode cX3_lookAhead 60 = .ok (.getfield 16, 3) := by decide +kernel
theorem dX3_lookAhead_63 : decode cX3_lookAhead 63 = .ok (.getfield 130, 3) := by decide +kernel
theorem dX3_lookAhead_66 : decode cX3_lookAhead 66 = .ok (.iload_n 1, 1) := by decide +kernel
theorem dX3_lookAhead_67 : decode cX3_lookAhead 67 = .ok (.iaload, 1) := by decide +kernel
theorem dX3_lookAhead_68 : decode cX3_lookAhead 68 = .ok (.iastore, 1) := by decide +kernel
theorem dX3_lookAhead_69 : decode cX3_lookAhead 69 = .ok (.aload_n 0, 1) := by decide +kernel
theorem dX3_lookAhead_70 : decode cX3_lookAhead 70 = .ok (.getfield 16, 3) := by decide +kernel
theorem dX3_lookAhead_73 : decode cX3_lookAhead 73 = .ok (.aload_n 0, 1) := by decide +kernel
theorem dX3_lookAhead_74 : decode cX3_lookAhead 74 = .ok (.getfield 16, 3) := by decide +kernel
theorem dX3_lookAhead_77 : decode cX3_lookAhead 77 = .ok (.invokevirtual 114, 3) := by decide +kernel
theorem dX3_lookAhead_80 : decode cX3_lookAhead 80 = .ok (.invokevirtual 167, 3) := by decide +kernel
theorem dX3_lookAhead_83 : decode cX3_lookAhead 83 = .ok (.iinc 4 1, 3) := by decide +kernel
theorem dX3_lookAhead_86 : decode cX3_lookAhead 86 = .ok (.goto (-45), 3) := by decide +kernel
theorem dX3_lookAhead_89 : decode cX3_lookAhead 89 = .ok (.iinc 3 1, 3) := by decide +kernel
theorem dX3_lookAhead_92 : decode cX3_lookAhead 92 = .ok (.goto (-90), 3) := by decide +kernel
theorem dX3_lookAhead_95 : decode cX3_lookAhead 95 = .ok (.return_, 1) := by decide +kernel
theorem dX3_leftAtWorst_0 : decode cX3_leftAtWorst 0 = .ok (.iconst 0, 1) := by decide +kernel
theorem dX3_leftAtWorst_1 : decode cX3_leftAtWorst 1 = .ok (.istore_n 3, 1) := by decide +kernel
theorem dX3_leftAtWorst_2 : decode cX3_leftAtWorst 2 = .ok (.iconst 0, 1) := by decide +kernel
theorem dX3_leftAtWorst_3 : decode cX3_leftAtWorst 3 = .ok (.istore 4, 2) := by decide +kernel
theorem dX3_leftAtWorst_5 : decode cX3_leftAtWorst 5 = .ok (.iload 4, 2) := by decide +kernel
theorem dX3_leftAtWorst_7 : decode cX3_leftAtWorst 7 = .ok (.bipush 9, 2) := by decide +kernel
theorem dX3_leftAtWorst_9 : decode cX3_leftAtWorst 9 = .ok (.if_icmp .gt 32, 3) := by decide +kernel
theorem dX3_leftAtWorst_12 : decode cX3_leftAtWorst 12 = .ok (.iload_n 2, 1) := by decide +kernel
theorem dX3_leftAtWorst_13 : decode cX3_leftAtWorst 13 = .ok (.iload 4, 2) := by decide +kernel
theorem dX3_leftAtWorst_15 : decode cX3_leftAtWorst 15 = .ok (.ishr, 1) := by decide +kernel
theorem dX3_leftAtWorst_16 : decode cX3_leftAtWorst 16 = .ok (.iconst 1, 1) := by decide +kernel
theorem dX3_leftAtWorst_17 : decode cX3_leftAtWorst 17 = .ok (.iand, 1) := by decide +kernel
theorem dX3_leftAtWorst_18 : decode cX3_leftAtWorst 18 = .ok (.iconst 1, 1) := by decide +kernel
theorem dX3_leftAtWorst_19 : decode cX3_leftAtWorst 19 = .ok (.if_icmp .ne 16, 3) := by decide +kernel
theorem dX3_leftAtWorst_22 : decode cX3_leftAtWorst 22 = .ok (.iload_n 3, 1) := by decide +kernel
theorem dX3_leftAtWorst_23 : decode cX3_leftAtWorst 23 = .ok (.aload_n 0, 1) := by decide +kernel
theorem dX3_leftAtWorst_24 : decode cX3_leftAtWorst 24 = .ok (.iload 4, 2) := by decide +kernel
theorem dX3_leftAtWorst_26 : decode cX3_leftAtWorst 26 = .ok (.iload_n 1, 1) := by decide +kernel
theorem dX3_leftAtWorst_27 : decode cX3_leftAtWorst 27 = .ok (.iload_n 2, 1) := by decide +kernel
theorem dX3_leftAtWorst_28 : decode cX3_leftAtWorst 28 = .ok (.invokevirtual 276, 3) := by decide +kernel
theorem dX3_leftAtWorst_31 : decode cX3_leftAtWorst 31 = .ok (.invokestatic 170, 3) := by decide +kernel
theorem dX3_leftAtWorst_34 : decode cX3_leftAtWorst 34 = .ok (.istore_n 3, 1) := by decide +kernel
theorem dX3_leftAtWorst_35 : decode cX3_leftAtWorst 35 = .ok (.iinc 4 1, 3) := by decide +kernel
theorem dX3_leftAtWorst_38 : decode cX3_leftAtWorst 38 = .ok (.goto (-33), 3) := by decide +kernel
theorem dX3_leftAtWorst_41 : decode cX3_leftAtWorst 41 = .ok (.iload_n 3, 1) := by decide +kernel
theorem dX3_leftAtWorst_42 : decode cX3_leftAtWorst 42 = .ok (.ireturn, 1) := by decide +kernel
theorem dX3_lossesLookingLike_0 : decode cX3_lossesLookingLike 0 = .ok (.aload_n 0, 1) := by decide +kernel
theorem dX3_lossesLookingLike_1 : decode cX3_lossesLookingLike 1 = .ok (.getfield 63, 3) := by decide +kernel
theorem dX3_lossesLookingLike_4 : decode cX3_lossesLookingLike 4 = .ok (.iload_n 1, 1) := by decide +kernel
theorem dX3_lossesLookingLike_5 : decode cX3_lossesLookingLike 5 = .ok (.bipush 41, 2) := by decide +kernel
theorem dX3_lossesLookingLike_7 : decode cX3_lossesLookingLike 7 = .ok (.imul, 1) := by decide +kernel
theorem dX3_lossesLookingLike_8 : decode cX3_lossesLookingLike 8 = .ok (.iload_n 2, 1) := by decide +kernel
theorem dX3_lossesLookingLike_9 : decode cX3_lossesLookingLike 9 = .ok (.iadd, 1) := by decide +kernel
theorem dX3_lossesLookingLike_10 : decode cX3_lossesLookingLike 10 = .ok (.iaload, 1) := by decide +kernel
theorem dX3_lossesLookingLike_11 : decode cX3_lossesLookingLike 11 = .ok (.istore 4, 2) := by decide +kernel
theorem dX3_lossesLookingLike_13 : decode cX3_lossesLookingLike 13 = .ok (.iconst 0, 1) := by decide +kernel
theorem dX3_lossesLookingLike_14 : decode cX3_lossesLookingLike 14 = .ok (.istore 5, 2) := by decide +kernel
theorem dX3_lossesLookingLike_16 : decode cX3_lossesLookingLike 16 = .ok (.iconst 0, 1) := by decide +kernel
theorem dX3_lossesLookingLike_17 : decode cX3_lossesLookingLike 17 = .ok (.istore 6, 2) := by decide +kernel
theorem dX3_lossesLookingLike_19 : decode cX3_lossesLookingLike 19 = .ok (.iload 6, 2) := by decide +kernel
theorem dX3_lossesLookingLike_21 : decode cX3_lossesLookingLike 21 = .ok (.bipush 9, 2) := by decide +kernel
theorem dX3_lossesLookingLike_23 : decode cX3_lossesLookingLike 23 = .ok (.if_icmp .gt 39, 3) := by decide +kernel
theorem dX3_lossesLookingLike_26 : decode cX3_lossesLookingLike 26 = .ok (.iload_n 3, 1) := by decide +kernel
theorem dX3_lossesLookingLike_27 : decode cX3_lossesLookingLike 27 = .ok (.iload 6, 2) := by decide +kernel
theorem dX3_lossesLookingLike_29 : decode cX3_lossesLookingLike 29 = .ok (.ishr, 1) := by decide +kernel
theorem dX3_lossesLookingLike_30 : decode cX3_lossesLookingLike 30 = .ok (.iconst 1, 1) := by decide +kernel
theorem dX3_lossesLookingLike_31 : decode cX3_lossesLookingLike 31 = .ok (.iand, 1) := by decide +kernel
theorem dX3_lossesLookingLike_32 : decode cX3_lossesLookingLike 32 = .ok (.iconst 1, 1) := by decide +kernel
theorem dX3_lossesLookingLike_33 : decode cX3_lossesLookingLike 33 = .ok (.if_icmp .ne 23, 3) := by decide +kernel
theorem dX3_lossesLookingLike_36 : decode cX3_lossesLookingLike 36 = .ok (.aload_n 0, 1) := by decide +kernel
theorem dX3_lossesLookingLike_37 : decode cX3_lossesLookingLike 37 = .ok (.getfield 63, 3) := by decide +kernel
theorem dX3_lossesLookingLike_40 : decode cX3_lossesLookingLike 40 = .ok (.iload 6, 2) := by decide +kernel
theorem dX3_lossesLookingLike_42 : decode cX3_lossesLookingLike 42 = .ok (.bipush 41, 2) := by decide +kernel
theorem dX3_lossesLookingLike_44 : decode cX3_lossesLookingLike 44 = .ok (.imul, 1) := by decide +kernel
theorem dX3_lossesLookingLike_45 : decode cX3_lossesLookingLike 45 = .ok (.iload_n 2, 1) := by decide +kernel
theorem dX3_lossesLookingLike_46 : decode cX3_lossesLookingLike 46 = .ok (.iadd, 1) := by decide +kernel
theorem dX3_lossesLookingLike_47 : decode cX3_lossesLookingLike 47 = .ok (.iaload, 1) := by decide +kernel
theorem dX3_lossesLookingLike_48 : decode cX3_lossesLookingLike 48 = .ok (.iload 4, 2) := by decide +kernel
theorem dX3_lossesLookingLike_50 : decode cX3_lossesLookingLike 50 = .ok (.if_icmp .ne 6, 3) := by decide +kernel
theorem dX3_lossesLookingLike_53 : decode cX3_lossesLookingLike 53 = .ok (.iinc 5 1, 3) := by decide +kernel
theorem dX3_lossesLookingLike_56 : decode cX3_lossesLookingLike 56 = .ok (.iinc 6 1, 3) := by decide +kernel
theorem dX3_lossesLookingLike_59 : decode cX3_lossesLookingLike 59 = .ok (.goto (-40), 3) := by decide +kernel
theorem dX3_lossesLookingLike_62 : decode cX3_lossesLookingLike 62 = .ok (.iload 5, 2) := by decide +kernel
theorem dX3_lossesLookingLike_64 : decode cX3_lossesLookingLike 64 = .ok (.ireturn, 1) := by decide +kernel
theorem dX4_init_0 : decode cX4_init 0 = .ok (.aload_n 0, 1) := by decide +kernel
theorem dX4_init_1 : decode cX4_init 1 = .ok (.invokespecial 1, 3) := by decide +kernel
theorem dX4_init_4 : decode cX4_init 4 = .ok (.aload_n 0, 1) := by decide +kernel
theorem dX4_init_5 : decode cX4_init 5 = .ok (.sipush 234, 3) := by decide +kernel
theorem dX4_init_8 : decode cX4_init 8 = .ok (.newarray .int, 2) := by decide +kernel
theorem dX4_init_10 : decode cX4_init 10 = .ok (.putfield 7, 3) := by decide +kernel
theorem dX4_init_13 : decode cX4_init 13 = .ok (.aload_n 0, 1) := by decide +kernel
theorem dX4_init_14 : decode cX4_init 14 = .ok (.bipush 39, 2) := by decide +kernel
theorem dX4_init_16 : decode cX4_init 16 = .ok (.newarray .int, 2) := by decide +kernel
theorem dX4_init_18 : decode cX4_init 18 = .ok (.putfield 13, 3) := by decide +kernel
theorem dX4_init_21 : decode cX4_init 21 = .ok (.aload_n 0, 1) := by decide +kernel
theorem dX4_init_22 : decode cX4_init 22 = .ok (.sipush 160, 3) := by decide +kernel
theorem dX4_init_25 : decode cX4_init 25 = .ok (.newarray .int, 2) := by decide +kernel
theorem dX4_init_27 : decode cX4_init 27 = .ok (.putfield 16, 3) := by decide +kernel
theorem dX4_init_30 : decode cX4_init 30 = .ok (.aload_n 0, 1) := by decide +kernel
theorem dX4_init_31 : decode cX4_init 31 = .ok (.bipush 9, 2) := by decide +kernel
theorem dX4_init_33 : decode cX4_init 33 = .ok (.newarray .int, 2) := by decide +kernel
theorem dX4_init_35 : decode cX4_init 35 = .ok (.dup, 1) := by decide +kernel
theorem dX4_init_36 : decode cX4_init 36 = .ok (.iconst 0, 1) := by decide +kernel
theorem dX4_init_37 : decode cX4_init 37 = .ok (.iconst 0, 1) := by decide +kernel
theorem dX4_init_38 : decode cX4_init 38 = .ok (.iastore, 1) := by decide +kernel
theorem dX4_init_39 : decode cX4_init 39 = .ok (.dup, 1) := by decide +kernel
theorem dX4_init_40 : decode cX4_init 40 = .ok (.iconst 1, 1) := by decide +kernel
theorem dX4_init_41 : decode cX4_init 41 = .ok (.iconst 5, 1) := by decide +kernel
theorem dX4_init_42 : decode cX4_init 42 = .ok (.iastore, 1) := by decide +kernel
theorem dX4_init_43 : decode cX4_init 43 = .ok (.dup, 1) := by decide +kernel
theorem dX4_init_44 : decode cX4_init 44 = .ok (.iconst 2, 1) := by decide +kernel
theorem dX4_init_45 : decode cX4_init 45 = .ok (.bipush 9, 2) := by decide +kernel
theorem dX4_init_47 : decode cX4_init 47 = .ok (.iastore, 1) := by decide +kernel
theorem dX4_init_48 : decode cX4_init 48 = .ok (.dup, 1) := by decide +kernel
theorem dX4_init_49 : decode cX4_init 49 = .ok (.iconst 3, 1) := by decide +kernel
theorem dX4_init_50 : decode cX4_init 50 = .ok (.bipush 13, 2) := by decide +kernel
theorem dX4_init_52 : decode cX4_init 52 = .ok (.iastore, 1) := by decide +kernel
theorem dX4_init_53 : decode cX4_init 53 = .ok (.dup, 1) := by decide +kernel
theorem dX4_init_54 : decode cX4_init 54 = .ok (.iconst 4, 1) := by decide +kernel
theorem dX4_init_55 : decode cX4_init 55 = .ok (.bipush 17, 2) := by decide +kernel
theorem dX4_init_57 : decode cX4_init 57 = .ok (.iastore, 1) := by decide +kernel
theorem dX4_init_58 : decode cX4_init 58 = .ok (.dup, 1) := by decide +kernel
theorem dX4_init_59 : decode cX4_init 59 = .ok (.iconst 5, 1) := by decide +kernel
theorem dX4_init_60 : decode cX4_init 60 = .ok (.bipush 22, 2) := by decide +kernel
theorem dX4_init_62 : decode cX4_init 62 = .ok (.iastore, 1) := by decide +kernel
theorem dX4_init_63 : decode cX4_init 63 = .ok (.dup, 1) := by decide +kernel
theorem dX4_init_64 : decode cX4_init 64 = .ok (.bipush 6, 2) := by decide +kernel
theorem dX4_init_66 : decode cX4_init 66 = .ok (.bipush 27, 2) := by decide +kernel
theorem dX4_init_68 : decode cX4_init 68 = .ok (.iastore, 1) := by decide +kernel
theorem dX4_init_69 : decode cX4_init 69 = .ok (.dup, 1) := by decide +kernel
theorem dX4_init_70 : decode cX4_init 70 = .ok (.bipush 7, 2) := by decide +kernel
theorem dX4_init_72 : decode cX4_init 72 = .ok (.bipush 31, 2) := by decide +kernel
theorem dX4_init_74 : decode cX4_init 74 = .ok (.iastore, 1) := by decide +kernel
theorem dX4_init_75 : decode cX4_init 75 = .ok (.dup, 1) := by decide +kernel
theorem dX4_init_76 : decode cX4_init 76 = .ok (.bipush 8, 2) := by decide +kernel
theorem dX4_init_78 : decode cX4_init 78 = .ok (.bipush 35, 2) := by decide +kernel
theorem dX4_init_80 : decode cX4_init 80 = .ok (.iastore, 1) := by decide +kernel
theorem dX4_init_81 : decode cX4_init 81 = .ok (.putfield 19, 3) := by decide +kernel
theorem dX4_init_84 : decode cX4_init 84 = .ok (.aload_n 0, 1) := by decide +kernel
theorem dX4_init_85 : decode cX4_init 85 = .ok (.bipush 35, 2) := by decide +kernel
theorem dX4_init_87 : decode cX4_init 87 = .ok (.newarray .int, 2) := by decide +kernel
theorem dX4_init_89 : decode cX4_init 89 = .ok (.dup, 1) := by decide +kernel
theorem dX4_init_90 : decode cX4_init 90 = .ok (.iconst 0, 1) := by decide +kernel
theorem dX4_init_91 : decode cX4_init 91 = .ok (.bipush 112, 2) := by decide +kernel
theorem dX4_init_93 : decode cX4_init 93 = .ok (.iastore, 1) := by decide +kernel
theorem dX4_init_94 : decode cX4_init 94 = .ok (.dup, 1) := by decide +kernel
theorem dX4_init_95 : decode cX4_init 95 = .ok (.iconst 1, 1) := by decide +kernel
theorem dX4_init_96 : decode cX4_init 96 = .ok (.bipush 108, 2) := by decide +kernel
theorem dX4_init_98 : decode cX4_init 98 = .ok (.iastore, 1) := by decide +kernel
theorem dX4_init_99 : decode cX4_init 99 = .ok (.dup, 1) := by decide +kernel
theorem dX4_init_100 : decode cX4_init 100 = .ok (.iconst 2, 1) := by decide +kernel
theorem dX4_init_101 : decode cX4_init 101 = .ok (.bipush 97, 2) := by decide +kernel
theorem dX4_init_103 : decode cX4_init 103 = .ok (.iastore, 1) := by decide +kernel
theorem dX4_init_104 : decode cX4_init 104 = .ok (.dup, 1) := by decide +kernel
theorem dX4_init_105 : decode cX4_init 105 = .ok (.iconst 3, 1) := by decide +kernel
theorem dX4_init_106 : decode cX4_init 106 = .ok (.bipush 105, 2) := by decide +kernel
theorem dX4_init_108 : decode cX4_init 108 = .ok (.iastore, 1) := by decide +kernel
theorem dX4_init_109 : decode cX4_init 109 = .ok (.dup, 1) := by decide +kernel
theorem dX4_init_110 : decode cX4_init 110 = .ok (.iconst 4, 1) := by decide +kernel
theorem dX4_init_111 : decode cX4_init 111 = .ok (.bipush 110, 2) := by decide +kernel
theorem dX4_init_113 : decode cX4_init 113 = .ok (.iastore, 1) := by decide +kernel
theorem dX4_init_114 : decode cX4_init 114 = .ok (.dup, 1) := by decide +kernel
theorem dX4_init_115 : decode cX4_init 115 = .ok (.iconst 5, 1) := by decide +kernel
theorem dX4_init_116 : decode cX4_init 116 = .ok (.bipush 115, 2) := by decide +kernel
theorem dX4_init_118 : decode cX4_init 118 = .ok (.iastore, 1) := by decide +kernel
theorem dX4_init_119 : decode cX4_init 119 = .ok (.dup, 1) := by decide +kernel
theorem dX4_init_120 : decode cX4_init 120 = .ok (.bipush 6, 2) := by decide +kernel
theorem dX4_init_122 : decode cX4_init 122 = .ok (.bipush 108, 2) := by decide +kernel
theorem dX4_init_124 : decode cX4_init 124 = .ok (.iastore, 1) := by decide +kernel
theorem dX4_init_125 : decode cX4_init 125 = .ok (.dup, 1) := by decide +kernel
theorem dX4_init_126 : decode cX4_init 126 = .ok (.bipush 7, 2) := by decide +kernel
theorem dX4_init_128 : decode cX4_init 128 = .ok (.bipush 105, 2) := by decide +kernel
theorem dX4_init_130 : decode cX4_init 130 = .ok (.iastore, 1) := by decide +kernel
theorem dX4_init_131 : decode cX4_init 131 = .ok (.dup, 1) := by decide +kernel
theorem dX4_init_132 : decode cX4_init 132 = .ok (.bipush 8, 2) := by decide +kernel
theorem dX4_init_134 : decode cX4_init 134 = .ok (.bipush 112, 2) := by decide +kernel
theorem dX4_init_136 : decode cX4_init 136 = .ok (.iastore, 1) := by decide +kernel
theorem dX4_init_137 : decode cX4_init 137 = .ok (.dup, 1) := by decide +kernel
theorem dX4_init_138 : decode cX4_init 138 = .ok (.bipush 9, 2) := by decide +kernel
theorem dX4_init_140 : decode cX4_init 140 = .ok (.bipush 116, 2) := by decide +kernel
theorem dX4_init_142 : decode cX4_init 142 = .ok (.iastore, 1) := by decide +kernel
theorem dX4_init_143 : decode cX4_init 143 = .ok (.dup, 1) := by decide +kernel
theorem dX4_init_144 : decode cX4_init 144 = .ok (.bipush 10, 2) := by decide +kernel
theorem dX4_init_146 : decode cX4_init 146 = .ok (.bipush 97, 2) := by decide +kernel
theorem dX4_init_148 : decode cX4_init 148 = .ok (.iastore, 1) := by decide +kernel
theorem dX4_init_149 : decode cX4_init 149 = .ok (.dup, 1) := by decide +kernel
theorem dX4_init_150 : decode cX4_init 150 = .ok (.bipush 11, 2) := by decide +kernel
theorem dX4_init_152 : decode cX4_init 152 = .ok (.bipush 107, 2) := by decide +kernel
theorem dX4_init_154 : decode cX4_init 154 = .ok (.iastore, 1) := by decide +kernel
theorem dX4_init_155 : decode cX4_init 155 = .ok (.dup, 1) := by decide +kernel
theorem dX4_init_156 : decode cX4_init 156 = .ok (.bipush 12, 2) := by decide +kernel
theorem dX4_init_158 : decode cX4_init 158 = .ok (.bipush 101, 2) := by decide +kernel
theorem dX4_init_160 : decode cX4_init 160 = .ok (.iastore, 1) := by decide +kernel
theorem dX4_init_161 : decode cX4_init 161 = .ok (.dup, 1) := by decide +kernel
theorem dX4_init_162 : decode cX4_init 162 = .ok (.bipush 13, 2) := by decide +kernel
theorem dX4_init_164 : decode cX4_init 164 = .ok (.bipush 115, 2) := by decide +kernel
theorem dX4_init_166 : decode cX4_init 166 = .ok (.iastore, 1) := by decide +kernel
theorem dX4_init_167 : decode cX4_init 167 = .ok (.dup, 1) := by decide +kernel
theorem dX4_init_168 : decode cX4_init 168 = .ok (.bipush 14, 2) := by decide +kernel
theorem dX4_init_170 : decode cX4_init 170 = .ok (.bipush 111, 2) := by decide +kernel
theorem dX4_init_172 : decode cX4_init 172 = .ok (.iastore, 1) := by decide +kernel
theorem dX4_init_173 : decode cX4_init 173 = .ok (.dup, 1) := by decide +kernel
theorem dX4_init_174 : decode cX4_init 174 = .ok (.bipush 15, 2) := by decide +kernel
theorem dX4_init_176 : decode cX4_init 176 = .ok (.bipush 102, 2) := by decide +kernel
theorem dX4_init_178 : decode cX4_init 178 = .ok (.iastore, 1) := by decide +kernel
theorem dX4_init_179 : decode cX4_init 179 = .ok (.dup, 1) := by decide +kernel
theorem dX4_init_180 : decode cX4_init 180 = .ok (.bipush 16, 2) := by decide +kernel
theorem dX4_init_182 : decode cX4_init 182 = .ok (.bipush 116, 2) := by decide +kernel
theorem dX4_init_184 : decode cX4_init 184 = .ok (.iastore, 1) := by decide +kernel
theorem dX4_init_185 : decode cX4_init 185 = .ok (.dup, 1) := by decide +kernel
theorem dX4_init_186 : decode cX4_init 186 = .ok (.bipush 17, 2) := by decide +kernel
theorem dX4_init_188 : decode cX4_init 188 = .ok (.bipush 115, 2) := by decide +kernel
theorem dX4_init_190 : decode cX4_init 190 = .ok (.iastore, 1) := by decide +kernel
theorem dX4_init_191 : decode cX4_init 191 = .ok (.dup, 1) := by decide +kernel
theorem dX4_init_192 : decode cX4_init 192 = .ok (.bipush 18, 2) := by decide +kernel
theorem dX4_init_194 : decode cX4_init 194 = .ok (.bipush 104, 2) := by decide +kernel
theorem dX4_init_196 : decode cX4_init 196 = .ok (.iastore, 1) := by decide +kernel
theorem dX4_init_197 : decode cX4_init 197 = .ok (.dup, 1) := by decide +kernel
theorem dX4_init_198 : decode cX4_init 198 = .ok (.bipush 19, 2) := by decide +kernel
theorem dX4_init_200 : decode cX4_init 200 = .ok (.bipush 97, 2) := by decide +kernel
theorem dX4_init_202 : decode cX4_init 202 = .ok (.iastore, 1) := by decide +kernel
theorem dX4_init_203 : decode cX4_init 203 = .ok (.dup, 1) := by decide +kernel
theorem dX4_init_204 : decode cX4_init 204 = .ok (.bipush 20, 2) := by decide +kernel
theorem dX4_init_206 : decode cX4_init 206 = .ok (.bipush 102, 2) := by decide +kernel
theorem dX4_init_208 : decode cX4_init 208 = .ok (.iastore, 1) := by decide +kernel
theorem dX4_init_209 : decode cX4_init 209 = .ok (.dup, 1) := by decide +kernel
theorem dX4_init_210 : decode cX4_init 210 = .ok (.bipush 21, 2) := by decide +kernel
theorem dX4_init_212 : decode cX4_init 212 = .ok (.bipush 116, 2) := by decide +kernel
theorem dX4_init_214 : decode cX4_init 214 = .ok (.iastore, 1) := by decide +kernel
theorem dX4_init_215 : decode cX4_init 215 = .ok (.dup, 1) := by decide +kernel
theorem dX4_init_216 : decode cX4_init 216 = .ok (.bipush 22, 2) := by decide +kernel
theorem dX4_init_218 : decode cX4_init 218 = .ok (.bipush 100, 2) := by decide +kernel
theorem dX4_init_220 : decode cX4_init 220 = .ok (.iastore, 1) := by decide +kernel
theorem dX4_init_221 : decode cX4_init 221 = .ok (.dup, 1) := by decide +kernel
theorem dX4_init_222 : decode cX4_init 222 = .ok (.bipush 23, 2) := by decide +kernel
theorem dX4_init_224 : decode cX4_init 224 = .ok (.bipush 114, 2) := by decide +kernel
theorem dX4_init_226 : decode cX4_init 226 = .ok (.iastore, 1) := by decide +kernel
theorem dX4_init_227 : decode cX4_init 227 = .ok (.dup, 1) := by decide +kernel
theorem dX4_init_228 : decode cX4_init 228 = .ok (.bipush 24, 2) := by decide +kernel
theorem dX4_init_230 : decode cX4_init 230 = .ok (.bipush 105, 2) := by decide +kernel
theorem dX4_init_232 : decode cX4_init 232 = .ok (.iastore, 1) := by decide +kernel
theorem dX4_init_233 : decode cX4_init 233 = .ok (.dup, 1) := by decide +kernel
theorem dX4_init_234 : decode cX4_init 234 = .ok (.bipush 25, 2) := by decide +kernel
theorem dX4_init_236 : decode cX4_init 236 = .ok (.bipush 118, 2) := by decide +kernel
theorem dX4_init_238 : decode cX4_init 238 = .ok (.iastore, 1) := by decide +kernel
theorem dX4_init_239 : decode cX4_init 239 = .ok (.dup, 1) := by decide +kernel
theorem dX4_init_240 : decode cX4_init 240 = .ok (.bipush 26, 2) := by decide +kernel
theorem dX4_init_242 : decode cX4_init 242 = .ok (.bipush 101, 2) := by decide +kernel
theorem dX4_init_244 : decode cX4_init 244 = .ok (.iastore, 1) := by decide +kernel
theorem dX4_init_245 : decode cX4_init 245 = .ok (.dup, 1) := by decide +kernel
theorem dX4_init_246 : decode cX4_init 246 = .ok (.bipush 27, 2) := by decide +kernel
theorem dX4_init_248 : decode cX4_init 248 = .ok (.bipush 108, 2) := by decide +kernel
theorem dX4_init_250 : decode cX4_init 250 = .ok (.iastore, 1) := by decide +kernel
theorem dX4_init_251 : decode cX4_init 251 = .ok (.dup, 1) := by decide +kernel
theorem dX4_init_252 : decode cX4_init 252 = .ok (.bipush 28, 2) := by decide +kernel
theorem dX4_init_254 : decode cX4_init 254 = .ok (.bipush 111, 2) := by decide +kernel
theorem dX4_init_256 : decode cX4_init 256 = .ok (.iastore, 1) := by decide +kernel
theorem dX4_init_257 : decode cX4_init 257 = .ok (.dup, 1) := by decide +kernel
theorem dX4_init_258 : decode cX4_init 258 = .ok (.bipush 29, 2) := by decide +kernel
theorem dX4_init_260 : decode cX4_init 260 = .ok (.bipush 97, 2) := by decide +kernel
theorem dX4_init_262 : decode cX4_init 262 = .ok (.iastore, 1) := by decide +kernel
theorem dX4_init_263 : decode cX4_init 263 = .ok (.dup, 1) := by decide +kernel
theorem dX4_init_264 : decode cX4_init 264 = .ok (.bipush 30, 2) := by decide +kernel
theorem dX4_init_266 : decode cX4_init 266 = .ok (.bipush 100, 2) := by decide +kernel
theorem dX4_init_268 : decode cX4_init 268 = .ok (.iastore, 1) := by decide +kernel
theorem dX4_init_269 : decode cX4_init 269 = .ok (.dup, 1) := by decide +kernel
theorem dX4_init_270 : decode cX4_init 270 = .ok (.bipush 31, 2) := by decide +kernel
theorem dX4_init_272 : decode cX4_init 272 = .ok (.bipush 106, 2) := by decide +kernel
theorem dX4_init_274 : decode cX4_init 274 = .ok (.iastore, 1) := by decide +kernel
theorem dX4_init_275 : decode cX4_init 275 = .ok (.dup, 1) := by decide +kernel
theorem dX4_init_276 : decode cX4_init 276 = .ok (.bipush 32, 2) := by decide +kernel
theorem dX4_init_278 : decode cX4_init 278 = .ok (.bipush 111, 2) := by decide +kernel
theorem dX4_init_280 : decode cX4_init 280 = .ok (.iastore, 1) := by decide +kernel
theorem dX4_init_281 : decode cX4_init 281 = .ok (.dup, 1) := by decide +kernel
theorem dX4_init_282 : decode cX4_init 282 = .ok (.bipush 33, 2) := by decide +kernel
theorem dX4_init_284 : decode cX4_init 284 = .ok (.bipush 105, 2) := by decide +kernel
theorem dX4_init_286 : decode cX4_init 286 = .ok (.iastore, 1) := by decide +kernel
theorem dX4_init_287 : decode cX4_init 287 = .ok (.dup, 1) := by decide +kernel
theorem dX4_init_288 : decode cX4_init 288 = .ok (.bipush 34, 2) := by decide +kernel
theorem dX4_init_290 : decode cX4_init 290 = .ok (.bipush 110, 2) := by decide +kernel
theorem dX4_init_292 : decode cX4_init 292 = .ok (.iastore, 1) := by decide +kernel
theorem dX4_init_293 : decode cX4_init 293 = .ok (.putfield 22, 3) := by decide +kernel
theorem dX4_init_296 : decode cX4_init 296 = .ok (.aload_n 0, 1) := by decide +kernel
theorem dX4_init_297 : decode cX4_init 297 = .ok (.bipush (-4), 2) := by decide +kernel
theorem dX4_init_299 : decode cX4_init 299 = .ok (.putfield 25, 3) := by decide +kernel
theorem dX4_init_302 : decode cX4_init 302 = .ok (.aload_n 0, 1) := by decide +kernel
theorem dX4_init_303 : decode cX4_init 303 = .ok (.bipush (-4), 2) := by decide +kernel
theorem dX4_init_305 : decode cX4_init 305 = .ok (.putfield 29, 3) := by decide +kernel
theorem dX4_init_308 : decode cX4_init 308 = .ok (.aload_n 0, 1) := by decide +kernel
theorem dX4_init_309 : decode cX4_init 309 = .ok (.bipush 18, 2) := by decide +kernel
theorem dX4_init_311 : decode cX4_init 311 = .ok (.newarray .int, 2) := by decide +kernel
theorem dX4_init_313 : decode cX4_init 313 = .ok (.putfield 32, 3) := by decide +kernel
theorem dX4_init_316 : decode cX4_init 316 = .ok (.aload_n 0, 1) := by decide +kernel
theorem dX4_init_317 : decode cX4_init 317 = .ok (.sipush 410, 3) := by decide +kernel
theorem dX4_init_320 : decode cX4_init 320 = .ok (.newarray .int, 2) := by decide +kernel
theorem dX4_init_322 : decode cX4_init 322 = .ok (.putfield 35, 3) := by decide +kernel
theorem dX4_init_325 : decode cX4_init 325 = .ok (.aload_n 0, 1) := by decide +kernel
theorem dX4_init_326 : decode cX4_init 326 = .ok (.iconst 2, 1) := by decide +kernel
theorem dX4_init_327 : decode cX4_init 327 = .ok (.newarray .boolean, 2) := by decide +kernel
theorem dX4_init_329 : decode cX4_init 329 = .ok (.putfield 38, 3) := by decide +kernel
theorem dX4_init_332 : decode cX4_init 332 = .ok (.aload_n 0, 1) := by decide +kernel
theorem dX4_init_333 : decode cX4_init 333 = .ok (.iconst 4, 1) := by decide +kernel
theorem dX4_init_334 : decode cX4_init 334 = .ok (.newarray .int, 2) := by decide +kernel
theorem dX4_init_336 : decode cX4_init 336 = .ok (.dup, 1) := by decide +kernel
theorem dX4_init_337 : decode cX4_init 337 = .ok (.iconst 0, 1) := by decide +kernel
theorem dX4_init_338 : decode cX4_init 338 = .ok (.bipush (-4), 2) := by decide +kernel
theorem dX4_init_340 : decode cX4_init 340 = .ok (.iastore, 1) := by decide +kernel
theorem dX4_init_341 : decode cX4_init 341 = .ok (.dup, 1) := by decide +kernel
theorem dX4_init_342 : decode cX4_init 342 = .ok (.iconst 1, 1) := by decide +kernel
theorem dX4_init_343 : decode cX4_init 343 = .ok (.bipush (-4), 2) := by decide +kernel
theorem dX4_init_345 : decode cX4_init 345 = .ok (.iastore, 1) := by decide +kernel
theorem dX4_init_346 : decode cX4_init 346 = .ok (.dup, 1) := by decide +kernel
theorem dX4_init_347 : decode cX4_init 347 = .ok (.iconst 2, 1) := by decide +kernel
theorem dX4_init_348 : decode cX4_init 348 = .ok (.bipush (-4), 2) := by decide +kernel
theorem dX4_init_350 : decode cX4_init 350 = .ok (.iastore, 1) := by decide +kernel
theorem dX4_init_351 : decode cX4_init 351 = .ok (.dup, 1) := by decide +kernel
theorem dX4_init_352 : decode cX4_init 352 = .ok (.iconst 3, 1) := by decide +kernel
theorem dX4_init_353 : decode cX4_init 353 = .ok (.bipush (-4), 2) := by decide +kernel
theorem dX4_init_355 : decode cX4_init 355 = .ok (.iastore, 1) := by decide +kernel
theorem dX4_init_356 : decode cX4_init 356 = .ok (.putfield 42, 3) := by decide +kernel
theorem dX4_init_359 : decode cX4_init 359 = .ok (.aload_n 0, 1) := by decide +kernel
theorem dX4_init_360 : decode cX4_init 360 = .ok (.iconst 4, 1) := by decide +kernel
theorem dX4_init_361 : decode cX4_init 361 = .ok (.newarray .int, 2) := by decide +kernel
theorem dX4_init_363 : decode cX4_init 363 = .ok (.putfield 45, 3) := by decide +kernel
theorem dX4_init_366 : decode cX4_init 366 = .ok (.aload_n 0, 1) := by decide +kernel
theorem dX4_init_367 : decode cX4_init 367 = .ok (.sipush 160, 3) := by decide +kernel
theorem dX4_init_370 : decode cX4_init 370 = .ok (.newarray .int, 2) := by decide +kernel
theorem dX4_init_372 : decode cX4_init 372 = .ok (.putfield 48, 3) := by decide +kernel
theorem dX4_init_375 : decode cX4_init 375 = .ok (.return_, 1) := by decide +kernel
theorem dX4_in_0 : decode cX4_in 0 = .ok (.lload_n 0, 1) := by decide +kernel
theorem dX4_in_1 : decode cX4_in 1 = .ok (.lload_n 2, 1) := by decide +kernel
theorem dX4_in_2 : decode cX4_in 2 = .ok (.lcmp, 1) := by decide +kernel
theorem dX4_in_3 : decode cX4_in 3 = .ok (.ifCond .lt 14, 3) := by decide +kernel
theorem dX4_in_6 : decode cX4_in 6 = .ok (.lload_n 0, 1) := by decide +kernel
theorem dX4_in_7 : decode cX4_in 7 = .ok (.lload 4, 2) := by decide +kernel
theorem dX4_in_9 : decode cX4_in 9 = .ok (.lcmp, 1) := by decide +kernel
theorem dX4_in_10 : decode cX4_in 10 = .ok (.ifCond .gt 7, 3) := by decide +kernel
theorem dX4_in_13 : decode cX4_in 13 = .ok (.iconst 1, 1) := by decide +kernel
theorem dX4_in_14 : decode cX4_in 14 = .ok (.goto 4, 3) := by decide +kernel
theorem dX4_in_17 : decode cX4_in 17 = .ok (.iconst 0, 1) := by decide +kernel
theorem dX4_in_18 : decode cX4_in 18 = .ok (.ireturn, 1) := by decide +kernel
theorem dX4_feed_0 : decode cX4_feed 0 = .ok (.iload_n 1, 1) := by decide +kernel
theorem dX4_feed_1 : decode cX4_feed 1 = .ok (.i2l, 1) := by decide +kernel
theorem dX4_feed_2 : decode cX4_feed 2 = .ok (.lconst 0, 1) := by decide +kernel
theorem dX4_feed_3 : decode cX4_feed 3 = .ok (.ldc2_w 51, 3) := by decide +kernel
theorem dX4_feed_6 : decode cX4_feed 6 = .ok (.invokestatic 53, 3) := by decide +kernel
theorem dX4_feed_9 : decode cX4_feed 9 = .ok (.ifCond .ne 5, 3) := by decide +kernel
theorem dX4_feed_12 : decode cX4_feed 12 = .ok (.iconst (-1), 1) := by decide +kernel
theorem dX4_feed_13 : decode cX4_feed 13 = .ok (.ireturn, 1) := by decide +kernel
theorem dX4_feed_14 : decode cX4_feed 14 = .ok (.aload_n 0, 1) := by decide +kernel
theorem dX4_feed_15 : decode cX4_feed 15 = .ok (.getfield 57, 3) := by decide +kernel
theorem dX4_feed_18 : decode cX4_feed 18 = .ok (.sipush 160, 3) := by decide +kernel
theorem dX4_feed_21 : decode cX4_feed 21 = .ok (.if_icmp .ne 6, 3) := by decide +kernel
theorem dX4_feed_24 : decode cX4_feed 24 = .ok (.bipush (-3), 2) := by decide +kernel
theorem dX4_feed_26 : decode cX4_feed 26 = .ok (.ireturn, 1) := by decide +kernel
theorem dX4_feed_27 : decode cX4_feed 27 = .ok (.aload_n 0, 1) := by decide +kernel
theorem dX4_feed_28 : decode cX4_feed 28 = .ok (.getfield 16, 3) := by decide +kernel
theorem dX4_feed_31 : decode cX4_feed 31 = .ok (.aload_n 0, 1) := by decide +kernel
theorem dX4_feed_32 : decode cX4_feed 32 = .ok (.getfield 57, 3) := by decide +kernel
theorem dX4_feed_35 : decode cX4_feed 35 = .ok (.iload_n 1, 1) := by decide +kernel
theorem dX4_feed_36 : decode cX4_feed 36 = .ok (.iastore, 1) := by decide +kernel
theorem dX4_feed_37 : decode cX4_feed 37 = .ok (.aload_n 0, 1) := by decide +kernel
theorem dX4_feed_38 : decode cX4_feed 38 = .ok (.dup, 1) := by decide +kernel
theorem dX4_feed_39 : decode cX4_feed 39 = .ok (.getfield 57, 3) := by decide +kernel
theorem dX4_feed_42 : decode cX4_feed 42 = .ok (.iconst 1, 1) := by decide +kernel
theorem dX4_feed_43 : decode cX4_feed 43 = .ok (.iadd, 1) := by decide +kernel
theorem dX4_feed_44 : decode cX4_feed 44 = .ok (.putfield 57, 3) := by decide +kernel
theorem dX4_feed_47 : decode cX4_feed 47 = .ok (.aload_n 0, 1) := by decide +kernel
theorem dX4_feed_48 : decode cX4_feed 48 = .ok (.getfield 57, 3) := by decide +kernel
theorem dX4_feed_51 : decode cX4_feed 51 = .ok (.ireturn, 1) := by decide +kernel
theorem dX4_end_0 : decode cX4_end 0 = .ok (.iload_n 1, 1) := by decide +kernel
theorem dX4_end_1 : decode cX4_end 1 = .ok (.i2l, 1) := by decide +kernel
theorem dX4_end_2 : decode cX4_end 2 = .ok (.lconst 0, 1) := by decide +kernel
theorem dX4_end_3 : decode cX4_end 3 = .ok (.aload_n 0, 1) := by decide +kernel
theorem dX4_end_4 : decode cX4_end 4 = .ok (.getfield 57, 3) := by decide +kernel
theorem dX4_end_7 : decode cX4_end 7 = .ok (.i2l, 1) := by decide +kernel
theorem dX4_end_8 : decode cX4_end 8 = .ok (.invokestatic 53, 3) := by decide +kernel
theorem dX4_end_11 : decode cX4_end 11 = .ok (.ifCond .ne 5, 3) := by decide +kernel
theorem dX4_end_14 : decode cX4_end 14 = .ok (.iconst (-1), 1) := by decide +kernel
theorem dX4_end_15 : decode cX4_end 15 = .ok (.ireturn, 1) := by decide +kernel
theorem dX4_end_16 : decode cX4_end 16 = .ok (.aload_n 0, 1) := by decide +kernel
theorem dX4_end_17 : decode cX4_end 17 = .ok (.getfield 57, 3) := by decide +kernel
theorem dX4_end_20 : decode cX4_end 20 = .ok (.istore_n 2, 1) := by decide +kernel
theorem dX4_end_21 : decode cX4_end 21 = .ok (.aload_n 0, 1) := by decide +kernel
theorem dX4_end_22 : decode cX4_end 22 = .ok (.iload_n 1, 1) := by decide +kernel
theorem dX4_end_23 : decode cX4_end 23 = .ok (.putfield 57, 3) := by decide +kernel
theorem dX4_end_26 : decode cX4_end 26 = .ok (.iload_n 2, 1) := by decide +kernel
theorem dX4_end_27 : decode cX4_end 27 = .ok (.ireturn, 1) := by decide +kernel
theorem dX4_byteAt_0 : decode cX4_byteAt 0 = .ok (.iload_n 1, 1) := by decide +kernel
theorem dX4_byteAt_1 : decode cX4_byteAt 1 = .ok (.aload_n 0, 1) := by decide +kernel
theorem dX4_byteAt_2 : decode cX4_byteAt 2 = .ok (.getfield 57, 3) := by decide +kernel
theorem dX4_byteAt_5 : decode cX4_byteAt 5 = .ok (.if_icmp .ge 12, 3) := by decide +kernel
theorem dX4_byteAt_8 : decode cX4_byteAt 8 = .ok (.aload_n 0, 1) := by decide +kernel
theorem dX4_byteAt_9 : decode cX4_byteAt 9 = .ok (.getfield 16, 3) := by decide +kernel
theorem dX4_byteAt_12 : decode cX4_byteAt 12 = .ok (.iload_n 1, 1) := by decide +kernel
theorem dX4_byteAt_13 : decode cX4_byteAt 13 = .ok (.iaload, 1) := by decide +kernel
theorem dX4_byteAt_14 : decode cX4_byteAt 14 = .ok (.goto 5, 3) := by decide +kernel
theorem dX4_byteAt_17 : decode cX4_byteAt 17 = .ok (.bipush (-4), 2) := by decide +kernel
theorem dX4_byteAt_19 : decode cX4_byteAt 19 = .ok (.ireturn, 1) := by decide +kernel
theorem dX4_fails_0 : decode cX4_fails 0 = .ok (.aload_n 0, 1) := by decide +kernel
theorem dX4_fails_1 : decode cX4_fails 1 = .ok (.getfield 60, 3) := by decide +kernel
theorem dX4_fails_4 : decode cX4_fails 4 = .ok (.ifCond .ne 16, 3) := by decide +kernel
theorem dX4_fails_7 : decode cX4_fails 7 = .ok (.aload_n 0, 1) := by decide +kernel
theorem dX4_fails_8 : decode cX4_fails 8 = .ok (.iload_n 1, 1) := by decide +kernel
theorem dX4_fails_9 : decode cX4_fails 9 = .ok (.putfield 60, 3) := by decide +kernel
theorem dX4_fails_12 : decode cX4_fails 12 = .ok (.aload_n 0, 1) := by decide +kernel
theorem dX4_fails_13 : decode cX4_fails 13 = .ok (.aload_n 0, 1) := by decide +kernel
theorem dX4_fails_14 : decode cX4_fails 14 = .ok (.getfield 63, 3) := by decide +kernel
theorem dX4_fails_17 : decode cX4_fails 17 = .ok (.putfield 66, 3) := by decide +kernel
theorem dX4_fails_20 : decode cX4_fails 20 = .ok (.return_, 1) := by decide +kernel
theorem dX4_nameHere_0 : decode cX4_nameHere 0 = .ok (.iconst 0, 1) := by decide +kernel
theorem dX4_nameHere_1 : decode cX4_nameHere 1 = .ok (.istore_n 1, 1) := by decide +kernel
theorem dX4_nameHere_2 : decode cX4_nameHere 2 = .ok (.iload_n 1, 1) := by decide +kernel
theorem dX4_nameHere_3 : decode cX4_nameHere 3 = .ok (.bipush 8, 2) := by decide +kernel
theorem dX4_nameHere_5 : decode cX4_nameHere 5 = .ok (.if_icmp .ge 113, 3) := by decide +kernel
theorem dX4_nameHere_8 : decode cX4_nameHere 8 = .ok (.aload_n 0, 1) := by decide +kernel
theorem dX4_nameHere_9 : decode cX4_nameHere 9 = .ok (.getfield 69, 3) := by decide +kernel
theorem dX4_nameHere_12 : decode cX4_nameHere 12 = .ok (.iconst 1, 1) := by decide +kernel
theorem dX4_nameHere_13 : decode cX4_nameHere 13 = .ok (.if_icmp .ne 105, 3) := by decide +kernel
theorem dX4_nameHere_16 : decode cX4_nameHere 16 = .ok (.aload_n 0, 1) := by decide +kernel
theorem dX4_nameHere_17 : decode cX4_nameHere 17 = .ok (.getfield 72, 3) := by decide +kernel
theorem dX4_nameHere_20 : decode cX4_nameHere 20 = .ok (.aload_n 0, 1) := by decide +kernel
theorem dX4_nameHere_21 : decode cX4_nameHere 21 = .ok (.getfield 63, 3) := by decide +kernel
theorem dX4_nameHere_24 : decode cX4_nameHere 24 = .ok (.isub, 1) := by decide +kernel
theorem dX4_nameHere_25 : decode cX4_nameHere 25 = .ok (.aload_n 0, 1) := by decide +kernel
theorem dX4_nameHere_26 : decode cX4_nameHere 26 = .ok (.getfield 19, 3) := by decide +kernel
theorem dX4_nameHere_29 : decode cX4_nameHere 29 = .ok (.iload_n 1, 1) := by decide +kernel
theorem dX4_nameHere_30 : decode cX4_nameHere 30 = .ok (.iconst 1, 1) := by decide +kernel
theorem dX4_nameHere_31 : decode cX4_nameHere 31 = .ok (.iadd, 1) := by decide +kernel
theorem dX4_nameHere_32 : decode cX4_nameHere 32 = .ok (.iaload, 1) := by decide +kernel
theorem dX4_nameHere_33 : decode cX4_nameHere 33 = .ok (.aload_n 0, 1) := by decide +kernel
theorem dX4_nameHere_34 : decode cX4_nameHere 34 = .ok (.getfield 19, 3) := by decide +kernel
theorem dX4_nameHere_37 : decode cX4_nameHere 37 = .ok (.iload_n 1, 1) := by decide +kernel
theorem dX4_nameHere_38 : decode cX4_nameHere 38 = .ok (.iaload, 1) := by decide +kernel
theorem dX4_nameHere_39 : decode cX4_nameHere 39 = .ok (.isub, 1) := by decide +kernel
theorem dX4_nameHere_40 : decode cX4_nameHere 40 = .ok (.if_icmp .ne 7, 3) := by decide +kernel
theorem dX4_nameHere_43 : decode cX4_nameHere 43 = .ok (.iconst 1, 1) := by decide +kernel
theorem dX4_nameHere_44 : decode cX4_nameHere 44 = .ok (.goto 4, 3) := by decide +kernel
theorem dX4_nameHere_47 : decode cX4_nameHere 47 = .ok (.iconst 0, 1) := by decide +kernel
theorem dX4_nameHere_48 : decode cX4_nameHere 48 = .ok (.istore_n 2, 1) := by decide +kernel
theorem dX4_nameHere_49 : decode cX4_nameHere 49 = .ok (.iconst 0, 1) := by decide +kernel
theorem dX4_nameHere_50 : decode cX4_nameHere 50 = .ok (.istore_n 3, 1) := by decide +kernel
theorem dX4_nameHere_51 : decode cX4_nameHere 51 = .ok (.iload_n 2, 1) := by decide +kernel
theorem dX4_nameHere_52 : decode cX4_nameHere 52 = .ok (.ifCond .eq 54, 3) := by decide +kernel
theorem dX4_nameHere_55 : decode cX4_nameHere 55 = .ok (.iload_n 3, 1) := by decide +kernel
theorem dX4_nameHere_56 : decode cX4_nameHere 56 = .ok (.aload_n 0, 1) := by decide +kernel
theorem dX4_nameHere_57 : decode cX4_nameHere 57 = .ok (.getfield 72, 3) := by decide +kernel
theorem dX4_nameHere_60 : decode cX4_nameHere 60 = .ok (.aload_n 0, 1) := by decide +kernel
theorem dX4_nameHere_61 : decode cX4_nameHere 61 = .ok (.getfield 63, 3) := by decide +kernel
theorem dX4_nameHere_64 : decode cX4_nameHere 64 = .ok (.isub, 1) := by decide +kernel
theorem dX4_nameHere_65 : decode cX4_nameHere 65 = .ok (.if_icmp .ge 41, 3) := by decide +kernel
theorem dX4_nameHere_68 : decode cX4_nameHere 68 = .ok (.aload_n 0, 1) := by decide +kernel
theorem dX4_nameHere_69 : decode cX4_nameHere 69 = .ok (.aload_n 0, 1) := by decide +kernel
theorem dX4_nameHere_70 : decode cX4_nameHere 70 = .ok (.getfield 63, 3) := by decide +kernel
theorem dX4_nameHere_73 : decode cX4_nameHere 73 = .ok (.iload_n 3, 1) := by decide +kernel
theorem dX4_nameHere_74 : decode cX4_nameHere 74 = .ok (.iadd, 1) := by decide +kernel
theorem dX4_nameHere_75 : decode cX4_nameHere 75 = .ok (.invokevirtual 75, 3) := by decide +kernel
theorem dX4_nameHere_78 : decode cX4_nameHere 78 = .ok (.aload_n 0, 1) := by decide +kernel
theorem dX4_nameHere_79 : decode cX4_nameHere 79 = .ok (.getfield 22, 3) := by decide +kernel
theorem dX4_nameHere_82 : decode cX4_nameHere 82 = .ok (.aload_n 0, 1) := by decide +kernel
theorem dX4_nameHere_83 : decode cX4_nameHere 83 = .ok (.getfield 19, 3) := by decide +kernel
theorem dX4_nameHere_86 : decode cX4_nameHere 86 = .ok (.iload_n 1, 1) := by decide +kernel
theorem dX4_nameHere_87 : decode cX4_nameHere 87 = .ok (.iaload, 1) := by decide +kernel
theorem dX4_nameHere_88 : decode cX4_nameHere 88 = .ok (.iload_n 3, 1) := by decide +kernel
theorem dX4_nameHere_89 : decode cX4_nameHere 89 = .ok (.iadd, 1) := by decide +kernel
theorem dX4_nameHere_90 : decode cX4_nameHere 90 = .ok (.iaload, 1) := by decide +kernel
theorem dX4_nameHere_91 : decode cX4_nameHere 91 = .ok (.if_icmp .ne 7, 3) := by decide +kernel
theorem dX4_nameHere_94 : decode cX4_nameHere 94 = .ok (.iconst 1, 1) := by decide +kernel
theorem dX4_nameHere_95 : decode cX4_nameHere 95 = .ok (.goto 4, 3) := by decide +kernel
theorem dX4_nameHere_98 : decode cX4_nameHere 98 = .ok (.iconst 0, 1) := by decide +kernel
theorem dX4_nameHere_99 : decode cX4_nameHere 99 = .ok (.istore_n 2, 1) := by decide +kernel
theorem dX4_nameHere_100 : decode cX4_nameHere 100 = .ok (.iinc 3 1, 3) := by decide +kernel
theorem dX4_nameHere_103 : decode cX4_nameHere 103 = .ok (.goto (-52), 3) := by decide +kernel
theorem dX4_nameHere_106 : decode cX4_nameHere 106 = .ok (.iload_n 2, 1) := by decide +kernel
theorem dX4_nameHere_107 : decode cX4_nameHere 107 = .ok (.ifCond .eq 5, 3) := by decide +kernel
theorem dX4_nameHere_110 : decode cX4_nameHere 110 = .ok (.iload_n 1, 1) := by decide +kernel
theorem dX4_nameHere_111 : decode cX4_nameHere 111 = .ok (.ireturn, 1) := by decide +kernel
theorem dX4_nameHere_112 : decode cX4_nameHere 112 = .ok (.iinc 1 1, 3) := by decide +kernel
theorem dX4_nameHere_115 : decode cX4_nameHere 115 = .ok (.goto (-113), 3) := by decide +kernel
theorem dX4_nameHere_118 : decode cX4_nameHere 118 = .ok (.bipush (-4), 2) := by decide +kernel
theorem dX4_nameHere_120 : decode cX4_nameHere 120 = .ok (.ireturn, 1) := by decide +kernel
theorem dX4_readsOn_0 : decode cX4_readsOn 0 = .ok (.aload_n 0, 1) := by decide +kernel
theorem dX4_readsOn_1 : decode cX4_readsOn 1 = .ok (.getfield 60, 3) := by decide +kernel
theorem dX4_readsOn_4 : decode cX4_readsOn 4 = .ok (.ifCond .le 4, 3) := by decide +kernel
theorem dX4_readsOn_7 : decode cX4_readsOn 7 = .ok (.return_, 1) := by decide +kernel
theorem dX4_readsOn_8 : decode cX4_readsOn 8 = .ok (.aload_n 0, 1) := by decide +kernel
theorem dX4_readsOn_9 : decode cX4_readsOn 9 = .ok (.aload_n 0, 1) := by decide +kernel
theorem dX4_readsOn_10 : decode cX4_readsOn 10 = .ok (.getfield 72, 3) := by decide +kernel
theorem dX4_readsOn_13 : decode cX4_readsOn 13 = .ok (.invokevirtual 75, 3) := by decide +kernel
theorem dX4_readsOn_16 : decode cX4_readsOn 16 = .ok (.bipush 32, 2) := by decide +kernel
theorem dX4_readsOn_18 : decode cX4_readsOn 18 = .ok (.if_icmp .ne 16, 3) := by decide +kernel
theorem dX4_readsOn_21 : decode cX4_readsOn 21 = .ok (.aload_n 0, 1) := by decide +kernel
theorem dX4_readsOn_22 : decode cX4_readsOn 22 = .ok (.dup, 1) := by decide +kernel
theorem dX4_readsOn_23 : decode cX4_readsOn 23 = .ok (.getfield 72, 3) := by decide +kernel
theorem dX4_readsOn_26 : decode cX4_readsOn 26 = .ok (.iconst 1, 1) := by decide +kernel
theorem dX4_readsOn_27 : decode cX4_readsOn 27 = .ok (.iadd, 1) := by decide +kernel
theorem dX4_readsOn_28 : decode cX4_readsOn 28 = .ok (.putfield 72, 3) := by decide +kernel
theorem dX4_readsOn_31 : decode cX4_readsOn 31 = .ok (.goto (-23), 3) := by decide +kernel
theorem dX4_readsOn_34 : decode cX4_readsOn 34 = .ok (.aload_n 0, 1) := by decide +kernel
theorem dX4_readsOn_35 : decode cX4_readsOn 35 = .ok (.aload_n 0, 1) := by decide +kernel
theorem dX4_readsOn_36 : decode cX4_readsOn 36 = .ok (.getfield 72, 3) := by decide +kernel
theorem dX4_readsOn_39 : decode cX4_readsOn 39 = .ok (.putfield 63, 3) := by decide +kernel
theorem dX4_readsOn_42 : decode cX4_readsOn 42 = .ok (.aload_n 0, 1) := by decide +kernel
theorem dX4_readsOn_43 : decode cX4_readsOn 43 = .ok (.aload_n 0, 1) := by decide +kernel
theorem dX4_readsOn_44 : decode cX4_readsOn 44 = .ok (.getfield 72, 3) := by decide +kernel
theorem dX4_readsOn_47 : decode cX4_readsOn 47 = .ok (.invokevirtual 75, 3) := by decide +kernel
theorem dX4_readsOn_50 : decode cX4_readsOn 50 = .ok (.istore_n 1, 1) := by decide +kernel
theorem dX4_readsOn_51 : decode cX4_readsOn 51 = .ok (.aload_n 0, 1) := by decide +kernel
theorem dX4_readsOn_52 : decode cX4_readsOn 52 = .ok (.iconst 0, 1) := by decide +kernel
theorem dX4_readsOn_53 : decode cX4_readsOn 53 = .ok (.putfield 79, 3) := by decide +kernel
theorem dX4_readsOn_56 : decode cX4_readsOn 56 = .ok (.iload_n 1, 1) := by decide +kernel
theorem dX4_readsOn_57 : decode cX4_readsOn 57 = .ok (.bipush (-4), 2) := by decide +kernel
theorem dX4_readsOn_59 : decode cX4_readsOn 59 = .ok (.if_icmp .ne 11, 3) := by decide +kernel
theorem dX4_readsOn_62 : decode cX4_readsOn 62 = .ok (.aload_n 0, 1) := by decide +kernel
theorem dX4_readsOn_63 : decode cX4_readsOn 63 = .ok (.iconst 0, 1) := by decide +kernel
theorem dX4_readsOn_64 : decode cX4_readsOn 64 = .ok (.putfield 69, 3) := by decide +kernel
theorem dX4_readsOn_67 : decode cX4_readsOn 67 = .ok (.goto 202, 3) := by decide +kernel
theorem dX4_readsOn_70 : decode cX4_readsOn 70 = .ok (.iload_n 1, 1) := by decide +kernel
theorem dX4_readsOn_71 : decode cX4_readsOn 71 = .ok (.i2l, 1) := by decide +kernel
theorem dX4_readsOn_72 : decode cX4_readsOn 72 = .ok (.ldc2_w 82, 3) := by decide +kernel
theorem dX4_readsOn_75 : decode cX4_readsOn 75 = .ok (.ldc2_w 84, 3) := by decide +kernel
theorem dX4_readsOn_78 : decode cX4_readsOn 78 = .ok (.invokestatic 53, 3) := by decide +kernel
theorem dX4_readsOn_81 : decode cX4_readsOn 81 = .ok (.ifCond .eq 45, 3) := by decide +kernel
theorem dX4_readsOn_84 : decode cX4_readsOn 84 = .ok (.aload_n 0, 1) := by decide +kernel
theorem dX4_readsOn_85 : decode cX4_readsOn 85 = .ok (.aload_n 0, 1) := by decide +kernel
theorem dX4_readsOn_86 : decode cX4_readsOn 86 = .ok (.getfield 72, 3) := by decide +kernel
theorem dX4_readsOn_89 : decode cX4_readsOn 89 = .ok (.invokevirtual 75, 3) := by decide +kernel
theorem dX4_readsOn_92 : decode cX4_readsOn 92 = .ok (.i2l, 1) := by decide +kernel
theorem dX4_readsOn_93 : decode cX4_readsOn 93 = .ok (.ldc2_w 82, 3) := by decide +kernel
theorem dX4_readsOn_96 : decode cX4_readsOn 96 = .ok (.ldc2_w 84, 3) := by decide +kernel
theorem dX4_readsOn_99 : decode cX4_readsOn 99 = .ok (.invokestatic 53, 3) := by decide +kernel
theorem dX4_readsOn_102 : decode cX4_readsOn 102 = .ok (.ifCond .eq 16, 3) := by decide +kernel
theorem dX4_readsOn_105 : decode cX4_readsOn 105 = .ok (.aload_n 0, 1) := by decide +kernel
theorem dX4_readsOn_106 : decode cX4_readsOn 106 = .ok (.dup, 1) := by decide +kernel
theorem dX4_readsOn_107 : decode cX4_readsOn 107 = .ok (.getfield 72, 3) := by decide +kernel
theorem dX4_readsOn_110 : decode cX4_readsOn 110 = .ok (.iconst 1, 1) := by decide +kernel
theorem dX4_readsOn_111 : decode cX4_readsOn 111 = .ok (.iadd, 1) := by decide +kernel
theorem dX4_readsOn_112 : decode cX4_readsOn 112 = .ok (.putfield 72, 3) := by decide +kernel
theorem dX4_readsOn_115 : decode cX4_readsOn 115 = .ok (.goto (-31), 3) := by decide +kernel
theorem dX4_readsOn_118 : decode cX4_readsOn 118 = .ok (.aload_n 0, 1) := by decide +kernel
theorem dX4_readsOn_119 : decode cX4_readsOn 119 = .ok (.iconst 1, 1) := by decide +kernel
theorem dX4_readsOn_120 : decode cX4_readsOn 120 = .ok (.putfield 69, 3) := by decide +kernel
theorem dX4_readsOn_123 : decode cX4_readsOn 123 = .ok (.goto 146, 3) := by decide +kernel
theorem dX4_readsOn_126 : decode cX4_readsOn 126 = .ok (.iload_n 1, 1) := by decide +kernel
theorem dX4_readsOn_127 : decode cX4_readsOn 127 = .ok (.i2l, 1) := by decide +kernel
theorem dX4_readsOn_128 : decode cX4_readsOn 128 = .ok (.ldc2_w 86, 3) := by decide +kernel
theorem dX4_readsOn_131 : decode cX4_readsOn 131 = .ok (.ldc2_w 88, 3) := by decide +kernel
theorem dX4_readsOn_134 : decode cX4_readsOn 134 = .ok (.invokestatic 53, 3) := by decide +kernel
theorem dX4_readsOn_137 : decode cX4_readsOn 137 = .ok (.ifCond .eq 106, 3) := by decide +kernel
theorem dX4_readsOn_140 : decode cX4_readsOn 140 = .ok (.aload_n 0, 1) := by decide +kernel
theorem dX4_readsOn_141 : decode cX4_readsOn 141 = .ok (.aload_n 0, 1) := by decide +kernel
theorem dX4_readsOn_142 : decode cX4_readsOn 142 = .ok (.getfield 72, 3) := by decide +kernel
theorem dX4_readsOn_145 : decode cX4_readsOn 145 = .ok (.invokevirtual 75, 3) := by decide +kernel
theorem dX4_readsOn_148 : decode cX4_readsOn 148 = .ok (.i2l, 1) := by decide +kernel
theorem dX4_readsOn_149 : decode cX4_readsOn 149 = .ok (.ldc2_w 86, 3) := by decide +kernel
theorem dX4_readsOn_152 : decode cX4_readsOn 152 = .ok (.ldc2_w 88, 3) := by decide +kernel
theorem dX4_readsOn_155 : decode cX4_readsOn 155 = .ok (.invokestatic 53, 3) := by decide +kernel
theorem dX4_readsOn_158 : decode cX4_readsOn 158 = .ok (.ifCond .eq 59, 3) := by decide +kernel
theorem dX4_readsOn_161 : decode cX4_readsOn 161 = .ok (.aload_n 0, 1) := by decide +kernel
theorem dX4_readsOn_162 : decode cX4_readsOn 162 = .ok (.aload_n 0, 1) := by decide +kernel
theorem dX4_readsOn_163 : decode cX4_readsOn 163 = .ok (.getfield 72, 3) := by decide +kernel
theorem dX4_readsOn_166 : decode cX4_readsOn 166 = .ok (.aload_n 0, 1) := by decide +kernel
theorem dX4_readsOn_167 : decode cX4_readsOn 167 = .ok (.getfield 63, 3) := by decide +kernel
theorem dX4_readsOn_170 : decode cX4_readsOn 170 = .ok (.isub, 1) := by decide +kernel
theorem dX4_readsOn_171 : decode cX4_readsOn 171 = .ok (.iconst 2, 1) := by decide +kernel
theorem dX4_readsOn_172 : decode cX4_readsOn 172 = .ok (.if_icmp .ge 25, 3) := by decide +kernel
theorem dX4_readsOn_175 : decode cX4_readsOn 175 = .ok (.bipush 10, 2) := by decide +kernel
theorem dX4_readsOn_177 : decode cX4_readsOn 177 = .ok (.aload_n 0, 1) := by decide +kernel
theorem dX4_readsOn_178 : decode cX4_readsOn 178 = .ok (.getfield 79, 3) := by decide +kernel
theorem dX4_readsOn_181 : decode cX4_readsOn 181 = .ok (.imul, 1) := by decide +kernel
theorem dX4_readsOn_182 : decode cX4_readsOn 182 = .ok (.aload_n 0, 1) := by decide +kernel
theorem dX4_readsOn_183 : decode cX4_readsOn 183 = .ok (.aload_n 0, 1) := by decide +kernel
theorem dX4_readsOn_184 : decode cX4_readsOn 184 = .ok (.getfield 72, 3) := by decide +kernel
theorem dX4_readsOn_187 : decode cX4_readsOn 187 = .ok (.invokevirtual 75, 3) := by decide +kernel
theorem dX4_readsOn_190 : decode cX4_readsOn 190 = .ok (.iadd, 1) := by decide +kernel
theorem dX4_readsOn_191 : decode cX4_readsOn 191 = .ok (.bipush 48, 2) := by decide +kernel
theorem dX4_readsOn_193 : decode cX4_readsOn 193 = .ok (.isub, 1) := by decide +kernel
theorem dX4_readsOn_194 : decode cX4_readsOn 194 = .ok (.goto 7, 3) := by decide +kernel
theorem dX4_readsOn_197 : decode cX4_readsOn 197 = .ok (.aload_n 0, 1) := by decide +kernel
theorem dX4_readsOn_198 : decode cX4_readsOn 198 = .ok (.getfield 79, 3) := by decide +kernel
theorem dX4_readsOn_201 : decode cX4_readsOn 201 = .ok (.putfield 79, 3) := by decide +kernel
theorem dX4_readsOn_204 : decode cX4_readsOn 204 = .ok (.aload_n 0, 1) := by decide +kernel
theorem dX4_readsOn_205 : decode cX4_readsOn 205 = .ok (.dup, 1) := by decide +kernel
theorem dX4_readsOn_206 : decode cX4_readsOn 206 = .ok (.getfield 72, 3) := by decide +kernel
theorem dX4_readsOn_209 : decode cX4_readsOn 209 = .ok (.iconst 1, 1) := by decide +kernel
theorem dX4_readsOn_210 : decode cX4_readsOn 210 = .ok (.iadd, 1) := by decide +kernel
theorem dX4_readsOn_211 : decode cX4_readsOn 211 = .ok (.putfield 72, 3) := by decide +kernel
theorem dX4_readsOn_214 : decode cX4_readsOn 214 = .ok (.goto (-74), 3) := by decide +kernel
theorem dX4_readsOn_217 : decode cX4_readsOn 217 = .ok (.aload_n 0, 1) := by decide +kernel
theorem dX4_readsOn_218 : decode cX4_readsOn 218 = .ok (.iconst 2, 1) := by decide +kernel
theorem dX4_readsOn_219 : decode cX4_readsOn 219 = .ok (.putfield 69, 3) := by decide +kernel
theorem dX4_readsOn_222 : decode cX4_readsOn 222 = .ok (.aload_n 0, 1) := by decide +kernel
theorem dX4_readsOn_223 : decode cX4_readsOn 223 = .ok (.getfield 72, 3) := by decide +kernel
theorem dX4_readsOn_226 : decode cX4_readsOn 226 = .ok (.aload_n 0, 1) := by decide +kernel
theorem dX4_readsOn_227 : decode cX4_readsOn 227 = .ok (.getfield 63, 3) := by decide +kernel
theorem dX4_readsOn_230 : decode cX4_readsOn 230 = .ok (.isub, 1) := by decide +kernel
theorem dX4_readsOn_231 : decode cX4_readsOn 231 = .ok (.iconst 2, 1) := by decide +kernel
theorem dX4_readsOn_232 : decode cX4_readsOn 232 = .ok (.if_icmp .le 37, 3) := by decide +kernel
theorem dX4_readsOn_235 : decode cX4_readsOn 235 = .ok (.aload_n 0, 1) := by decide +kernel
theorem dX4_readsOn_236 : decode cX4_readsOn 236 = .ok (.iconst 1, 1) := by decide +kernel
theorem dX4_readsOn_237 : decode cX4_readsOn 237 = .ok (.invokevirtual 90, 3) := by decide +kernel
theorem dX4_readsOn_240 : decode cX4_readsOn 240 = .ok (.goto 29, 3) := by decide +kernel
theorem dX4_readsOn_243 : decode cX4_readsOn 243 = .ok (.aload_n 0, 1) := by decide +kernel
theorem dX4_readsOn_244 : decode cX4_readsOn 244 = .ok (.iconst 3, 1) := by decide +kernel
theorem dX4_readsOn_245 : decode cX4_readsOn 245 = .ok (.putfield 69, 3) := by decide +kernel
theorem dX4_readsOn_248 : decode cX4_readsOn 248 = .ok (.aload_n 0, 1) := by decide +kernel
theorem dX4_readsOn_249 : decode cX4_readsOn 249 = .ok (.dup, 1) := by decide +kernel
theorem dX4_readsOn_250 : decode cX4_readsOn 250 = .ok (.getfield 72, 3) := by decide +kernel
theorem dX4_readsOn_253 : decode cX4_readsOn 253 = .ok (.iconst 1, 1) := by decide +kernel
theorem dX4_readsOn_254 : decode cX4_readsOn 254 = .ok (.iadd, 1) := by decide +kernel
theorem dX4_readsOn_255 : decode cX4_readsOn 255 = .ok (.putfield 72, 3) := by decide +kernel
theorem dX4_readsOn_258 : decode cX4_readsOn 258 = .ok (.iload_n 1, 1) := by decide +kernel
theorem dX4_readsOn_259 : decode cX4_readsOn 259 = .ok (.bipush 59, 2) := by decide +kernel
theorem dX4_readsOn_261 : decode cX4_readsOn 261 = .ok (.if_icmp .eq 8, 3) := by decide +kernel
theorem dX4_readsOn_264 : decode cX4_readsOn 264 = .ok (.aload_n 0, 1) := by decide +kernel
theorem dX4_readsOn_265 : decode cX4_readsOn 265 = .ok (.iconst 1, 1) := by decide +kernel
theorem dX4_readsOn_266 : decode cX4_readsOn 266 = .ok (.invokevirtual 90, 3) := by decide +kernel
theorem dX4_readsOn_269 : decode cX4_readsOn 269 = .ok (.return_, 1) := by decide +kernel
theorem dX4_number_0 : decode cX4_number 0 = .ok (.aload_n 0, 1) := by decide +kernel
theorem dX4_number_1 : decode cX4_number 1 = .ok (.getfield 60, 3) := by decide +kernel
theorem dX4_number_4 : decode cX4_number 4 = .ok (.ifCond .ne 16, 3) := by decide +kernel
theorem dX4_number_7 : decode cX4_number 7 = .ok (.aload_n 0, 1) := by decide +kernel
theorem dX4_number_8 : decode cX4_number 8 = .ok (.getfield 69, 3) := by decide +kernel
theorem dX4_number_11 : decode cX4_number 11 = .ok (.iconst 2, 1) := by decide +kernel
theorem dX4_number_12 : decode cX4_number 12 = .ok (.if_icmp .eq 8, 3) := by decide +kernel
theorem dX4_number_15 : decode cX4_number 15 = .ok (.aload_n 0, 1) := by decide +kernel
theorem dX4_number_16 : decode cX4_number 16 = .ok (.iconst 2, 1) := by decide +kernel
theorem dX4_number_17 : decode cX4_number 17 = .ok (.invokevirtual 90, 3) := by decide +kernel
theorem dX4_number_20 : decode cX4_number 20 = .ok (.aload_n 0, 1) := by decide +kernel
theorem dX4_number_21 : decode cX4_number 21 = .ok (.getfield 60, 3) := by decide +kernel
theorem dX4_number_24 : decode cX4_number 24 = .ok (.ifCond .ne 23, 3) := by decide +kernel
theorem dX4_number_27 : decode cX4_number 27 = .ok (.aload_n 0, 1) := by decide +kernel
theorem dX4_number_28 : decode cX4_number 28 = .ok (.getfield 79, 3) := by decide +kernel
theorem dX4_number_31 : decode cX4_number 31 = .ok (.i2l, 1) := by decide +kernel
theorem dX4_number_32 : decode cX4_number 32 = .ok (.iload_n 1, 1) := by decide +kernel
theorem dX4_number_33 : decode cX4_number 33 = .ok (.i2l, 1) := by decide +kernel
theorem dX4_number_34 : decode cX4_number 34 = .ok (.iload_n 2, 1) := by decide +kernel
theorem dX4_number_35 : decode cX4_number 35 = .ok (.i2l, 1) := by decide +kernel
theorem dX4_number_36 : decode cX4_number 36 = .ok (.invokestatic 53, 3) := by decide +kernel
theorem dX4_number_39 : decode cX4_number 39 = .ok (.ifCond .ne 8, 3) := by decide +kernel
theorem dX4_number_42 : decode cX4_number 42 = .ok (.aload_n 0, 1) := by decide +kernel
theorem dX4_number_43 : decode cX4_number 43 = .ok (.iconst 3, 1) := by decide +kernel
theorem dX4_number_44 : decode cX4_number 44 = .ok (.invokevirtual 90, 3) := by decide +kernel
theorem dX4_number_47 : decode cX4_number 47 = .ok (.aload_n 0, 1) := by decide +kernel
theorem dX4_number_48 : decode cX4_number 48 = .ok (.getfield 60, 3) := by decide +kernel
theorem dX4_number_51 : decode cX4_number 51 = .ok (.ifCond .ne 10, 3) := by decide +kernel
theorem dX4_number_54 : decode cX4_number 54 = .ok (.aload_n 0, 1) := by decide +kernel
theorem dX4_number_55 : decode cX4_number 55 = .ok (.getfield 79, 3) := by decide +kernel
theorem dX4_number_58 : decode cX4_number 58 = .ok (.goto 4, 3) := by decide +kernel
theorem dX4_number_61 : decode cX4_number 61 = .ok (.iload_n 1, 1) := by decide +kernel
theorem dX4_number_62 : decode cX4_number 62 = .ok (.istore_n 3, 1) := by decide +kernel
theorem dX4_number_63 : decode cX4_number 63 = .ok (.aload_n 0, 1) := by decide +kernel
theorem dX4_number_64 : decode cX4_number 64 = .ok (.invokevirtual 94, 3) := by decide +kernel
theorem dX4_number_67 : decode cX4_number 67 = .ok (.iload_n 3, 1) := by decide +kernel
theorem dX4_number_68 : decode cX4_number 68 = .ok (.ireturn, 1) := by decide +kernel
theorem dX4_readMore_0 : decode cX4_readMore 0 = .ok (.iload_n 1, 1) := by decide +kernel
theorem dX4_readMore_1 : decode cX4_readMore 1 = .ok (.iconst 3, 1) := by decide +kernel
theorem dX4_readMore_2 : decode cX4_readMore 2 = .ok (.if_icmp .gt 63, 3) := by decide +kernel
theorem dX4_readMore_5 : decode cX4_readMore 5 = .ok (.aload_n 0, 1) := by decide +kernel
theorem dX4_readMore_6 : decode cX4_readMore 6 = .ok (.getfield 13, 3) := by decide +kernel
theorem dX4_readMore_9 : decode cX4_readMore 9 = .ok (.bipush 16, 2) := by decide +kernel
theorem dX4_readMore_11 : decode cX4_readMore 11 = .ok (.iaload, 1) := by decide +kernel
theorem dX4_readMore_12 : decode cX4_readMore 12 = .ok (.istore_n 2, 1) := by decide +kernel
theorem dX4_readMore_13 : decode cX4_readMore 13 = .ok (.aload_n 0, 1) := by decide +kernel
theorem dX4_readMore_14 : decode cX4_readMore 14 = .ok (.getfield 13, 3) := by decide +kernel
theorem dX4_readMore_17 : decode cX4_readMore 17 = .ok (.iload_n 2, 1) := by decide +kernel
theorem dX4_readMore_18 : decode cX4_readMore 18 = .ok (.iload_n 1, 1) := by decide +kernel
theorem dX4_readMore_19 : decode cX4_readMore 19 = .ok (.iastore, 1) := by decide +kernel
theorem dX4_readMore_20 : decode cX4_readMore 20 = .ok (.aload_n 0, 1) := by decide +kernel
theorem dX4_readMore_21 : decode cX4_readMore 21 = .ok (.getfield 13, 3) := by decide +kernel
theorem dX4_readMore_24 : decode cX4_readMore 24 = .ok (.iconst 4, 1) := by decide +kernel
theorem dX4_readMore_25 : decode cX4_readMore 25 = .ok (.iload_n 2, 1) := by decide +kernel
theorem dX4_readMore_26 : decode cX4_readMore 26 = .ok (.iadd, 1) := by decide +kernel
theorem dX4_readMore_27 : decode cX4_readMore 27 = .ok (.aload_n 0, 1) := by decide +kernel
theorem dX4_readMore_28 : decode cX4_readMore 28 = .ok (.iconst 1, 1) := by decide +kernel
theorem dX4_readMore_29 : decode cX4_readMore 29 = .ok (.bipush 20, 2) := by decide +kernel
theorem dX4_readMore_31 : decode cX4_readMore 31 = .ok (.invokevirtual 97, 3) := by decide +kernel
theorem dX4_readMore_34 : decode cX4_readMore 34 = .ok (.iastore, 1) := by decide +kernel
theorem dX4_readMore_35 : decode cX4_readMore 35 = .ok (.aload_n 0, 1) := by decide +kernel
theorem dX4_readMore_36 : decode cX4_readMore 36 = .ok (.getfield 13, 3) := by decide +kernel
theorem dX4_readMore_39 : decode cX4_readMore 39 = .ok (.bipush 8, 2) := by decide +kernel
theorem dX4_readMore_41 : decode cX4_readMore 41 = .ok (.iload_n 2, 1) := by decide +kernel
theorem dX4_readMore_42 : decode cX4_readMore 42 = .ok (.iadd, 1) := by decide +kernel
theorem dX4_readMore_43 : decode cX4_readMore 43 = .ok (.aload_n 0, 1) := by decide +kernel
theorem dX4_readMore_44 : decode cX4_readMore 44 = .ok (.iconst 0, 1) := by decide +kernel
theorem dX4_readMore_45 : decode cX4_readMore 45 = .ok (.bipush 9, 2) := by decide +kernel
theorem dX4_readMore_47 : decode cX4_readMore 47 = .ok (.invokevirtual 97, 3) := by decide +kernel
theorem dX4_readMore_50 : decode cX4_readMore 50 = .ok (.iastore, 1) := by decide +kernel
theorem dX4_readMore_51 : decode cX4_readMore 51 = .ok (.aload_n 0, 1) := by decide +kernel
theorem dX4_readMore_52 : decode cX4_readMore 52 = .ok (.getfield 13, 3) := by decide +kernel
theorem dX4_readMore_55 : decode cX4_readMore 55 = .ok (.bipush 16, 2) := by decide +kernel
theorem dX4_readMore_57 : decode cX4_readMore 57 = .ok (.dup2, 1) := by decide +kernel
theorem dX4_readMore_58 : decode cX4_readMore 58 = .ok (.iaload, 1) := by decide +kernel
theorem dX4_readMore_59 : decode cX4_readMore 59 = .ok (.iconst 1, 1) := by decide +kernel
theorem dX4_readMore_60 : decode cX4_readMore 60 = .ok (.iadd, 1) := by decide +kernel
theorem dX4_readMore_61 : decode cX4_readMore 61 = .ok (.iastore, 1) := by decide +kernel
theorem dX4_readMore_62 : decode cX4_readMore 62 = .ok (.goto 79, 3) := by decide +kernel
theorem dX4_readMore_65 : decode cX4_readMore 65 = .ok (.iload_n 1, 1) := by decide +kernel
theorem dX4_readMore_66 : decode cX4_readMore 66 = .ok (.iconst 4, 1) := by decide +kernel
theorem dX4_readMore_67 : decode cX4_readMore 67 = .ok (.if_icmp .ne 22, 3) := by decide +kernel
theorem dX4_readMore_70 : decode cX4_readMore 70 = .ok (.aload_n 0, 1) := by decide +kernel
theorem dX4_readMore_71 : decode cX4_readMore 71 = .ok (.getfield 13, 3) := by decide +kernel
theorem dX4_readMore_74 : decode cX4_readMore 74 = .ok (.bipush 34, 2) := by decide +kernel
theorem dX4_readMore_76 : decode cX4_readMore 76 = .ok (.aload_n 0, 1) := by decide +kernel
theorem dX4_readMore_77 : decode cX4_readMore 77 = .ok (.iconst 1, 1) := by decide +kernel
theorem dX4_readMore_78 : decode cX4_readMore 78 = .ok (.bipush 20, 2) := by decide +kernel
theorem dX4_readMore_80 : decode cX4_readMore 80 = .ok (.invokevirtual 97, 3) := by decide +kernel
theorem dX4_readMore_83 : decode cX4_readMore 83 = .ok (.iconst 5, 1) := by decide +kernel
theorem dX4_readMore_84 : decode cX4_readMore 84 = .ok (.isub, 1) := by decide +kernel
theorem dX4_readMore_85 : decode cX4_readMore 85 = .ok (.iastore, 1) := by decide +kernel
theorem dX4_readMore_86 : decode cX4_readMore 86 = .ok (.goto 55, 3) := by decide +kernel
theorem dX4_readMore_89 : decode cX4_readMore 89 = .ok (.aload_n 0, 1) := by decide +kernel
theorem dX4_readMore_90 : decode cX4_readMore 90 = .ok (.getfield 13, 3) := by decide +kernel
theorem dX4_readMore_93 : decode cX4_readMore 93 = .ok (.bipush 33, 2) := by decide +kernel
theorem dX4_readMore_95 : decode cX4_readMore 95 = .ok (.iaload, 1) := by decide +kernel
theorem dX4_readMore_96 : decode cX4_readMore 96 = .ok (.istore_n 2, 1) := by decide +kernel
theorem dX4_readMore_97 : decode cX4_readMore 97 = .ok (.aload_n 0, 1) := by decide +kernel
theorem dX4_readMore_98 : decode cX4_readMore 98 = .ok (.getfield 13, 3) := by decide +kernel
theorem dX4_readMore_101 : decode cX4_readMore 101 = .ok (.bipush 17, 2) := by decide +kernel
theorem dX4_readMore_103 : decode cX4_readMore 103 = .ok (.iload_n 2, 1) := by decide +kernel
theorem dX4_readMore_104 : decode cX4_readMore 104 = .ok (.iadd, 1) := by decide +kernel
theorem dX4_readMore_105 : decode cX4_readMore 105 = .ok (.bipush 100, 2) := by decide +kernel
theorem dX4_readMore_107 : decode cX4_readMore 107 = .ok (.iload_n 1, 1) := by decide +kernel
theorem dX4_readMore_108 : decode cX4_readMore 108 = .ok (.iconst 5, 1) := by decide +kernel
theorem dX4_readMore_109 : decode cX4_readMore 109 = .ok (.isub, 1) := by decide +kernel
theorem dX4_readMore_110 : decode cX4_readMore 110 = .ok (.imul, 1) := by decide +kernel
theorem dX4_readMore_111 : decode cX4_readMore 111 = .ok (.aload_n 0, 1) := by decide +kernel
theorem dX4_readMore_112 : decode cX4_readMore 112 = .ok (.iconst 0, 1) := by decide +kernel
theorem dX4_readMore_113 : decode cX4_readMore 113 = .ok (.iload_n 1, 1) := by decide +kernel
theorem dX4_readMore_114 : decode cX4_readMore 114 = .ok (.bipush 7, 2) := by decide +kernel
theorem dX4_readMore_116 : decode cX4_readMore 116 = .ok (.if_icmp .ne 7, 3) := by decide +kernel
theorem dX4_readMore_119 : decode cX4_readMore 119 = .ok (.iconst 3, 1) := by decide +kernel
theorem dX4_readMore_120 : decode cX4_readMore 120 = .ok (.goto 5, 3) := by decide +kernel
theorem dX4_readMore_123 : decode cX4_readMore 123 = .ok (.bipush 99, 2) := by decide +kernel
theorem dX4_readMore_125 : decode cX4_readMore 125 = .ok (.invokevirtual 97, 3) := by decide +kernel
theorem dX4_readMore_128 : decode cX4_readMore 128 = .ok (.iadd, 1) := by decide +kernel
theorem dX4_readMore_129 : decode cX4_readMore 129 = .ok (.iastore, 1) := by decide +kernel
theorem dX4_readMore_130 : decode cX4_readMore 130 = .ok (.aload_n 0, 1) := by decide +kernel
theorem dX4_readMore_131 : decode cX4_readMore 131 = .ok (.getfield 13, 3) := by decide +kernel
theorem dX4_readMore_134 : decode cX4_readMore 134 = .ok (.bipush 33, 2) := by decide +kernel
theorem dX4_readMore_136 : decode cX4_readMore 136 = .ok (.dup2, 1) := by decide +kernel
theorem dX4_readMore_137 : decode cX4_readMore 137 = .ok (.iaload, 1) := by decide +kernel
theorem dX4_readMore_138 : decode cX4_readMore 138 = .ok (.iconst 1, 1) := by decide +kernel
theorem dX4_readMore_139 : decode cX4_readMore 139 = .ok (.iadd, 1) := by decide +kernel
theorem dX4_readMore_140 : decode cX4_readMore 140 = .ok (.iastore, 1) := by decide +kernel
theorem dX4_readMore_141 : decode cX4_readMore 141 = .ok (.return_, 1) := by decide +kernel
theorem dX4_readLine_0 : decode cX4_readLine 0 = .ok (.aload_n 0, 1) := by decide +kernel
theorem dX4_readLine_1 : decode cX4_readLine 1 = .ok (.invokevirtual 101, 3) := by decide +kernel
theorem dX4_readLine_4 : decode cX4_readLine 4 = .ok (.istore_n 1, 1) := by decide +kernel
theorem dX4_readLine_5 : decode cX4_readLine 5 = .ok (.iload_n 1, 1) := by decide +kernel
theorem dX4_readLine_6 : decode cX4_readLine 6 = .ok (.i2l, 1) := by decide +kernel
theorem dX4_readLine_7 : decode cX4_readLine 7 = .ok (.lconst 0, 1) := by decide +kernel
theorem dX4_readLine_8 : decode cX4_readLine 8 = .ok (.ldc2_w 105, 3) := by decide +kernel
theorem dX4_readLine_11 : decode cX4_readLine 11 = .ok (.invokestatic 53, 3) := by decide +kernel
theorem dX4_readLine_14 : decode cX4_readLine 14 = .ok (.ifCond .ne 9, 3) := by decide +kernel
theorem dX4_readLine_17 : decode cX4_readLine 17 = .ok (.aload_n 0, 1) := by decide +kernel
theorem dX4_readLine_18 : decode cX4_readLine 18 = .ok (.iconst 2, 1) := by decide +kernel
theorem dX4_readLine_19 : decode cX4_readLine 19 = .ok (.invokevirtual 90, 3) := by decide +kernel
theorem dX4_readLine_22 : decode cX4_readLine 22 = .ok (.return_, 1) := by decide +kernel
theorem dX4_readLine_23 : decode cX4_readLine 23 = .ok (.iload_n 1, 1) := by decide +kernel
theorem dX4_readLine_24 : decode cX4_readLine 24 = .ok (.iconst 3, 1) := by decide +kernel
theorem dX4_readLine_25 : decode cX4_readLine 25 = .ok (.if_icmp .gt 14, 3) := by decide +kernel
theorem dX4_readLine_28 : decode cX4_readLine 28 = .ok (.aload_n 0, 1) := by decide +kernel
theorem dX4_readLine_29 : decode cX4_readLine 29 = .ok (.getfield 13, 3) := by decide +kernel
theorem dX4_readLine_32 : decode cX4_readLine 32 = .ok (.bipush 16, 2) := by decide +kernel
theorem dX4_readLine_34 : decode cX4_readLine 34 = .ok (.iaload, 1) := by decide +kernel
theorem dX4_readLine_35 : decode cX4_readLine 35 = .ok (.iconst 4, 1) := by decide +kernel
theorem dX4_readLine_36 : decode cX4_readLine 36 = .ok (.if_icmp .eq 20, 3) := by decide +kernel
theorem dX4_readLine_39 : decode cX4_readLine 39 = .ok (.iload_n 1, 1) := by decide +kernel
theorem dX4_readLine_40 : decode cX4_readLine 40 = .ok (.iconst 5, 1) := by decide +kernel
theorem dX4_readLine_41 : decode cX4_readLine 41 = .ok (.if_icmp .lt 20, 3) := by decide +kernel
theorem dX4_readLine_44 : decode cX4_readLine 44 = .ok (.aload_n 0, 1) := by decide +kernel
theorem dX4_readLine_45 : decode cX4_readLine 45 = .ok (.getfield 13, 3) := by decide +kernel
theorem dX4_readLine_48 : decode cX4_readLine 48 = .ok (.bipush 33, 2) := by decide +kernel
theorem dX4_readLine_50 : decode cX4_readLine 50 = .ok (.iaload, 1) := by decide +kernel
theorem dX4_readLine_51 : decode cX4_readLine 51 = .ok (.bipush 16, 2) := by decide +kernel
theorem dX4_readLine_53 : decode cX4_readLine 53 = .ok (.if_icmp .ne 8, 3) := by decide +kernel
theorem dX4_readLine_56 : decode cX4_readLine 56 = .ok (.aload_n 0, 1) := by decide +kernel
theorem dX4_readLine_57 : decode cX4_readLine 57 = .ok (.iconst 5, 1) := by decide +kernel
theorem dX4_readLine_58 : decode cX4_readLine 58 = .ok (.invokevirtual 90, 3) := by decide +kernel
theorem dX4_readLine_61 : decode cX4_readLine 61 = .ok (.iload_n 1, 1) := by decide +kernel
theorem dX4_readLine_62 : decode cX4_readLine 62 = .ok (.iconst 4, 1) := by decide +kernel
theorem dX4_readLine_63 : decode cX4_readLine 63 = .ok (.if_icmp .ne 15, 3) := by decide +kernel
theorem dX4_readLine_66 : decode cX4_readLine 66 = .ok (.aload_n 0, 1) := by decide +kernel
theorem dX4_readLine_67 : decode cX4_readLine 67 = .ok (.getfield 107, 3) := by decide +kernel
theorem dX4_readLine_70 : decode cX4_readLine 70 = .ok (.ifCond .eq 8, 3) := by decide +kernel
theorem dX4_readLine_73 : decode cX4_readLine 73 = .ok (.aload_n 0, 1) := by decide +kernel
theorem dX4_readLine_74 : decode cX4_readLine 74 = .ok (.iconst 4, 1) := by decide +kernel
theorem dX4_readLine_75 : decode cX4_readLine 75 = .ok (.invokevirtual 90, 3) := by decide +kernel
theorem dX4_readLine_78 : decode cX4_readLine 78 = .ok (.aload_n 0, 1) := by decide +kernel
theorem dX4_readLine_79 : decode cX4_readLine 79 = .ok (.aload_n 0, 1) := by decide +kernel
theorem dX4_readLine_80 : decode cX4_readLine 80 = .ok (.getfield 107, 3) := by decide +kernel
theorem dX4_readLine_83 : decode cX4_readLine 83 = .ok (.ifCond .ne 8, 3) := by decide +kernel
theorem dX4_readLine_86 : decode cX4_readLine 86 = .ok (.iload_n 1, 1) := by decide +kernel
theorem dX4_readLine_87 : decode cX4_readLine 87 = .ok (.iconst 4, 1) := by decide +kernel
theorem dX4_readLine_88 : decode cX4_readLine 88 = .ok (.if_icmp .ne 7, 3) := by decide +kernel
theorem dX4_readLine_91 : decode cX4_readLine 91 = .ok (.iconst 1, 1) := by decide +kernel
theorem dX4_readLine_92 : decode cX4_readLine 92 = .ok (.goto 4, 3) := by decide +kernel
theorem dX4_readLine_95 : decode cX4_readLine 95 = .ok (.iconst 0, 1) := by decide +kernel
theorem dX4_readLine_96 : decode cX4_readLine 96 = .ok (.putfield 107, 3) := by decide +kernel
theorem dX4_readLine_99 : decode cX4_readLine 99 = .ok (.aload_n 0, 1) := by decide +kernel
theorem dX4_readLine_100 : decode cX4_readLine 100 = .ok (.invokevirtual 94, 3) := by decide +kernel
theorem dX4_readLine_103 : decode cX4_readLine 103 = .ok (.aload_n 0, 1) := by decide +kernel
theorem dX4_readLine_104 : decode cX4_readLine 104 = .ok (.getfield 60, 3) := by decide +kernel
theorem dX4_readLine_107 : decode cX4_readLine 107 = .ok (.ifCond .le 4, 3) := by decide +kernel
theorem dX4_readLine_110 : decode cX4_readLine 110 = .ok (.return_, 1) := by decide +kernel
theorem dX4_readLine_111 : decode cX4_readLine 111 = .ok (.aload_n 0, 1) := by decide +kernel
theorem dX4_readLine_112 : decode cX4_readLine 112 = .ok (.iload_n 1, 1) := by decide +kernel
theorem dX4_readLine_113 : decode cX4_readLine 113 = .ok (.invokevirtual 111, 3) := by decide +kernel
theorem dX4_readLine_116 : decode cX4_readLine 116 = .ok (.aload_n 0, 1) := by decide +kernel
theorem dX4_readLine_117 : decode cX4_readLine 117 = .ok (.getfield 60, 3) := by decide +kernel
theorem dX4_readLine_120 : decode cX4_readLine 120 = .ok (.ifCond .ne 16, 3) := by decide +kernel
theorem dX4_readLine_123 : decode cX4_readLine 123 = .ok (.aload_n 0, 1) := by decide +kernel
theorem dX4_readLine_124 : decode cX4_readLine 124 = .ok (.getfield 69, 3) := by decide +kernel
theorem dX4_readLine_127 : decode cX4_readLine 127 = .ok (.iconst 3, 1) := by decide +kernel
theorem dX4_readLine_128 : decode cX4_readLine 128 = .ok (.if_icmp .eq 8, 3) := by decide +kernel
theorem dX4_readLine_131 : decode cX4_readLine 131 = .ok (.aload_n 0, 1) := by decide +kernel
theorem dX4_readLine_132 : decode cX4_readLine 132 = .ok (.iconst 2, 1) := by decide +kernel
theorem dX4_readLine_133 : decode cX4_readLine 133 = .ok (.invokevirtual 90, 3) := by decide +kernel
theorem dX4_readLine_136 : decode cX4_readLine 136 = .ok (.aload_n 0, 1) := by decide +kernel
theorem dX4_readLine_137 : decode cX4_readLine 137 = .ok (.invokevirtual 94, 3) := by decide +kernel
theorem dX4_readLine_140 : decode cX4_readLine 140 = .ok (.return_, 1) := by decide +kernel
theorem dX4_text_0 : decode cX4_text 0 = .ok (.aload_n 0, 1) := by decide +kernel
theorem dX4_text_1 : decode cX4_text 1 = .ok (.iconst 0, 1) := by decide +kernel
theorem dX4_text_2 : decode cX4_text 2 = .ok (.putfield 60, 3) := by decide +kernel
theorem dX4_text_5 : decode cX4_text 5 = .ok (.aload_n 0, 1) := by decide +kernel
theorem dX4_text_6 : decode cX4_text 6 = .ok (.iconst 0, 1) := by decide +kernel
theorem dX4_text_7 : decode cX4_text 7 = .ok (.putfield 72, 3) := by decide +kernel
theorem dX4_text_10 : decode cX4_text 10 = .ok (.aload_n 0, 1) := by decide +kernel
theorem dX4_text_11 : decode cX4_text 11 = .ok (.iconst 0, 1) := by decide +kernel
theorem dX4_text_12 : decode cX4_text 12 = .ok (.putfield 107, 3) := by decide +kernel
theorem dX4_text_15 : decode cX4_text 15 = .ok (.iconst 0, 1) := by decide +kernel
theorem dX4_text_16 : decode cX4_text 16 = .ok (.istore_n 1, 1) := by decide +kernel
theorem dX4_text_17 : decode cX4_text 17 = .ok (.iconst 0, 1) := by decide +kernel
theorem dX4_text_18 : decode cX4_text 18 = .ok (.istore_n 2, 1) := by decide +kernel
theorem dX4_text_19 : decode cX4_text 19 = .ok (.iload_n 2, 1) := by decide +kernel
theorem dX4_text_20 : decode cX4_text 20 = .ok (.bipush 39, 2) := by decide +kernel
theorem dX4_text_22 : decode cX4_text 22 = .ok (.if_icmp .ge 16, 3) := by decide +kernel
theorem dX4_text_25 : decode cX4_text 25 = .ok (.aload_n 0, 1) := by decide +kernel
theorem dX4_text_26 : decode cX4_text 26 = .ok (.getfield 13, 3) := by decide +kernel
theorem dX4_text_29 : decode cX4_text 29 = .ok (.iload_n 2, 1) := by decide +kernel
theorem dX4_text_30 : decode cX4_text 30 = .ok (.iconst 0, 1) := by decide +kernel
theorem dX4_text_31 : decode cX4_text 31 = .ok (.iastore, 1) := by decide +kernel
theorem dX4_text_32 : decode cX4_text 32 = .ok (.iinc 2 1, 3) := by decide +kernel
theorem dX4_text_35 : decode cX4_text 35 = .ok (.goto (-16), 3) := by decide +kernel
theorem dX4_text_38 : decode cX4_text 38 = .ok (.aload_n 0, 1) := by decide +kernel
theorem dX4_text_39 : decode cX4_text 39 = .ok (.invokevirtual 94, 3) := by decide +kernel
theorem dX4_text_42 : decode cX4_text 42 = .ok (.aload_n 0, 1) := by decide +kernel
theorem dX4_text_43 : decode cX4_text 43 = .ok (.getfield 60, 3) := by decide +kernel
theorem dX4_text_46 : decode cX4_text 46 = .ok (.ifCond .ne 20, 3) := by decide +kernel
theorem dX4_text_49 : decode cX4_text 49 = .ok (.aload_n 0, 1) := by decide +kernel
theorem dX4_text_50 : decode cX4_text 50 = .ok (.getfield 69, 3) := by decide +kernel
theorem dX4_text_53 : decode cX4_text 53 = .ok (.ifCond .eq 13, 3) := by decide +kernel
theorem dX4_text_56 : decode cX4_text 56 = .ok (.aload_n 0, 1) := by decide +kernel
theorem dX4_text_57 : decode cX4_text 57 = .ok (.invokevirtual 114, 3) := by decide +kernel
theorem dX4_text_60 : decode cX4_text 60 = .ok (.iinc 1 1, 3) := by decide +kernel
theorem dX4_text_63 : decode cX4_text 63 = .ok (.goto (-21), 3) := by decide +kernel
theorem dX4_text_66 : decode cX4_text 66 = .ok (.aload_n 0, 1) := by decide +kernel
theorem dX4_text_67 : decode cX4_text 67 = .ok (.iconst 0, 1) := by decide +kernel
theorem dX4_text_68 : decode cX4_text 68 = .ok (.putfield 57, 3) := by decide +kernel
theorem dX4_text_71 : decode cX4_text 71 = .ok (.aload_n 0, 1) := by decide +kernel
theorem dX4_text_72 : decode cX4_text 72 = .ok (.aload_n 0, 1) := by decide +kernel
theorem dX4_text_73 : decode cX4_text 73 = .ok (.getfield 60, 3) := by decide +kernel
theorem dX4_text_76 : decode cX4_text 76 = .ok (.putfield 117, 3) := by decide +kernel
theorem dX4_text_79 : decode cX4_text 79 = .ok (.aload_n 0, 1) := by decide +kernel
theorem dX4_text_80 : decode cX4_text 80 = .ok (.getfield 60, 3) := by decide +kernel
theorem dX4_text_83 : decode cX4_text 83 = .ok (.ifCond .le 11, 3) := by decide +kernel
theorem dX4_text_86 : decode cX4_text 86 = .ok (.bipush (-10), 2) := by decide +kernel
theorem dX4_text_88 : decode cX4_text 88 = .ok (.aload_n 0, 1) := by decide +kernel
theorem dX4_text_89 : decode cX4_text 89 = .ok (.getfield 66, 3) := by decide +kernel
theorem dX4_text_92 : decode cX4_text 92 = .ok (.isub, 1) := by decide +kernel
theorem dX4_text_93 : decode cX4_text 93 = .ok (.ireturn, 1) := by decide +kernel
theorem dX4_text_94 : decode cX4_text 94 = .ok (.iconst 0, 1) := by decide +kernel
theorem dX4_text_95 : decode cX4_text 95 = .ok (.istore_n 2, 1) := by decide +kernel
theorem dX4_text_96 : decode cX4_text 96 = .ok (.iload_n 2, 1) := by decide +kernel
theorem dX4_text_97 : decode cX4_text 97 = .ok (.bipush 39, 2) := by decide +kernel
theorem dX4_text_99 : decode cX4_text 99 = .ok (.if_icmp .ge 21, 3) := by decide +kernel
theorem dX4_text_102 : decode cX4_text 102 = .ok (.aload_n 0, 1) := by decide +kernel
theorem dX4_text_103 : decode cX4_text 103 = .ok (.getfield 7, 3) := by decide +kernel
theorem dX4_text_106 : decode cX4_text 106 = .ok (.iload_n 2, 1) := by decide +kernel
theorem dX4_text_107 : decode cX4_text 107 = .ok (.aload_n 0, 1) := by decide +kernel
theorem dX4_text_108 : decode cX4_text 108 = .ok (.getfield 13, 3) := by decide +kernel
theorem dX4_text_111 : decode cX4_text 111 = .ok (.iload_n 2, 1) := by decide +kernel
theorem dX4_text_112 : decode cX4_text 112 = .ok (.iaload, 1) := by decide +kernel
theorem dX4_text_113 : decode cX4_text 113 = .ok (.iastore, 1) := by decide +kernel
theorem dX4_text_114 : decode cX4_text 114 = .ok (.iinc 2 1, 3) := by decide +kernel
theorem dX4_text_117 : decode cX4_text 117 = .ok (.goto (-21), 3) := by decide +kernel
theorem dX4_text_120 : decode cX4_text 120 = .ok (.aload_n 0, 1) := by decide +kernel
theorem dX4_text_121 : decode cX4_text 121 = .ok (.iconst 0, 1) := by decide +kernel
theorem dX4_text_122 : decode cX4_text 122 = .ok (.putfield 120, 3) := by decide +kernel
theorem dX4_text_125 : decode cX4_text 125 = .ok (.aload_n 0, 1) := by decide +kernel
theorem dX4_text_126 : decode cX4_text 126 = .ok (.getfield 38, 3) := by decide +kernel
theorem dX4_text_129 : decode cX4_text 129 = .ok (.iconst 0, 1) := by decide +kernel
theorem dX4_text_130 : decode cX4_text 130 = .ok (.iconst 0, 1) := by decide +kernel
theorem dX4_text_131 : decode cX4_text 131 = .ok (.bastore, 1) := by decide +kernel
theorem dX4_text_132 : decode cX4_text 132 = .ok (.aload_n 0, 1) := by decide +kernel
theorem dX4_text_133 : decode cX4_text 133 = .ok (.getfield 38, 3) := by decide +kernel
theorem dX4_text_136 : decode cX4_text 136 = .ok (.iconst 1, 1) := by decide +kernel
theorem dX4_text_137 : decode cX4_text 137 = .ok (.iconst 0, 1) := by decide +kernel
theorem dX4_text_138 : decode cX4_text 138 = .ok (.bastore, 1) := by decide +kernel
theorem dX4_text_139 : decode cX4_text 139 = .ok (.iload_n 1, 1) := by decide +kernel
theorem dX4_text_140 : decode cX4_text 140 = .ok (.ireturn, 1) := by decide +kernel
theorem dX4_fault_0 : decode cX4_fault 0 = .ok (.aload_n 0, 1) := by decide +kernel
theorem dX4_fault_1 : decode cX4_fault 1 = .ok (.getfield 117, 3) := by decide +kernel
theorem dX4_fault_4 : decode cX4_fault 4 = .ok (.ireturn, 1) := by decide +kernel
theorem dX4_isWheel_0 : decode cX4_isWheel 0 = .ok (.iload_n 1, 1) := by decide +kernel
theorem dX4_isWheel_1 : decode cX4_isWheel 1 = .ok (.i2l, 1) := by decide +kernel
theorem dX4_isWheel_2 : decode cX4_isWheel 2 = .ok (.lconst 0, 1) := by decide +kernel
theorem dX4_isWheel_3 : decode cX4_isWheel 3 = .ok (.aload_n 0, 1) := by decide +kernel
theorem dX4_isWheel_4 : decode cX4_isWheel 4 = .ok (.getfield 7, 3) := by decide +kernel
theorem dX4_isWheel_7 : decode cX4_isWheel 7 = .ok (.bipush 16, 2) := by decide +kernel
theorem dX4_isWheel_9 : decode cX4_isWheel 9 = .ok (.iaload, 1) := by decide +kernel
theorem dX4_isWheel_10 : decode cX4_isWheel 10 = .ok (.iconst 1, 1) := by decide +kernel
theorem dX4_isWheel_11 : decode cX4_isWheel 11 = .ok (.isub, 1) := by decide +kernel
theorem dX4_isWheel_12 : decode cX4_isWheel 12 = .ok (.i2l, 1) := by decide +kernel
theorem dX4_isWheel_13 : decode cX4_isWheel 13 = .ok (.invokestatic 53, 3) := by decide +kernel
theorem dX4_isWheel_16 : decode cX4_isWheel 16 = .ok (.ireturn, 1) := by decide +kernel
theorem dX4_isAct_0 : decode cX4_isAct 0 = .ok (.iload_n 1, 1) := by decide +kernel
theorem dX4_isAct_1 : decode cX4_isAct 1 = .ok (.i2l, 1) := by decide +kernel
theorem dX4_isAct_2 : decode cX4_isAct 2 = .ok (.lconst 0, 1) := by decide +kernel
theorem dX4_isAct_3 : decode cX4_isAct 3 = .ok (.aload_n 0, 1) := by decide +kernel
theorem dX4_isAct_4 : decode cX4_isAct 4 = .ok (.getfield 7, 3) := by decide +kernel
theorem dX4_isAct_7 : decode cX4_isAct 7 = .ok (.bipush 33, 2) := by decide +kernel
theorem dX4_isAct_9 : decode cX4_isAct 9 = .ok (.iaload, 1) := by decide +kernel
theorem dX4_isAct_10 : decode cX4_isAct 10 = .ok (.iconst 1, 1) := by decide +kernel
theorem dX4_isAct_11 : decode cX4_isAct 11 = .ok (.isub, 1) := by decide +kernel
theorem dX4_isAct_12 : decode cX4_isAct 12 = .ok (.i2l, 1) := by decide +kernel
theorem dX4_isAct_13 : decode cX4_isAct 13 = .ok (.invokestatic 53, 3) := by decide +kernel
theorem dX4_isAct_16 : decode cX4_isAct 16 = .ok (.ireturn, 1) := by decide +kernel
theorem dX4_isLong_0 : decode cX4_isLong 0 = .ok (.iload_n 0, 1) := by decide +kernel
theorem dX4_isLong_1 : decode cX4_isLong 1 = .ok (.i2l, 1) := by decide +kernel
theorem dX4_isLong_2 : decode cX4_isLong 2 = .ok (.lconst 0, 1) := by decide +kernel
theorem dX4_isLong_3 : decode cX4_isLong 3 = .ok (.ldc2_w 123, 3) := by decide +kernel
theorem dX4_isLong_6 : decode cX4_isLong 6 = .ok (.invokestatic 53, 3) := by decide +kernel
theorem dX4_isLong_9 : decode cX4_isLong 9 = .ok (.ireturn, 1) := by decide +kernel
theorem dX4_joinedOn_0 : decode cX4_joinedOn 0 = .ok (.aload_n 0, 1) := by decide +kernel
theorem dX4_joinedOn_1 : decode cX4_joinedOn 1 = .ok (.getfield 7, 3) := by decide +kernel
theorem dX4_joinedOn_4 : decode cX4_joinedOn 4 = .ok (.iload_n 1, 1) := by decide +kernel
theorem dX4_joinedOn_5 : decode cX4_joinedOn 5 = .ok (.iload_n 2, 1) := by decide +kernel
theorem dX4_joinedOn_6 : decode cX4_joinedOn 6 = .ok (.iadd, 1) := by decide +kernel
theorem dX4_joinedOn_7 : decode cX4_joinedOn 7 = .ok (.iaload, 1) := by decide +kernel
theorem dX4_joinedOn_8 : decode cX4_joinedOn 8 = .ok (.istore_n 3, 1) := by decide +kernel
theorem dX4_joinedOn_9 : decode cX4_joinedOn 9 = .ok (.aload_n 0, 1) := by decide +kernel
theorem dX4_joinedOn_10 : decode cX4_joinedOn 10 = .ok (.getfield 7, 3) := by decide +kernel
theorem dX4_joinedOn_13 : decode cX4_joinedOn 13 = .ok (.iload_n 1, 1) := by decide +kernel
theorem dX4_joinedOn_14 : decode cX4_joinedOn 14 = .ok (.bipush 12, 2) := by decide +kernel
theorem dX4_joinedOn_16 : decode cX4_joinedOn 16 = .ok (.iadd, 1) := by decide +kernel
theorem dX4_joinedOn_17 : decode cX4_joinedOn 17 = .ok (.iload_n 2, 1) := by decide +kernel
theorem dX4_joinedOn_18 : decode cX4_joinedOn 18 = .ok (.iadd, 1) := by decide +kernel
theorem dX4_joinedOn_19 : decode cX4_joinedOn 19 = .ok (.iaload, 1) := by decide +kernel
theorem dX4_joinedOn_20 : decode cX4_joinedOn 20 = .ok (.istore 4, 2) := by decide +kernel
theorem dX4_joinedOn_22 : decode cX4_joinedOn 22 = .ok (.aload_n 0, 1) := by decide +kernel
theorem dX4_joinedOn_23 : decode cX4_joinedOn 23 = .ok (.getfield 7, 3) := by decide +kernel
theorem dX4_joinedOn_26 : decode cX4_joinedOn 26 = .ok (.iload_n 1, 1) := by decide +kernel
theorem dX4_joinedOn_27 : decode cX4_joinedOn 27 = .ok (.iconst 4, 1) := by decide +kernel
theorem dX4_joinedOn_28 : decode cX4_joinedOn 28 = .ok (.iadd, 1) := by decide +kernel
theorem dX4_joinedOn_29 : decode cX4_joinedOn 29 = .ok (.iload_n 2, 1) := by decide +kernel
theorem dX4_joinedOn_30 : decode cX4_joinedOn 30 = .ok (.iadd, 1) := by decide +kernel
theorem dX4_joinedOn_31 : decode cX4_joinedOn 31 = .ok (.iaload, 1) := by decide +kernel
theorem dX4_joinedOn_32 : decode cX4_joinedOn 32 = .ok (.istore 5, 2) := by decide +kernel
theorem dX4_joinedOn_34 : decode cX4_joinedOn 34 = .ok (.iload 4, 2) := by decide +kernel
theorem dX4_joinedOn_36 : decode cX4_joinedOn 36 = .ok (.aload_n 0, 1) := by decide +kernel
theorem dX4_joinedOn_37 : decode cX4_joinedOn 37 = .ok (.getfield 7, 3) := by decide +kernel
theorem dX4_joinedOn_40 : decode cX4_joinedOn 40 = .ok (.iload_n 1, 1) := by decide +kernel
theorem dX4_joinedOn_41 : decode cX4_joinedOn 41 = .ok (.bipush 35, 2) := by decide +kernel
theorem dX4_joinedOn_43 : decode cX4_joinedOn 43 = .ok (.iadd, 1) := by decide +kernel
theorem dX4_joinedOn_44 : decode cX4_joinedOn 44 = .ok (.iaload, 1) := by decide +kernel
theorem dX4_joinedOn_45 : decode cX4_joinedOn 45 = .ok (.iadd, 1) := by decide +kernel
theorem dX4_joinedOn_46 : decode cX4_joinedOn 46 = .ok (.iload 5, 2) := by decide +kernel
theorem dX4_joinedOn_48 : decode cX4_joinedOn 48 = .ok (.imul, 1) := by decide +kernel
theorem dX4_joinedOn_49 : decode cX4_joinedOn 49 = .ok (.iload 5, 2) := by decide +kernel
theorem dX4_joinedOn_51 : decode cX4_joinedOn 51 = .ok (.aload_n 0, 1) := by decide +kernel
theorem dX4_joinedOn_52 : decode cX4_joinedOn 52 = .ok (.getfield 7, 3) := by decide +kernel
theorem dX4_joinedOn_55 : decode cX4_joinedOn 55 = .ok (.iload_n 1, 1) := by decide +kernel
theorem dX4_joinedOn_56 : decode cX4_joinedOn 56 = .ok (.bipush 34, 2) := by decide +kernel
theorem dX4_joinedOn_58 : decode cX4_joinedOn 58 = .ok (.iadd, 1) := by decide +kernel
theorem dX4_joinedOn_59 : decode cX4_joinedOn 59 = .ok (.iaload, 1) := by decide +kernel
theorem dX4_joinedOn_60 : decode cX4_joinedOn 60 = .ok (.iadd, 1) := by decide +kernel
theorem dX4_joinedOn_61 : decode cX4_joinedOn 61 = .ok (.iconst 5, 1) := by decide +kernel
theorem dX4_joinedOn_62 : decode cX4_joinedOn 62 = .ok (.iadd, 1) := by decide +kernel
theorem dX4_joinedOn_63 : decode cX4_joinedOn 63 = .ok (.idiv, 1) := by decide +kernel
theorem dX4_joinedOn_64 : decode cX4_joinedOn 64 = .ok (.istore 6, 2) := by decide +kernel
theorem dX4_joinedOn_66 : decode cX4_joinedOn 66 = .ok (.iload_n 3, 1) := by decide +kernel
theorem dX4_joinedOn_67 : decode cX4_joinedOn 67 = .ok (.ifCond .ne 6, 3) := by decide +kernel
theorem dX4_joinedOn_70 : decode cX4_joinedOn 70 = .ok (.iload 6, 2) := by decide +kernel
theorem dX4_joinedOn_72 : decode cX4_joinedOn 72 = .ok (.ireturn, 1) := by decide +kernel
theorem dX4_joinedOn_73 : decode cX4_joinedOn 73 = .ok (.iload_n 3, 1) := by decide +kernel
theorem dX4_joinedOn_74 : decode cX4_joinedOn 74 = .ok (.iconst 1, 1) := by decide +kernel
theorem dX4_joinedOn_75 : decode cX4_joinedOn 75 = .ok (.if_icmp .ne 14, 3) := by decide +kernel
theorem dX4_joinedOn_78 : decode cX4_joinedOn 78 = .ok (.iload 4, 2) := by decide +kernel
theorem dX4_joinedOn_80 : decode cX4_joinedOn 80 = .ok (.iload 6, 2) := by decide +kernel
theorem dX4_joinedOn_82 : decode cX4_joinedOn 82 = .ok (.iload 4, 2) := by decide +kernel
theorem dX4_joinedOn_84 : decode cX4_joinedOn 84 = .ok (.isub, 1) := by decide +kernel
theorem dX4_joinedOn_85 : decode cX4_joinedOn 85 = .ok (.iconst 2, 1) := by decide +kernel
theorem dX4_joinedOn_86 : decode cX4_joinedOn 86 = .ok (.idiv, 1) := by decide +kernel
theorem dX4_joinedOn_87 : decode cX4_joinedOn 87 = .ok (.iadd, 1) := by decide +kernel
theorem dX4_joinedOn_88 : decode cX4_joinedOn 88 = .ok (.ireturn, 1) := by decide +kernel
theorem dX4_joinedOn_89 : decode cX4_joinedOn 89 = .ok (.iload 6, 2) := by decide +kernel
theorem dX4_joinedOn_91 : decode cX4_joinedOn 91 = .ok (.iload 4, 2) := by decide +kernel
theorem dX4_joinedOn_93 : decode cX4_joinedOn 93 = .ok (.if_icmp .le 8, 3) := by decide +kernel
theorem dX4_joinedOn_96 : decode cX4_joinedOn 96 = .ok (.iload 6, 2) := by decide +kernel
theorem dX4_joinedOn_98 : decode cX4_joinedOn 98 = .ok (.goto 5, 3) := by decide +kernel
theorem dX4_joinedOn_101 : decode cX4_joinedOn 101 = .ok (.iload 4, 2) := by decide +kernel
theorem dX4_joinedOn_103 : decode cX4_joinedOn 103 = .ok (.istore 7, 2) := by decide +kernel
theorem dX4_joinedOn_105 : decode cX4_joinedOn 105 = .ok (.iload_n 3, 1) := by decide +kernel
theorem dX4_joinedOn_106 : decode cX4_joinedOn 106 = .ok (.iconst 3, 1) := by decide +kernel
theorem dX4_joinedOn_107 : decode cX4_joinedOn 107 = .ok (.if_icmp .ne 21, 3) := by decide +kernel
theorem dX4_joinedOn_110 : decode cX4_joinedOn 110 = .ok (.iload 7, 2) := by decide +kernel
theorem dX4_joinedOn_112 : decode cX4_joinedOn 112 = .ok (.iload 4, 2) := by decide +kernel
theorem dX4_joinedOn_114 : decode cX4_joinedOn 114 = .ok (.bipush 20, 2) := by decide +kernel
theorem dX4_joinedOn_116 : decode cX4_joinedOn 116 = .ok (.iadd, 1) := by decide +kernel
theorem dX4_joinedOn_117 : decode cX4_joinedOn 117 = .ok (.if_icmp .le 11, 3) := by decide +kernel
theorem dX4_joinedOn_120 : decode cX4_joinedOn 120 = .ok (.iload 4, 2) := by decide +kernel
theorem dX4_joinedOn_122 : decode cX4_joinedOn 122 = .ok (.bipush 20, 2) := by decide +kernel
theorem dX4_joinedOn_124 : decode cX4_joinedOn 124 = .ok (.iadd, 1) := by decide +kernel
theorem dX4_joinedOn_125 : decode cX4_joinedOn 125 = .ok (.goto 5, 3) := by decide +kernel
theorem dX4_joinedOn_128 : decode cX4_joinedOn 128 = .ok (.iload 7, 2) := by decide +kernel
theorem dX4_joinedOn_130 : decode cX4_joinedOn 130 = .ok (.ireturn, 1) := by decide +kernel
theorem dX4_speedOn_0 : decode cX4_speedOn 0 = .ok (.aload_n 0, 1) := by decide +kernel
theorem dX4_speedOn_1 : decode cX4_speedOn 1 = .ok (.getfield 7, 3) := by decide +kernel
theorem dX4_speedOn_4 : decode cX4_speedOn 4 = .ok (.iload_n 1, 1) := by decide +kernel
theorem dX4_speedOn_5 : decode cX4_speedOn 5 = .ok (.bipush 35, 2) := by decide +kernel
theorem dX4_speedOn_7 : decode cX4_speedOn 7 = .ok (.iadd, 1) := by decide +kernel
theorem dX4_speedOn_8 : decode cX4_speedOn 8 = .ok (.iaload, 1) := by decide +kernel
theorem dX4_speedOn_9 : decode cX4_speedOn 9 = .ok (.aload_n 0, 1) := by decide +kernel
theorem dX4_speedOn_10 : decode cX4_speedOn 10 = .ok (.getfield 7, 3) := by decide +kernel
theorem dX4_speedOn_13 : decode cX4_speedOn 13 = .ok (.iload_n 1, 1) := by decide +kernel
theorem dX4_speedOn_14 : decode cX4_speedOn 14 = .ok (.bipush 34, 2) := by decide +kernel
theorem dX4_speedOn_16 : decode cX4_speedOn 16 = .ok (.iadd, 1) := by decide +kernel
theorem dX4_speedOn_17 : decode cX4_speedOn 17 = .ok (.iaload, 1) := by decide +kernel
theorem dX4_speedOn_18 : decode cX4_speedOn 18 = .ok (.iconst 5, 1) := by decide +kernel
theorem dX4_speedOn_19 : decode cX4_speedOn 19 = .ok (.iadd, 1) := by decide +kernel
theorem dX4_speedOn_20 : decode cX4_speedOn 20 = .ok (.idiv, 1) := by decide +kernel
theorem dX4_speedOn_21 : decode cX4_speedOn 21 = .ok (.ireturn, 1) := by decide +kernel
theorem dX4_actOn_0 : decode cX4_actOn 0 = .ok (.iload_n 2, 1) := by decide +kernel
theorem dX4_actOn_1 : decode cX4_actOn 1 = .ok (.bipush 100, 2) := by decide +kernel
theorem dX4_actOn_3 : decode cX4_actOn 3 = .ok (.if_icmp .ge 27, 3) := by decide +kernel
theorem dX4_actOn_6 : decode cX4_actOn 6 = .ok (.aload_n 0, 1) := by decide +kernel
theorem dX4_actOn_7 : decode cX4_actOn 7 = .ok (.getfield 7, 3) := by decide +kernel
theorem dX4_actOn_10 : decode cX4_actOn 10 = .ok (.iload_n 1, 1) := by decide +kernel
theorem dX4_actOn_11 : decode cX4_actOn 11 = .ok (.bipush 35, 2) := by decide +kernel
theorem dX4_actOn_13 : decode cX4_actOn 13 = .ok (.iadd, 1) := by decide +kernel
theorem dX4_actOn_14 : decode cX4_actOn 14 = .ok (.dup2, 1) := by decide +kernel
theorem dX4_actOn_15 : decode cX4_actOn 15 = .ok (.iaload, 1) := by decide +kernel
theorem dX4_actOn_16 : decode cX4_actOn 16 = .ok (.iload_n 3, 1) := by decide +kernel
theorem dX4_actOn_17 : decode cX4_actOn 17 = .ok (.ifCond .eq 7, 3) := by decide +kernel
theorem dX4_actOn_20 : decode cX4_actOn 20 = .ok (.iconst 0, 1) := by decide +kernel
theorem dX4_actOn_21 : decode cX4_actOn 21 = .ok (.goto 4, 3) := by decide +kernel
theorem dX4_actOn_24 : decode cX4_actOn 24 = .ok (.iload_n 2, 1) := by decide +kernel
theorem dX4_actOn_25 : decode cX4_actOn 25 = .ok (.iadd, 1) := by decide +kernel
theorem dX4_actOn_26 : decode cX4_actOn 26 = .ok (.iastore, 1) := by decide +kernel
theorem dX4_actOn_27 : decode cX4_actOn 27 = .ok (.goto 194, 3) := by decide +kernel
theorem dX4_actOn_30 : decode cX4_actOn 30 = .ok (.iload_n 2, 1) := by decide +kernel
theorem dX4_actOn_31 : decode cX4_actOn 31 = .ok (.sipush 200, 3) := by decide +kernel
theorem dX4_actOn_34 : decode cX4_actOn 34 = .ok (.if_icmp .ge 84, 3) := by decide +kernel
theorem dX4_actOn_37 : decode cX4_actOn 37 = .ok (.aload_n 0, 1) := by decide +kernel
theorem dX4_actOn_38 : decode cX4_actOn 38 = .ok (.getfield 7, 3) := by decide +kernel
theorem dX4_actOn_41 : decode cX4_actOn 41 = .ok (.iload_n 1, 1) := by decide +kernel
theorem dX4_actOn_42 : decode cX4_actOn 42 = .ok (.bipush 35, 2) := by decide +kernel
theorem dX4_actOn_44 : decode cX4_actOn 44 = .ok (.iadd, 1) := by decide +kernel
theorem dX4_actOn_45 : decode cX4_actOn 45 = .ok (.iaload, 1) := by decide +kernel
theorem dX4_actOn_46 : decode cX4_actOn 46 = .ok (.istore 4, 2) := by decide +kernel
theorem dX4_actOn_48 : decode cX4_actOn 48 = .ok (.iload_n 2, 1) := by decide +kernel
theorem dX4_actOn_49 : decode cX4_actOn 49 = .ok (.bipush 100, 2) := by decide +kernel
theorem dX4_actOn_51 : decode cX4_actOn 51 = .ok (.isub, 1) := by decide +kernel
theorem dX4_actOn_52 : decode cX4_actOn 52 = .ok (.iload 4, 2) := by decide +kernel
theorem dX4_actOn_54 : decode cX4_actOn 54 = .ok (.if_icmp .le 8, 3) := by decide +kernel
theorem dX4_actOn_57 : decode cX4_actOn 57 = .ok (.iload 4, 2) := by decide +kernel
theorem dX4_actOn_59 : decode cX4_actOn 59 = .ok (.goto 7, 3) := by decide +kernel
theorem dX4_actOn_62 : decode cX4_actOn 62 = .ok (.iload_n 2, 1) := by decide +kernel
theorem dX4_actOn_63 : decode cX4_actOn 63 = .ok (.bipush 100, 2) := by decide +kernel
theorem dX4_actOn_65 : decode cX4_actOn 65 = .ok (.isub, 1) := by decide +kernel
theorem dX4_actOn_66 : decode cX4_actOn 66 = .ok (.istore 5, 2) := by decide +kernel
theorem dX4_actOn_68 : decode cX4_actOn 68 = .ok (.aload_n 0, 1) := by decide +kernel
theorem dX4_actOn_69 : decode cX4_actOn 69 = .ok (.getfield 7, 3) := by decide +kernel
theorem dX4_actOn_72 : decode cX4_actOn 72 = .ok (.iload_n 1, 1) := by decide +kernel
theorem dX4_actOn_73 : decode cX4_actOn 73 = .ok (.bipush 35, 2) := by decide +kernel
theorem dX4_actOn_75 : decode cX4_actOn 75 = .ok (.iadd, 1) := by decide +kernel
theorem dX4_actOn_76 : decode cX4_actOn 76 = .ok (.iload 4, 2) := by decide +kernel
theorem dX4_actOn_78 : decode cX4_actOn 78 = .ok (.iload 5, 2) := by decide +kernel
theorem dX4_actOn_80 : decode cX4_actOn 80 = .ok (.isub, 1) := by decide +kernel
theorem dX4_actOn_81 : decode cX4_actOn 81 = .ok (.iastore, 1) := by decide +kernel
theorem dX4_actOn_82 : decode cX4_actOn 82 = .ok (.aload_n 0, 1) := by decide +kernel
theorem dX4_actOn_83 : decode cX4_actOn 83 = .ok (.getfield 7, 3) := by decide +kernel
theorem dX4_actOn_86 : decode cX4_actOn 86 = .ok (.iload_n 1, 1) := by decide +kernel
theorem dX4_actOn_87 : decode cX4_actOn 87 = .ok (.bipush 37, 2) := by decide +kernel
theorem dX4_actOn_89 : decode cX4_actOn 89 = .ok (.iadd, 1) := by decide +kernel
theorem dX4_actOn_90 : decode cX4_actOn 90 = .ok (.dup2, 1) := by decide +kernel
theorem dX4_actOn_91 : decode cX4_actOn 91 = .ok (.iaload, 1) := by decide +kernel
theorem dX4_actOn_92 : decode cX4_actOn 92 = .ok (.iload 5, 2) := by decide +kernel
theorem dX4_actOn_94 : decode cX4_actOn 94 = .ok (.iadd, 1) := by decide +kernel
theorem dX4_actOn_95 : decode cX4_actOn 95 = .ok (.iastore, 1) := by decide +kernel
theorem dX4_actOn_96 : decode cX4_actOn 96 = .ok (.aload_n 0, 1) := by decide +kernel
theorem dX4_actOn_97 : decode cX4_actOn 97 = .ok (.getfield 7, 3) := by decide +kernel
theorem dX4_actOn_100 : decode cX4_actOn 100 = .ok (.iload_n 1, 1) := by decide +kernel
theorem dX4_actOn_101 : decode cX4_actOn 101 = .ok (.bipush 38, 2) := by decide +kernel
theorem dX4_actOn_103 : decode cX4_actOn 103 = .ok (.iadd, 1) := by decide +kernel
theorem dX4_actOn_104 : decode cX4_actOn 104 = .ok (.dup2, 1) := by decide +kernel
theorem dX4_actOn_105 : decode cX4_actOn 105 = .ok (.iaload, 1) := by decide +kernel
theorem dX4_actOn_106 : decode cX4_actOn 106 = .ok (.iload_n 2, 1) := by decide +kernel
theorem dX4_actOn_107 : decode cX4_actOn 107 = .ok (.bipush 100, 2) := by decide +kernel
theorem dX4_actOn_109 : decode cX4_actOn 109 = .ok (.isub, 1) := by decide +kernel
theorem dX4_actOn_110 : decode cX4_actOn 110 = .ok (.iload 5, 2) := by decide +kernel
theorem dX4_actOn_112 : decode cX4_actOn 112 = .ok (.isub, 1) := by decide +kernel
theorem dX4_actOn_113 : decode cX4_actOn 113 = .ok (.iadd, 1) := by decide +kernel
theorem dX4_actOn_114 : decode cX4_actOn 114 = .ok (.iastore, 1) := by decide +kernel
theorem dX4_actOn_115 : decode cX4_actOn 115 = .ok (.goto 106, 3) := by decide +kernel
theorem dX4_actOn_118 : decode cX4_actOn 118 = .ok (.iload_n 2, 1) := by decide +kernel
theorem dX4_actOn_119 : decode cX4_actOn 119 = .ok (.sipush 200, 3) := by decide +kernel
theorem dX4_actOn_122 : decode cX4_actOn 122 = .ok (.isub, 1) := by decide +kernel
theorem dX4_actOn_123 : decode cX4_actOn 123 = .ok (.aload_n 0, 1) := by decide +kernel
theorem dX4_actOn_124 : decode cX4_actOn 124 = .ok (.getfield 7, 3) := by decide +kernel
theorem dX4_actOn_127 : decode cX4_actOn 127 = .ok (.iload_n 1, 1) := by decide +kernel
theorem dX4_actOn_128 : decode cX4_actOn 128 = .ok (.bipush 16, 2) := by decide +kernel
theorem dX4_actOn_130 : decode cX4_actOn 130 = .ok (.iadd, 1) := by decide +kernel
theorem dX4_actOn_131 : decode cX4_actOn 131 = .ok (.iaload, 1) := by decide +kernel
theorem dX4_actOn_132 : decode cX4_actOn 132 = .ok (.if_icmp .ge 89, 3) := by decide +kernel
theorem dX4_actOn_135 : decode cX4_actOn 135 = .ok (.iload_n 2, 1) := by decide +kernel
theorem dX4_actOn_136 : decode cX4_actOn 136 = .ok (.sipush 200, 3) := by decide +kernel
theorem dX4_actOn_139 : decode cX4_actOn 139 = .ok (.isub, 1) := by decide +kernel
theorem dX4_actOn_140 : decode cX4_actOn 140 = .ok (.aload_n 0, 1) := by decide +kernel
theorem dX4_actOn_141 : decode cX4_actOn 141 = .ok (.getfield 25, 3) := by decide +kernel
theorem dX4_actOn_144 : decode cX4_actOn 144 = .ok (.if_icmp .eq 77, 3) := by decide +kernel
theorem dX4_actOn_147 : decode cX4_actOn 147 = .ok (.iload_n 2, 1) := by decide +kernel
theorem dX4_actOn_148 : decode cX4_actOn 148 = .ok (.sipush 200, 3) := by decide +kernel
theorem dX4_actOn_151 : decode cX4_actOn 151 = .ok (.isub, 1) := by decide +kernel
theorem dX4_actOn_152 : decode cX4_actOn 152 = .ok (.istore 4, 2) := by decide +kernel
theorem dX4_actOn_154 : decode cX4_actOn 154 = .ok (.aload_n 0, 1) := by decide +kernel
theorem dX4_actOn_155 : decode cX4_actOn 155 = .ok (.getfield 7, 3) := by decide +kernel
theorem dX4_actOn_158 : decode cX4_actOn 158 = .ok (.iload_n 1, 1) := by decide +kernel
theorem dX4_actOn_159 : decode cX4_actOn 159 = .ok (.bipush 12, 2) := by decide +kernel
theorem dX4_actOn_161 : decode cX4_actOn 161 = .ok (.iadd, 1) := by decide +kernel
theorem dX4_actOn_162 : decode cX4_actOn 162 = .ok (.iload 4, 2) := by decide +kernel
theorem dX4_actOn_164 : decode cX4_actOn 164 = .ok (.iadd, 1) := by decide +kernel
theorem dX4_actOn_165 : decode cX4_actOn 165 = .ok (.iaload, 1) := by decide +kernel
theorem dX4_actOn_166 : decode cX4_actOn 166 = .ok (.aload_n 0, 1) := by decide +kernel
theorem dX4_actOn_167 : decode cX4_actOn 167 = .ok (.getfield 7, 3) := by decide +kernel
theorem dX4_actOn_170 : decode cX4_actOn 170 = .ok (.iload_n 1, 1) := by decide +kernel
theorem dX4_actOn_171 : decode cX4_actOn 171 = .ok (.bipush 35, 2) := by decide +kernel
theorem dX4_actOn_173 : decode cX4_actOn 173 = .ok (.iadd, 1) := by decide +kernel
theorem dX4_actOn_174 : decode cX4_actOn 174 = .ok (.iaload, 1) := by decide +kernel
theorem dX4_actOn_175 : decode cX4_actOn 175 = .ok (.iadd, 1) := by decide +kernel
theorem dX4_actOn_176 : decode cX4_actOn 176 = .ok (.istore 5, 2) := by decide +kernel
theorem dX4_actOn_178 : decode cX4_actOn 178 = .ok (.aload_n 0, 1) := by decide +kernel
theorem dX4_actOn_179 : decode cX4_actOn 179 = .ok (.getfield 7, 3) := by decide +kernel
theorem dX4_actOn_182 : decode cX4_actOn 182 = .ok (.iload_n 1, 1) := by decide +kernel
theorem dX4_actOn_183 : decode cX4_actOn 183 = .ok (.bipush 12, 2) := by decide +kernel
theorem dX4_actOn_185 : decode cX4_actOn 185 = .ok (.iadd, 1) := by decide +kernel
theorem dX4_actOn_186 : decode cX4_actOn 186 = .ok (.iload 4, 2) := by decide +kernel
theorem dX4_actOn_188 : decode cX4_actOn 188 = .ok (.iadd, 1) := by decide +kernel
theorem dX4_actOn_189 : decode cX4_actOn 189 = .ok (.aload_n 0, 1) := by decide +kernel
theorem dX4_actOn_190 : decode cX4_actOn 190 = .ok (.iload_n 1, 1) := by decide +kernel
theorem dX4_actOn_191 : decode cX4_actOn 191 = .ok (.iload 4, 2) := by decide +kernel
theorem dX4_actOn_193 : decode cX4_actOn 193 = .ok (.invokevirtual 125, 3) := by decide +kernel
theorem dX4_actOn_196 : decode cX4_actOn 196 = .ok (.iastore, 1) := by decide +kernel
theorem dX4_actOn_197 : decode cX4_actOn 197 = .ok (.aload_n 0, 1) := by decide +kernel
theorem dX4_actOn_198 : decode cX4_actOn 198 = .ok (.getfield 7, 3) := by decide +kernel
theorem dX4_actOn_201 : decode cX4_actOn 201 = .ok (.iload_n 1, 1) := by decide +kernel
theorem dX4_actOn_202 : decode cX4_actOn 202 = .ok (.bipush 35, 2) := by decide +kernel
theorem dX4_actOn_204 : decode cX4_actOn 204 = .ok (.iadd, 1) := by decide +kernel
theorem dX4_actOn_205 : decode cX4_actOn 205 = .ok (.iload 5, 2) := by decide +kernel
theorem dX4_actOn_207 : decode cX4_actOn 207 = .ok (.aload_n 0, 1) := by decide +kernel
theorem dX4_actOn_208 : decode cX4_actOn 208 = .ok (.getfield 7, 3) := by decide +kernel
theorem dX4_actOn_211 : decode cX4_actOn 211 = .ok (.iload_n 1, 1) := by decide +kernel
theorem dX4_actOn_212 : decode cX4_actOn 212 = .ok (.bipush 12, 2) := by decide +kernel
theorem dX4_actOn_214 : decode cX4_actOn 214 = .ok (.iadd, 1) := by decide +kernel
theorem dX4_actOn_215 : decode cX4_actOn 215 = .ok (.iload 4, 2) := by decide +kernel
theorem dX4_actOn_217 : decode cX4_actOn 217 = .ok (.iadd, 1) := by decide +kernel
theorem dX4_actOn_218 : decode cX4_actOn 218 = .ok (.iaload, 1) := by decide +kernel
theorem dX4_actOn_219 : decode cX4_actOn 219 = .ok (.isub, 1) := by decide +kernel
theorem dX4_actOn_220 : decode cX4_actOn 220 = .ok (.iastore, 1) := by decide +kernel
theorem dX4_actOn_221 : decode cX4_actOn 221 = .ok (.return_, 1) := by decide +kernel
theorem dX4_lossesOn_0 : decode cX4_lossesOn 0 = .ok (.iconst 0, 1) := by decide +kernel
theorem dX4_lossesOn_1 : decode cX4_lossesOn 1 = .ok (.istore_n 2, 1) := by decide +kernel
theorem dX4_lossesOn_2 : decode cX4_lossesOn 2 = .ok (.iload_n 2, 1) := by decide +kernel
theorem dX4_lossesOn_3 : decode cX4_lossesOn 3 = .ok (.aload_n 0, 1) := by decide +kernel
theorem dX4_lossesOn_4 : decode cX4_lossesOn 4 = .ok (.getfield 7, 3) := by decide +kernel
theorem dX4_lossesOn_7 : decode cX4_lossesOn 7 = .ok (.iload_n 1, 1) := by decide +kernel
theorem dX4_lossesOn_8 : decode cX4_lossesOn 8 = .ok (.bipush 16, 2) := by decide +kernel
theorem dX4_lossesOn_10 : decode cX4_lossesOn 10 = .ok (.iadd, 1) := by decide +kernel
theorem dX4_lossesOn_11 : decode cX4_lossesOn 11 = .ok (.iaload, 1) := by decide +kernel
theorem dX4_lossesOn_12 : decode cX4_lossesOn 12 = .ok (.if_icmp .ge 75, 3) := by decide +kernel
theorem dX4_lossesOn_15 : decode cX4_lossesOn 15 = .ok (.aload_n 0, 1) := by decide +kernel
theorem dX4_lossesOn_16 : decode cX4_lossesOn 16 = .ok (.getfield 7, 3) := by decide +kernel
theorem dX4_lossesOn_19 : decode cX4_lossesOn 19 = .ok (.iload_n 1, 1) := by decide +kernel
theorem dX4_lossesOn_20 : decode cX4_lossesOn 20 = .ok (.bipush 8, 2) := by decide +kernel
theorem dX4_lossesOn_22 : decode cX4_lossesOn 22 = .ok (.iadd, 1) := by decide +kernel
theorem dX4_lossesOn_23 : decode cX4_lossesOn 23 = .ok (.iload_n 2, 1) := by decide +kernel
theorem dX4_lossesOn_24 : decode cX4_lossesOn 24 = .ok (.iadd, 1) := by decide +kernel
theorem dX4_lossesOn_25 : decode cX4_lossesOn 25 = .ok (.iaload, 1) := by decide +kernel
theorem dX4_lossesOn_26 : decode cX4_lossesOn 26 = .ok (.istore_n 3, 1) := by decide +kernel
theorem dX4_lossesOn_27 : decode cX4_lossesOn 27 = .ok (.aload_n 0, 1) := by decide +kernel
theorem dX4_lossesOn_28 : decode cX4_lossesOn 28 = .ok (.getfield 7, 3) := by decide +kernel
theorem dX4_lossesOn_31 : decode cX4_lossesOn 31 = .ok (.iload_n 1, 1) := by decide +kernel
theorem dX4_lossesOn_32 : decode cX4_lossesOn 32 = .ok (.bipush 12, 2) := by decide +kernel
theorem dX4_lossesOn_34 : decode cX4_lossesOn 34 = .ok (.iadd, 1) := by decide +kernel
theorem dX4_lossesOn_35 : decode cX4_lossesOn 35 = .ok (.iload_n 2, 1) := by decide +kernel
theorem dX4_lossesOn_36 : decode cX4_lossesOn 36 = .ok (.iadd, 1) := by decide +kernel
theorem dX4_lossesOn_37 : decode cX4_lossesOn 37 = .ok (.iaload, 1) := by decide +kernel
theorem dX4_lossesOn_38 : decode cX4_lossesOn 38 = .ok (.istore 4, 2) := by decide +kernel
theorem dX4_lossesOn_40 : decode cX4_lossesOn 40 = .ok (.iload_n 3, 1) := by decide +kernel
theorem dX4_lossesOn_41 : decode cX4_lossesOn 41 = .ok (.iload 4, 2) := by decide +kernel
theorem dX4_lossesOn_43 : decode cX4_lossesOn 43 = .ok (.if_icmp .le 8, 3) := by decide +kernel
theorem dX4_lossesOn_46 : decode cX4_lossesOn 46 = .ok (.iload 4, 2) := by decide +kernel
theorem dX4_lossesOn_48 : decode cX4_lossesOn 48 = .ok (.goto 4, 3) := by decide +kernel
theorem dX4_lossesOn_51 : decode cX4_lossesOn 51 = .ok (.iload_n 3, 1) := by decide +kernel
theorem dX4_lossesOn_52 : decode cX4_lossesOn 52 = .ok (.istore 5, 2) := by decide +kernel
theorem dX4_lossesOn_54 : decode cX4_lossesOn 54 = .ok (.aload_n 0, 1) := by decide +kernel
theorem dX4_lossesOn_55 : decode cX4_lossesOn 55 = .ok (.getfield 7, 3) := by decide +kernel
theorem dX4_lossesOn_58 : decode cX4_lossesOn 58 = .ok (.iload_n 1, 1) := by decide +kernel
theorem dX4_lossesOn_59 : decode cX4_lossesOn 59 = .ok (.bipush 12, 2) := by decide +kernel
theorem dX4_lossesOn_61 : decode cX4_lossesOn 61 = .ok (.iadd, 1) := by decide +kernel
theorem dX4_lossesOn_62 : decode cX4_lossesOn 62 = .ok (.iload_n 2, 1) := by decide +kernel
theorem dX4_lossesOn_63 : decode cX4_lossesOn 63 = .ok (.iadd, 1) := by decide +kernel
theorem dX4_lossesOn_64 : decode cX4_lossesOn 64 = .ok (.iload 4, 2) := by decide +kernel
theorem dX4_lossesOn_66 : decode cX4_lossesOn 66 = .ok (.iload 5, 2) := by decide +kernel
theorem dX4_lossesOn_68 : decode cX4_lossesOn 68 = .ok (.isub, 1) := by decide +kernel
theorem dX4_lossesOn_69 : decode cX4_lossesOn 69 = .ok (.iastore, 1) := by decide +kernel
theorem dX4_lossesOn_70 : decode cX4_lossesOn 70 = .ok (.aload_n 0, 1) := by decide +kernel
theorem dX4_lossesOn_71 : decode cX4_lossesOn 71 = .ok (.dup, 1) := by decide +kernel
theorem dX4_lossesOn_72 : decode cX4_lossesOn 72 = .ok (.getfield 128, 3) := by decide +kernel
theorem dX4_lossesOn_75 : decode cX4_lossesOn 75 = .ok (.iload 5, 2) := by decide +kernel
theorem dX4_lossesOn_77 : decode cX4_lossesOn 77 = .ok (.iadd, 1) := by decide +kernel
theorem dX4_lossesOn_78 : decode cX4_lossesOn 78 = .ok (.putfield 128, 3) := by decide +kernel
theorem dX4_lossesOn_81 : decode cX4_lossesOn 81 = .ok (.iinc 2 1, 3) := by decide +kernel
theorem dX4_lossesOn_84 : decode cX4_lossesOn 84 = .ok (.goto (-82), 3) := by decide +kernel
theorem dX4_lossesOn_87 : decode cX4_lossesOn 87 = .ok (.aload_n 0, 1) := by decide +kernel
theorem dX4_lossesOn_88 : decode cX4_lossesOn 88 = .ok (.getfield 7, 3) := by decide +kernel
theorem dX4_lossesOn_91 : decode cX4_lossesOn 91 = .ok (.iload_n 1, 1) := by decide +kernel
theorem dX4_lossesOn_92 : decode cX4_lossesOn 92 = .ok (.bipush 36, 2) := by decide +kernel
theorem dX4_lossesOn_94 : decode cX4_lossesOn 94 = .ok (.iadd, 1) := by decide +kernel
theorem dX4_lossesOn_95 : decode cX4_lossesOn 95 = .ok (.dup2, 1) := by decide +kernel
theorem dX4_lossesOn_96 : decode cX4_lossesOn 96 = .ok (.iaload, 1) := by decide +kernel
theorem dX4_lossesOn_97 : decode cX4_lossesOn 97 = .ok (.iconst 1, 1) := by decide +kernel
theorem dX4_lossesOn_98 : decode cX4_lossesOn 98 = .ok (.iadd, 1) := by decide +kernel
theorem dX4_lossesOn_99 : decode cX4_lossesOn 99 = .ok (.iastore, 1) := by decide +kernel
theorem dX4_lossesOn_100 : decode cX4_lossesOn 100 = .ok (.aload_n 0, 1) := by decide +kernel
theorem dX4_lossesOn_101 : decode cX4_lossesOn 101 = .ok (.iload_n 1, 1) := by decide +kernel
theorem dX4_lossesOn_102 : decode cX4_lossesOn 102 = .ok (.invokevirtual 131, 3) := by decide +kernel
theorem dX4_lossesOn_105 : decode cX4_lossesOn 105 = .ok (.istore_n 2, 1) := by decide +kernel
theorem dX4_lossesOn_106 : decode cX4_lossesOn 106 = .ok (.aload_n 0, 1) := by decide +kernel
theorem dX4_lossesOn_107 : decode cX4_lossesOn 107 = .ok (.iload_n 2, 1) := by decide +kernel
theorem dX4_lossesOn_108 : decode cX4_lossesOn 108 = .ok (.aload_n 0, 1) := by decide +kernel
theorem dX4_lossesOn_109 : decode cX4_lossesOn 109 = .ok (.getfield 134, 3) := by decide +kernel
theorem dX4_lossesOn_112 : decode cX4_lossesOn 112 = .ok (.if_icmp .le 7, 3) := by decide +kernel
theorem dX4_lossesOn_115 : decode cX4_lossesOn 115 = .ok (.iload_n 2, 1) := by decide +kernel
theorem dX4_lossesOn_116 : decode cX4_lossesOn 116 = .ok (.goto 7, 3) := by decide +kernel
theorem dX4_lossesOn_119 : decode cX4_lossesOn 119 = .ok (.aload_n 0, 1) := by decide +kernel
theorem dX4_lossesOn_120 : decode cX4_lossesOn 120 = .ok (.getfield 134, 3) := by decide +kernel
theorem dX4_lossesOn_123 : decode cX4_lossesOn 123 = .ok (.putfield 134, 3) := by decide +kernel
theorem dX4_lossesOn_126 : decode cX4_lossesOn 126 = .ok (.return_, 1) := by decide +kernel
theorem dX4_tickOn_0 : decode cX4_tickOn 0 = .ok (.aload_n 0, 1) := by decide +kernel
theorem dX4_tickOn_1 : decode cX4_tickOn 1 = .ok (.getfield 7, 3) := by decide +kernel
theorem dX4_tickOn_4 : decode cX4_tickOn 4 = .ok (.iload_n 1, 1) := by decide +kernel
theorem dX4_tickOn_5 : decode cX4_tickOn 5 = .ok (.bipush 33, 2) := by decide +kernel
theorem dX4_tickOn_7 : decode cX4_tickOn 7 = .ok (.iadd, 1) := by decide +kernel
theorem dX4_tickOn_8 : decode cX4_tickOn 8 = .ok (.iaload, 1) := by decide +kernel
theorem dX4_tickOn_9 : decode cX4_tickOn 9 = .ok (.istore_n 3, 1) := by decide +kernel
theorem dX4_tickOn_10 : decode cX4_tickOn 10 = .ok (.iload_n 3, 1) := by decide +kernel
theorem dX4_tickOn_11 : decode cX4_tickOn 11 = .ok (.ifCond .le 48, 3) := by decide +kernel
theorem dX4_tickOn_14 : decode cX4_tickOn 14 = .ok (.aload_n 0, 1) := by decide +kernel
theorem dX4_tickOn_15 : decode cX4_tickOn 15 = .ok (.getfield 7, 3) := by decide +kernel
theorem dX4_tickOn_18 : decode cX4_tickOn 18 = .ok (.iload_n 1, 1) := by decide +kernel
theorem dX4_tickOn_19 : decode cX4_tickOn 19 = .ok (.bipush 36, 2) := by decide +kernel
theorem dX4_tickOn_21 : decode cX4_tickOn 21 = .ok (.iadd, 1) := by decide +kernel
theorem dX4_tickOn_22 : decode cX4_tickOn 22 = .ok (.iaload, 1) := by decide +kernel
theorem dX4_tickOn_23 : decode cX4_tickOn 23 = .ok (.iload_n 3, 1) := by decide +kernel
theorem dX4_tickOn_24 : decode cX4_tickOn 24 = .ok (.irem, 1) := by decide +kernel
theorem dX4_tickOn_25 : decode cX4_tickOn 25 = .ok (.aload_n 0, 1) := by decide +kernel
theorem dX4_tickOn_26 : decode cX4_tickOn 26 = .ok (.getfield 29, 3) := by decide +kernel
theorem dX4_tickOn_29 : decode cX4_tickOn 29 = .ok (.if_icmp .eq 30, 3) := by decide +kernel
theorem dX4_tickOn_32 : decode cX4_tickOn 32 = .ok (.aload_n 0, 1) := by decide +kernel
theorem dX4_tickOn_33 : decode cX4_tickOn 33 = .ok (.iload_n 1, 1) := by decide +kernel
theorem dX4_tickOn_34 : decode cX4_tickOn 34 = .ok (.aload_n 0, 1) := by decide +kernel
theorem dX4_tickOn_35 : decode cX4_tickOn 35 = .ok (.getfield 7, 3) := by decide +kernel
theorem dX4_tickOn_38 : decode cX4_tickOn 38 = .ok (.iload_n 1, 1) := by decide +kernel
theorem dX4_tickOn_39 : decode cX4_tickOn 39 = .ok (.bipush 17, 2) := by decide +kernel
theorem dX4_tickOn_41 : decode cX4_tickOn 41 = .ok (.iadd, 1) := by decide +kernel
theorem dX4_tickOn_42 : decode cX4_tickOn 42 = .ok (.aload_n 0, 1) := by decide +kernel
theorem dX4_tickOn_43 : decode cX4_tickOn 43 = .ok (.getfield 7, 3) := by decide +kernel
theorem dX4_tickOn_46 : decode cX4_tickOn 46 = .ok (.iload_n 1, 1) := by decide +kernel
theorem dX4_tickOn_47 : decode cX4_tickOn 47 = .ok (.bipush 36, 2) := by decide +kernel
theorem dX4_tickOn_49 : decode cX4_tickOn 49 = .ok (.iadd, 1) := by decide +kernel
theorem dX4_tickOn_50 : decode cX4_tickOn 50 = .ok (.iaload, 1) := by decide +kernel
theorem dX4_tickOn_51 : decode cX4_tickOn 51 = .ok (.iload_n 3, 1) := by decide +kernel
theorem dX4_tickOn_52 : decode cX4_tickOn 52 = .ok (.irem, 1) := by decide +kernel
theorem dX4_tickOn_53 : decode cX4_tickOn 53 = .ok (.iadd, 1) := by decide +kernel
theorem dX4_tickOn_54 : decode cX4_tickOn 54 = .ok (.iaload, 1) := by decide +kernel
theorem dX4_tickOn_55 : decode cX4_tickOn 55 = .ok (.iload_n 2, 1) := by decide +kernel
theorem dX4_tickOn_56 : decode cX4_tickOn 56 = .ok (.invokevirtual 137, 3) := by decide +kernel
theorem dX4_tickOn_59 : decode cX4_tickOn 59 = .ok (.aload_n 0, 1) := by decide +kernel
theorem dX4_tickOn_60 : decode cX4_tickOn 60 = .ok (.iload_n 1, 1) := by decide +kernel
theorem dX4_tickOn_61 : decode cX4_tickOn 61 = .ok (.invokevirtual 141, 3) := by decide +kernel
theorem dX4_tickOn_64 : decode cX4_tickOn 64 = .ok (.return_, 1) := by decide +kernel
theorem dX4_swingOn_0 : decode cX4_swingOn 0 = .ok (.aload_n 0, 1) := by decide +kernel
theorem dX4_swingOn_1 : decode cX4_swingOn 1 = .ok (.getfield 7, 3) := by decide +kernel
theorem dX4_swingOn_4 : decode cX4_swingOn 4 = .ok (.iload_n 1, 1) := by decide +kernel
theorem dX4_swingOn_5 : decode cX4_swingOn 5 = .ok (.bipush 35, 2) := by decide +kernel
theorem dX4_swingOn_7 : decode cX4_swingOn 7 = .ok (.iadd, 1) := by decide +kernel
theorem dX4_swingOn_8 : decode cX4_swingOn 8 = .ok (.iaload, 1) := by decide +kernel
theorem dX4_swingOn_9 : decode cX4_swingOn 9 = .ok (.istore_n 2, 1) := by decide +kernel
theorem dX4_swingOn_10 : decode cX4_swingOn 10 = .ok (.iconst 0, 1) := by decide +kernel
theorem dX4_swingOn_11 : decode cX4_swingOn 11 = .ok (.istore_n 3, 1) := by decide +kernel
theorem dX4_swingOn_12 : decode cX4_swingOn 12 = .ok (.iload_n 3, 1) := by decide +kernel
theorem dX4_swingOn_13 : decode cX4_swingOn 13 = .ok (.aload_n 0, 1) := by decide +kernel
theorem dX4_swingOn_14 : decode cX4_swingOn 14 = .ok (.getfield 7, 3) := by decide +kernel
theorem dX4_swingOn_17 : decode cX4_swingOn 17 = .ok (.iload_n 1, 1) := by decide +kernel
theorem dX4_swingOn_18 : decode cX4_swingOn 18 = .ok (.bipush 16, 2) := by decide +kernel
theorem dX4_swingOn_20 : decode cX4_swingOn 20 = .ok (.iadd, 1) := by decide +kernel
theorem dX4_swingOn_21 : decode cX4_swingOn 21 = .ok (.iaload, 1) := by decide +kernel
theorem dX4_swingOn_22 : decode cX4_swingOn 22 = .ok (.if_icmp .ge 23, 3) := by decide +kernel
theorem dX4_swingOn_25 : decode cX4_swingOn 25 = .ok (.iload_n 2, 1) := by decide +kernel
theorem dX4_swingOn_26 : decode cX4_swingOn 26 = .ok (.aload_n 0, 1) := by decide +kernel
theorem dX4_swingOn_27 : decode cX4_swingOn 27 = .ok (.getfield 7, 3) := by decide +kernel
theorem dX4_swingOn_30 : decode cX4_swingOn 30 = .ok (.iload_n 1, 1) := by decide +kernel
theorem dX4_swingOn_31 : decode cX4_swingOn 31 = .ok (.bipush 12, 2) := by decide +kernel
theorem dX4_swingOn_33 : decode cX4_swingOn 33 = .ok (.iadd, 1) := by decide +kernel
theorem dX4_swingOn_34 : decode cX4_swingOn 34 = .ok (.iload_n 3, 1) := by decide +kernel
theorem dX4_swingOn_35 : decode cX4_swingOn 35 = .ok (.iadd, 1) := by decide +kernel
theorem dX4_swingOn_36 : decode cX4_swingOn 36 = .ok (.iaload, 1) := by decide +kernel
theorem dX4_swingOn_37 : decode cX4_swingOn 37 = .ok (.iadd, 1) := by decide +kernel
theorem dX4_swingOn_38 : decode cX4_swingOn 38 = .ok (.istore_n 2, 1) := by decide +kernel
theorem dX4_swingOn_39 : decode cX4_swingOn 39 = .ok (.iinc 3 1, 3) := by decide +kernel
theorem dX4_swingOn_42 : decode cX4_swingOn 42 = .ok (.goto (-30), 3) := by decide +kernel
theorem dX4_swingOn_45 : decode cX4_swingOn 45 = .ok (.iload_n 2, 1) := by decide +kernel
theorem dX4_swingOn_46 : decode cX4_swingOn 46 = .ok (.ireturn, 1) := by decide +kernel
theorem dX4_rule_0 : decode cX4_rule 0 = .ok (.aload_n 0, 1) := by decide +kernel
theorem dX4_rule_1 : decode cX4_rule 1 = .ok (.getfield 7, 3) := by decide +kernel
theorem dX4_rule_4 : decode cX4_rule 4 = .ok (.bipush 33, 2) := by decide +kernel
theorem dX4_rule_6 : decode cX4_rule 6 = .ok (.iaload, 1) := by decide +kernel
theorem dX4_rule_7 : decode cX4_rule 7 = .ok (.istore_n 2, 1) := by decide +kernel
theorem dX4_rule_8 : decode cX4_rule 8 = .ok (.iload_n 1, 1) := by decide +kernel
theorem dX4_rule_9 : decode cX4_rule 9 = .ok (.tableswitch 136 0 8 #[51, 59, 61, 69, 77, 85, 95, 103, 109], 51) := by decide +kernel
theorem dX4_rule_60 : decode cX4_rule 60 = .ok (.aload_n 0, 1) := by decide +kernel
theorem dX4_rule_61 : decode cX4_rule 61 = .ok (.getfield 7, 3) := by decide +kernel
theorem dX4_rule_64 : decode cX4_rule 64 = .ok (.bipush 16, 2) := by decide +kernel
theorem dX4_rule_66 : decode cX4_rule 66 = .ok (.iaload, 1) := by decide +kernel
theorem dX4_rule_67 : decode cX4_rule 67 = .ok (.ireturn, 1) := by decide +kernel
theorem dX4_rule_68 : decode cX4_rule 68 = .ok (.iload_n 2, 1) := by decide +kernel
theorem dX4_rule_69 : decode cX4_rule 69 = .ok (.ireturn, 1) := by decide +kernel
theorem dX4_rule_70 : decode cX4_rule 70 = .ok (.aload_n 0, 1) := by decide +kernel
theorem dX4_rule_71 : decode cX4_rule 71 = .ok (.getfield 7, 3) := by decide +kernel
theorem dX4_rule_74 : decode cX4_rule 74 = .ok (.bipush 36, 2) := by decide +kernel
theorem dX4_rule_76 : decode cX4_rule 76 = .ok (.iaload, 1) := by decide +kernel
theorem dX4_rule_77 : decode cX4_rule 77 = .ok (.ireturn, 1) := by decide +kernel
theorem dX4_rule_78 : decode cX4_rule 78 = .ok (.aload_n 0, 1) := by decide +kernel
theorem dX4_rule_79 : decode cX4_rule 79 = .ok (.getfield 7, 3) := by decide +kernel
theorem dX4_rule_82 : decode cX4_rule 82 = .ok (.bipush 37, 2) := by decide +kernel
theorem dX4_rule_84 : decode cX4_rule 84 = .ok (.iaload, 1) := by decide +kernel
theorem dX4_rule_85 : decode cX4_rule 85 = .ok (.ireturn, 1) := by decide +kernel
theorem dX4_rule_86 : decode cX4_rule 86 = .ok (.aload_n 0, 1) := by decide +kernel
theorem dX4_rule_87 : decode cX4_rule 87 = .ok (.getfield 7, 3) := by decide +kernel
theorem dX4_rule_90 : decode cX4_rule 90 = .ok (.bipush 38, 2) := by decide +kernel
theorem dX4_rule_92 : decode cX4_rule 92 = .ok (.iaload, 1) := by decide +kernel
theorem dX4_rule_93 : decode cX4_rule 93 = .ok (.ireturn, 1) := by decide +kernel
theorem dX4_rule_94 : decode cX4_rule 94 = .ok (.aload_n 0, 1) := by decide +kernel
theorem dX4_rule_95 : decode cX4_rule 95 = .ok (.getfield 7, 3) := by decide +kernel
theorem dX4_rule_98 : decode cX4_rule 98 = .ok (.bipush 34, 2) := by decide +kernel
theorem dX4_rule_100 : decode cX4_rule 100 = .ok (.iaload, 1) := by decide +kernel
theorem dX4_rule_101 : decode cX4_rule 101 = .ok (.iconst 5, 1) := by decide +kernel
theorem dX4_rule_102 : decode cX4_rule 102 = .ok (.iadd, 1) := by decide +kernel
theorem dX4_rule_103 : decode cX4_rule 103 = .ok (.ireturn, 1) := by decide +kernel
theorem dX4_rule_104 : decode cX4_rule 104 = .ok (.aload_n 0, 1) := by decide +kernel
theorem dX4_rule_105 : decode cX4_rule 105 = .ok (.getfield 7, 3) := by decide +kernel
theorem dX4_rule_108 : decode cX4_rule 108 = .ok (.bipush 35, 2) := by decide +kernel
theorem dX4_rule_110 : decode cX4_rule 110 = .ok (.iaload, 1) := by decide +kernel
theorem dX4_rule_111 : decode cX4_rule 111 = .ok (.ireturn, 1) := by decide +kernel
theorem dX4_rule_112 : decode cX4_rule 112 = .ok (.aload_n 0, 1) := by decide +kernel
theorem dX4_rule_113 : decode cX4_rule 113 = .ok (.iconst 0, 1) := by decide +kernel
theorem dX4_rule_114 : decode cX4_rule 114 = .ok (.invokevirtual 131, 3) := by decide +kernel
theorem dX4_rule_117 : decode cX4_rule 117 = .ok (.ireturn, 1) := by decide +kernel
theorem dX4_rule_118 : decode cX4_rule 118 = .ok (.iload_n 2, 1) := by decide +kernel
theorem dX4_rule_119 : decode cX4_rule 119 = .ok (.ifCond .ne 8, 3) := by decide +kernel
theorem dX4_rule_122 : decode cX4_rule 122 = .ok (.bipush (-4), 2) := by decide +kernel
theorem dX4_rule_124 : decode cX4_rule 124 = .ok (.goto 20, 3) := by decide +kernel
theorem dX4_rule_127 : decode cX4_rule 127 = .ok (.aload_n 0, 1) := by decide +kernel
theorem dX4_rule_128 : decode cX4_rule 128 = .ok (.getfield 7, 3) := by decide +kernel
theorem dX4_rule_131 : decode cX4_rule 131 = .ok (.bipush 17, 2) := by decide +kernel
theorem dX4_rule_133 : decode cX4_rule 133 = .ok (.aload_n 0, 1) := by decide +kernel
theorem dX4_rule_134 : decode cX4_rule 134 = .ok (.getfield 7, 3) := by decide +kernel
theorem dX4_rule_137 : decode cX4_rule 137 = .ok (.bipush 36, 2) := by decide +kernel
theorem dX4_rule_139 : decode cX4_rule 139 = .ok (.iaload, 1) := by decide +kernel
theorem dX4_rule_140 : decode cX4_rule 140 = .ok (.iload_n 2, 1) := by decide +kernel
theorem dX4_rule_141 : decode cX4_rule 141 = .ok (.irem, 1) := by decide +kernel
theorem dX4_rule_142 : decode cX4_rule 142 = .ok (.iadd, 1) := by decide +kernel
theorem dX4_rule_143 : decode cX4_rule 143 = .ok (.iaload, 1) := by decide +kernel
theorem dX4_rule_144 : decode cX4_rule 144 = .ok (.ireturn, 1) := by decide +kernel
theorem dX4_rule_145 : decode cX4_rule 145 = .ok (.iconst (-1), 1) := by decide +kernel
theorem dX4_rule_146 : decode cX4_rule 146 = .ok (.ireturn, 1) := by decide +kernel
theorem dX4_wheel_0 : decode cX4_wheel 0 = .ok (.aload_n 0, 1) := by decide +kernel
theorem dX4_wheel_1 : decode cX4_wheel 1 = .ok (.iload_n 1, 1) := by decide +kernel
theorem dX4_wheel_2 : decode cX4_wheel 2 = .ok (.invokevirtual 144, 3) := by decide +kernel
theorem dX4_wheel_5 : decode cX4_wheel 5 = .ok (.ifCond .eq 15, 3) := by decide +kernel
theorem dX4_wheel_8 : decode cX4_wheel 8 = .ok (.iload_n 2, 1) := by decide +kernel
theorem dX4_wheel_9 : decode cX4_wheel 9 = .ok (.i2l, 1) := by decide +kernel
theorem dX4_wheel_10 : decode cX4_wheel 10 = .ok (.lconst 0, 1) := by decide +kernel
theorem dX4_wheel_11 : decode cX4_wheel 11 = .ok (.ldc2_w 148, 3) := by decide +kernel
theorem dX4_wheel_14 : decode cX4_wheel 14 = .ok (.invokestatic 53, 3) := by decide +kernel
theorem dX4_wheel_17 : decode cX4_wheel 17 = .ok (.ifCond .ne 5, 3) := by decide +kernel
theorem dX4_wheel_20 : decode cX4_wheel 20 = .ok (.iconst (-1), 1) := by decide +kernel
theorem dX4_wheel_21 : decode cX4_wheel 21 = .ok (.ireturn, 1) := by decide +kernel
theorem dX4_wheel_22 : decode cX4_wheel 22 = .ok (.iload_n 2, 1) := by decide +kernel
theorem dX4_wheel_23 : decode cX4_wheel 23 = .ok (.iconst 4, 1) := by decide +kernel
theorem dX4_wheel_24 : decode cX4_wheel 24 = .ok (.if_icmp .ge 16, 3) := by decide +kernel
theorem dX4_wheel_27 : decode cX4_wheel 27 = .ok (.aload_n 0, 1) := by decide +kernel
theorem dX4_wheel_28 : decode cX4_wheel 28 = .ok (.getfield 7, 3) := by decide +kernel
theorem dX4_wheel_31 : decode cX4_wheel 31 = .ok (.iconst 4, 1) := by decide +kernel
theorem dX4_wheel_32 : decode cX4_wheel 32 = .ok (.iload_n 2, 1) := by decide +kernel
theorem dX4_wheel_33 : decode cX4_wheel 33 = .ok (.imul, 1) := by decide +kernel
theorem dX4_wheel_34 : decode cX4_wheel 34 = .ok (.iload_n 1, 1) := by decide +kernel
theorem dX4_wheel_35 : decode cX4_wheel 35 = .ok (.iadd, 1) := by decide +kernel
theorem dX4_wheel_36 : decode cX4_wheel 36 = .ok (.iaload, 1) := by decide +kernel
theorem dX4_wheel_37 : decode cX4_wheel 37 = .ok (.goto 35, 3) := by decide +kernel
theorem dX4_wheel_40 : decode cX4_wheel 40 = .ok (.iload_n 2, 1) := by decide +kernel
theorem dX4_wheel_41 : decode cX4_wheel 41 = .ok (.iconst 4, 1) := by decide +kernel
theorem dX4_wheel_42 : decode cX4_wheel 42 = .ok (.if_icmp .ne 24, 3) := by decide +kernel
theorem dX4_wheel_45 : decode cX4_wheel 45 = .ok (.aload_n 0, 1) := by decide +kernel
theorem dX4_wheel_46 : decode cX4_wheel 46 = .ok (.getfield 7, 3) := by decide +kernel
theorem dX4_wheel_49 : decode cX4_wheel 49 = .ok (.bipush 12, 2) := by decide +kernel
theorem dX4_wheel_51 : decode cX4_wheel 51 = .ok (.iload_n 1, 1) := by decide +kernel
theorem dX4_wheel_52 : decode cX4_wheel 52 = .ok (.iadd, 1) := by decide +kernel
theorem dX4_wheel_53 : decode cX4_wheel 53 = .ok (.iaload, 1) := by decide +kernel
theorem dX4_wheel_54 : decode cX4_wheel 54 = .ok (.aload_n 0, 1) := by decide +kernel
theorem dX4_wheel_55 : decode cX4_wheel 55 = .ok (.getfield 7, 3) := by decide +kernel
theorem dX4_wheel_58 : decode cX4_wheel 58 = .ok (.iconst 4, 1) := by decide +kernel
theorem dX4_wheel_59 : decode cX4_wheel 59 = .ok (.iload_n 1, 1) := by decide +kernel
theorem dX4_wheel_60 : decode cX4_wheel 60 = .ok (.iadd, 1) := by decide +kernel
theorem dX4_wheel_61 : decode cX4_wheel 61 = .ok (.iaload, 1) := by decide +kernel
theorem dX4_wheel_62 : decode cX4_wheel 62 = .ok (.idiv, 1) := by decide +kernel
theorem dX4_wheel_63 : decode cX4_wheel 63 = .ok (.goto 9, 3) := by decide +kernel
theorem dX4_wheel_66 : decode cX4_wheel 66 = .ok (.aload_n 0, 1) := by decide +kernel
theorem dX4_wheel_67 : decode cX4_wheel 67 = .ok (.iconst 0, 1) := by decide +kernel
theorem dX4_wheel_68 : decode cX4_wheel 68 = .ok (.iload_n 1, 1) := by decide +kernel
theorem dX4_wheel_69 : decode cX4_wheel 69 = .ok (.invokevirtual 125, 3) := by decide +kernel
theorem dX4_wheel_72 : decode cX4_wheel 72 = .ok (.ireturn, 1) := by decide +kernel
theorem dX4_act_0 : decode cX4_act 0 = .ok (.aload_n 0, 1) := by decide +kernel
theorem dX4_act_1 : decode cX4_act 1 = .ok (.iload_n 1, 1) := by decide +kernel
theorem dX4_act_2 : decode cX4_act 2 = .ok (.invokevirtual 150, 3) := by decide +kernel
theorem dX4_act_5 : decode cX4_act 5 = .ok (.ifCond .eq 15, 3) := by decide +kernel
theorem dX4_act_8 : decode cX4_act 8 = .ok (.aload_n 0, 1) := by decide +kernel
theorem dX4_act_9 : decode cX4_act 9 = .ok (.getfield 7, 3) := by decide +kernel
theorem dX4_act_12 : decode cX4_act 12 = .ok (.bipush 17, 2) := by decide +kernel
theorem dX4_act_14 : decode cX4_act 14 = .ok (.iload_n 1, 1) := by decide +kernel
theorem dX4_act_15 : decode cX4_act 15 = .ok (.iadd, 1) := by decide +kernel
theorem dX4_act_16 : decode cX4_act 16 = .ok (.iaload, 1) := by decide +kernel
theorem dX4_act_17 : decode cX4_act 17 = .ok (.goto 4, 3) := by decide +kernel
theorem dX4_act_20 : decode cX4_act 20 = .ok (.iconst (-1), 1) := by decide +kernel
theorem dX4_act_21 : decode cX4_act 21 = .ok (.ireturn, 1) := by decide +kernel
theorem dX4_puts_0 : decode cX4_puts 0 = .ok (.iload_n 1, 1) := by decide +kernel
theorem dX4_puts_1 : decode cX4_puts 1 = .ok (.ifCond .ne 5, 3) := by decide +kernel
theorem dX4_puts_4 : decode cX4_puts 4 = .ok (.iconst (-1), 1) := by decide +kernel
theorem dX4_puts_5 : decode cX4_puts 5 = .ok (.ireturn, 1) := by decide +kernel
theorem dX4_puts_6 : decode cX4_puts 6 = .ok (.aload_n 0, 1) := by decide +kernel
theorem dX4_puts_7 : decode cX4_puts 7 = .ok (.getfield 7, 3) := by decide +kernel
theorem dX4_puts_10 : decode cX4_puts 10 = .ok (.iload_n 2, 1) := by decide +kernel
theorem dX4_puts_11 : decode cX4_puts 11 = .ok (.iaload, 1) := by decide +kernel
theorem dX4_puts_12 : decode cX4_puts 12 = .ok (.iload 4, 2) := by decide +kernel
theorem dX4_puts_14 : decode cX4_puts 14 = .ok (.iadd, 1) := by decide +kernel
theorem dX4_puts_15 : decode cX4_puts 15 = .ok (.istore 5, 2) := by decide +kernel
theorem dX4_puts_17 : decode cX4_puts 17 = .ok (.aload_n 0, 1) := by decide +kernel
theorem dX4_puts_18 : decode cX4_puts 18 = .ok (.getfield 7, 3) := by decide +kernel
theorem dX4_puts_21 : decode cX4_puts 21 = .ok (.iload_n 2, 1) := by decide +kernel
theorem dX4_puts_22 : decode cX4_puts 22 = .ok (.iload_n 3, 1) := by decide +kernel
theorem dX4_puts_23 : decode cX4_puts 23 = .ok (.iload 4, 2) := by decide +kernel
theorem dX4_puts_25 : decode cX4_puts 25 = .ok (.isub, 1) := by decide +kernel
theorem dX4_puts_26 : decode cX4_puts 26 = .ok (.iastore, 1) := by decide +kernel
theorem dX4_puts_27 : decode cX4_puts 27 = .ok (.iload 5, 2) := by decide +kernel
theorem dX4_puts_29 : decode cX4_puts 29 = .ok (.ireturn, 1) := by decide +kernel
theorem dX4_alter_0 : decode cX4_alter 0 = .ok (.iload_n 2, 1) := by decide +kernel
theorem dX4_alter_1 : decode cX4_alter 1 = .ok (.ifCond .ne 15, 3) := by decide +kernel
theorem dX4_alter_4 : decode cX4_alter 4 = .ok (.iload_n 3, 1) := by decide +kernel
theorem dX4_alter_5 : decode cX4_alter 5 = .ok (.i2l, 1) := by decide +kernel
theorem dX4_alter_6 : decode cX4_alter 6 = .ok (.lconst 0, 1) := by decide +kernel
theorem dX4_alter_7 : decode cX4_alter 7 = .ok (.ldc2_w 153, 3) := by decide +kernel
theorem dX4_alter_10 : decode cX4_alter 10 = .ok (.invokestatic 53, 3) := by decide +kernel
theorem dX4_alter_13 : decode cX4_alter 13 = .ok (.goto 59, 3) := by decide +kernel
theorem dX4_alter_16 : decode cX4_alter 16 = .ok (.iload_n 2, 1) := by decide +kernel
theorem dX4_alter_17 : decode cX4_alter 17 = .ok (.iconst 1, 1) := by decide +kernel
theorem dX4_alter_18 : decode cX4_alter 18 = .ok (.if_icmp .ne 15, 3) := by decide +kernel
theorem dX4_alter_21 : decode cX4_alter 21 = .ok (.iload_n 3, 1) := by decide +kernel
theorem dX4_alter_22 : decode cX4_alter 22 = .ok (.i2l, 1) := by decide +kernel
theorem dX4_alter_23 : decode cX4_alter 23 = .ok (.lconst 1, 1) := by decide +kernel
theorem dX4_alter_24 : decode cX4_alter 24 = .ok (.ldc2_w 155, 3) := by decide +kernel
theorem dX4_alter_27 : decode cX4_alter 27 = .ok (.invokestatic 53, 3) := by decide +kernel
theorem dX4_alter_30 : decode cX4_alter 30 = .ok (.goto 42, 3) := by decide +kernel
theorem dX4_alter_33 : decode cX4_alter 33 = .ok (.iload_n 2, 1) := by decide +kernel
theorem dX4_alter_34 : decode cX4_alter 34 = .ok (.iconst 2, 1) := by decide +kernel
theorem dX4_alter_35 : decode cX4_alter 35 = .ok (.if_icmp .ne 15, 3) := by decide +kernel
theorem dX4_alter_38 : decode cX4_alter 38 = .ok (.iload_n 3, 1) := by decide +kernel
theorem dX4_alter_39 : decode cX4_alter 39 = .ok (.i2l, 1) := by decide +kernel
theorem dX4_alter_40 : decode cX4_alter 40 = .ok (.lconst 0, 1) := by decide +kernel
theorem dX4_alter_41 : decode cX4_alter 41 = .ok (.ldc2_w 157, 3) := by decide +kernel
theorem dX4_alter_44 : decode cX4_alter 44 = .ok (.invokestatic 53, 3) := by decide +kernel
theorem dX4_alter_47 : decode cX4_alter 47 = .ok (.goto 25, 3) := by decide +kernel
theorem dX4_alter_50 : decode cX4_alter 50 = .ok (.iload_n 2, 1) := by decide +kernel
theorem dX4_alter_51 : decode cX4_alter 51 = .ok (.iconst 3, 1) := by decide +kernel
theorem dX4_alter_52 : decode cX4_alter 52 = .ok (.if_icmp .ne 19, 3) := by decide +kernel
theorem dX4_alter_55 : decode cX4_alter 55 = .ok (.iload_n 3, 1) := by decide +kernel
theorem dX4_alter_56 : decode cX4_alter 56 = .ok (.i2l, 1) := by decide +kernel
theorem dX4_alter_57 : decode cX4_alter 57 = .ok (.lconst 0, 1) := by decide +kernel
theorem dX4_alter_58 : decode cX4_alter 58 = .ok (.ldc2_w 159, 3) := by decide +kernel
theorem dX4_alter_61 : decode cX4_alter 61 = .ok (.invokestatic 53, 3) := by decide +kernel
theorem dX4_alter_64 : decode cX4_alter 64 = .ok (.ifCond .eq 7, 3) := by decide +kernel
theorem dX4_alter_67 : decode cX4_alter 67 = .ok (.iconst 1, 1) := by decide +kernel
theorem dX4_alter_68 : decode cX4_alter 68 = .ok (.goto 4, 3) := by decide +kernel
theorem dX4_alter_71 : decode cX4_alter 71 = .ok (.iconst 0, 1) := by decide +kernel
theorem dX4_alter_72 : decode cX4_alter 72 = .ok (.istore 4, 2) := by decide +kernel
theorem dX4_alter_74 : decode cX4_alter 74 = .ok (.aload_n 0, 1) := by decide +kernel
theorem dX4_alter_75 : decode cX4_alter 75 = .ok (.aload_n 0, 1) := by decide +kernel
theorem dX4_alter_76 : decode cX4_alter 76 = .ok (.iload_n 1, 1) := by decide +kernel
theorem dX4_alter_77 : decode cX4_alter 77 = .ok (.invokevirtual 144, 3) := by decide +kernel
theorem dX4_alter_80 : decode cX4_alter 80 = .ok (.ifCond .eq 12, 3) := by decide +kernel
theorem dX4_alter_83 : decode cX4_alter 83 = .ok (.iload 4, 2) := by decide +kernel
theorem dX4_alter_85 : decode cX4_alter 85 = .ok (.ifCond .eq 7, 3) := by decide +kernel
theorem dX4_alter_88 : decode cX4_alter 88 = .ok (.iconst 1, 1) := by decide +kernel
theorem dX4_alter_89 : decode cX4_alter 89 = .ok (.goto 4, 3) := by decide +kernel
theorem dX4_alter_92 : decode cX4_alter 92 = .ok (.iconst 0, 1) := by decide +kernel
theorem dX4_alter_93 : decode cX4_alter 93 = .ok (.iconst 4, 1) := by decide +kernel
theorem dX4_alter_94 : decode cX4_alter 94 = .ok (.iload_n 2, 1) := by decide +kernel
theorem dX4_alter_95 : decode cX4_alter 95 = .ok (.imul, 1) := by decide +kernel
theorem dX4_alter_96 : decode cX4_alter 96 = .ok (.iload_n 1, 1) := by decide +kernel
theorem dX4_alter_97 : decode cX4_alter 97 = .ok (.iadd, 1) := by decide +kernel
theorem dX4_alter_98 : decode cX4_alter 98 = .ok (.iload_n 3, 1) := by decide +kernel
theorem dX4_alter_99 : decode cX4_alter 99 = .ok (.iconst 0, 1) := by decide +kernel
theorem dX4_alter_100 : decode cX4_alter 100 = .ok (.invokevirtual 161, 3) := by decide +kernel
theorem dX4_alter_103 : decode cX4_alter 103 = .ok (.ireturn, 1) := by decide +kernel
theorem dX4_shaft_0 : decode cX4_shaft 0 = .ok (.aload_n 0, 1) := by decide +kernel
theorem dX4_shaft_1 : decode cX4_shaft 1 = .ok (.iload_n 1, 1) := by decide +kernel
theorem dX4_shaft_2 : decode cX4_shaft 2 = .ok (.i2l, 1) := by decide +kernel
theorem dX4_shaft_3 : decode cX4_shaft 3 = .ok (.lconst 1, 1) := by decide +kernel
theorem dX4_shaft_4 : decode cX4_shaft 4 = .ok (.ldc2_w 155, 3) := by decide +kernel
theorem dX4_shaft_7 : decode cX4_shaft 7 = .ok (.invokestatic 53, 3) := by decide +kernel
theorem dX4_shaft_10 : decode cX4_shaft 10 = .ok (.bipush 34, 2) := by decide +kernel
theorem dX4_shaft_12 : decode cX4_shaft 12 = .ok (.iload_n 1, 1) := by decide +kernel
theorem dX4_shaft_13 : decode cX4_shaft 13 = .ok (.iconst 5, 1) := by decide +kernel
theorem dX4_shaft_14 : decode cX4_shaft 14 = .ok (.invokevirtual 161, 3) := by decide +kernel
theorem dX4_shaft_17 : decode cX4_shaft 17 = .ok (.ireturn, 1) := by decide +kernel
theorem dX4_put_0 : decode cX4_put 0 = .ok (.iload_n 1, 1) := by decide +kernel
theorem dX4_put_1 : decode cX4_put 1 = .ok (.i2l, 1) := by decide +kernel
theorem dX4_put_2 : decode cX4_put 2 = .ok (.lconst 0, 1) := by decide +kernel
theorem dX4_put_3 : decode cX4_put 3 = .ok (.ldc2_w 153, 3) := by decide +kernel
theorem dX4_put_6 : decode cX4_put 6 = .ok (.invokestatic 53, 3) := by decide +kernel
theorem dX4_put_9 : decode cX4_put 9 = .ok (.ifCond .eq 27, 3) := by decide +kernel
theorem dX4_put_12 : decode cX4_put 12 = .ok (.iload_n 2, 1) := by decide +kernel
theorem dX4_put_13 : decode cX4_put 13 = .ok (.i2l, 1) := by decide +kernel
theorem dX4_put_14 : decode cX4_put 14 = .ok (.lconst 1, 1) := by decide +kernel
theorem dX4_put_15 : decode cX4_put 15 = .ok (.ldc2_w 155, 3) := by decide +kernel
theorem dX4_put_18 : decode cX4_put 18 = .ok (.invokestatic 53, 3) := by decide +kernel
theorem dX4_put_21 : decode cX4_put 21 = .ok (.ifCond .eq 15, 3) := by decide +kernel
theorem dX4_put_24 : decode cX4_put 24 = .ok (.iload_n 3, 1) := by decide +kernel
theorem dX4_put_25 : decode cX4_put 25 = .ok (.i2l, 1) := by decide +kernel
theorem dX4_put_26 : decode cX4_put 26 = .ok (.lconst 0, 1) := by decide +kernel
theorem dX4_put_27 : decode cX4_put 27 = .ok (.ldc2_w 157, 3) := by decide +kernel
theorem dX4_put_30 : decode cX4_put 30 = .ok (.invokestatic 53, 3) := by decide +kernel
theorem dX4_put_33 : decode cX4_put 33 = .ok (.ifCond .ne 5, 3) := by decide +kernel
theorem dX4_put_36 : decode cX4_put 36 = .ok (.iconst (-1), 1) := by decide +kernel
theorem dX4_put_37 : decode cX4_put 37 = .ok (.ireturn, 1) := by decide +kernel
theorem dX4_put_38 : decode cX4_put 38 = .ok (.aload_n 0, 1) := by decide +kernel
theorem dX4_put_39 : decode cX4_put 39 = .ok (.getfield 7, 3) := by decide +kernel
theorem dX4_put_42 : decode cX4_put 42 = .ok (.bipush 16, 2) := by decide +kernel
theorem dX4_put_44 : decode cX4_put 44 = .ok (.iaload, 1) := by decide +kernel
theorem dX4_put_45 : decode cX4_put 45 = .ok (.istore 4, 2) := by decide +kernel
theorem dX4_put_47 : decode cX4_put 47 = .ok (.iload 4, 2) := by decide +kernel
theorem dX4_put_49 : decode cX4_put 49 = .ok (.iconst 4, 1) := by decide +kernel
theorem dX4_put_50 : decode cX4_put 50 = .ok (.if_icmp .ne 6, 3) := by decide +kernel
theorem dX4_put_53 : decode cX4_put 53 = .ok (.bipush (-3), 2) := by decide +kernel
theorem dX4_put_55 : decode cX4_put 55 = .ok (.ireturn, 1) := by decide +kernel
theorem dX4_put_56 : decode cX4_put 56 = .ok (.aload_n 0, 1) := by decide +kernel
theorem dX4_put_57 : decode cX4_put 57 = .ok (.getfield 7, 3) := by decide +kernel
theorem dX4_put_60 : decode cX4_put 60 = .ok (.iload 4, 2) := by decide +kernel
theorem dX4_put_62 : decode cX4_put 62 = .ok (.iload_n 1, 1) := by decide +kernel
theorem dX4_put_63 : decode cX4_put 63 = .ok (.iastore, 1) := by decide +kernel
theorem dX4_put_64 : decode cX4_put 64 = .ok (.aload_n 0, 1) := by decide +kernel
theorem dX4_put_65 : decode cX4_put 65 = .ok (.getfield 7, 3) := by decide +kernel
theorem dX4_put_68 : decode cX4_put 68 = .ok (.iconst 4, 1) := by decide +kernel
theorem dX4_put_69 : decode cX4_put 69 = .ok (.iload 4, 2) := by decide +kernel
theorem dX4_put_71 : decode cX4_put 71 = .ok (.iadd, 1) := by decide +kernel
theorem dX4_put_72 : decode cX4_put 72 = .ok (.iload_n 2, 1) := by decide +kernel
theorem dX4_put_73 : decode cX4_put 73 = .ok (.iastore, 1) := by decide +kernel
theorem dX4_put_74 : decode cX4_put 74 = .ok (.aload_n 0, 1) := by decide +kernel
theorem dX4_put_75 : decode cX4_put 75 = .ok (.getfield 7, 3) := by decide +kernel
theorem dX4_put_78 : decode cX4_put 78 = .ok (.bipush 8, 2) := by decide +kernel
theorem dX4_put_80 : decode cX4_put 80 = .ok (.iload 4, 2) := by decide +kernel
theorem dX4_put_82 : decode cX4_put 82 = .ok (.iadd, 1) := by decide +kernel
theorem dX4_put_83 : decode cX4_put 83 = .ok (.iload_n 3, 1) := by decide +kernel
theorem dX4_put_84 : decode cX4_put 84 = .ok (.iastore, 1) := by decide +kernel
theorem dX4_put_85 : decode cX4_put 85 = .ok (.aload_n 0, 1) := by decide +kernel
theorem dX4_put_86 : decode cX4_put 86 = .ok (.getfield 7, 3) := by decide +kernel
theorem dX4_put_89 : decode cX4_put 89 = .ok (.bipush 12, 2) := by decide +kernel
theorem dX4_put_91 : decode cX4_put 91 = .ok (.iload 4, 2) := by decide +kernel
theorem dX4_put_93 : decode cX4_put 93 = .ok (.iadd, 1) := by decide +kernel
theorem dX4_put_94 : decode cX4_put 94 = .ok (.iconst 0, 1) := by decide +kernel
theorem dX4_put_95 : decode cX4_put 95 = .ok (.iastore, 1) := by decide +kernel
theorem dX4_put_96 : decode cX4_put 96 = .ok (.aload_n 0, 1) := by decide +kernel
theorem dX4_put_97 : decode cX4_put 97 = .ok (.getfield 7, 3) := by decide +kernel
theorem dX4_put_100 : decode cX4_put 100 = .ok (.bipush 16, 2) := by decide +kernel
theorem dX4_put_102 : decode cX4_put 102 = .ok (.dup2, 1) := by decide +kernel
theorem dX4_put_103 : decode cX4_put 103 = .ok (.iaload, 1) := by decide +kernel
theorem dX4_put_104 : decode cX4_put 104 = .ok (.iconst 1, 1) := by decide +kernel
theorem dX4_put_105 : decode cX4_put 105 = .ok (.iadd, 1) := by decide +kernel
theorem dX4_put_106 : decode cX4_put 106 = .ok (.iastore, 1) := by decide +kernel
theorem dX4_put_107 : decode cX4_put 107 = .ok (.aload_n 0, 1) := by decide +kernel
theorem dX4_put_108 : decode cX4_put 108 = .ok (.getfield 7, 3) := by decide +kernel
theorem dX4_put_111 : decode cX4_put 111 = .ok (.bipush 16, 2) := by decide +kernel
theorem dX4_put_113 : decode cX4_put 113 = .ok (.iaload, 1) := by decide +kernel
theorem dX4_put_114 : decode cX4_put 114 = .ok (.ireturn, 1) := by decide +kernel
theorem dX4_cut_0 : decode cX4_cut 0 = .ok (.aload_n 0, 1) := by decide +kernel
theorem dX4_cut_1 : decode cX4_cut 1 = .ok (.iload_n 1, 1) := by decide +kernel
theorem dX4_cut_2 : decode cX4_cut 2 = .ok (.i2l, 1) := by decide +kernel
theorem dX4_cut_3 : decode cX4_cut 3 = .ok (.lconst 0, 1) := by decide +kernel
theorem dX4_cut_4 : decode cX4_cut 4 = .ok (.aload_n 0, 1) := by decide +kernel
theorem dX4_cut_5 : decode cX4_cut 5 = .ok (.getfield 7, 3) := by decide +kernel
theorem dX4_cut_8 : decode cX4_cut 8 = .ok (.bipush 16, 2) := by decide +kernel
theorem dX4_cut_10 : decode cX4_cut 10 = .ok (.iaload, 1) := by decide +kernel
theorem dX4_cut_11 : decode cX4_cut 11 = .ok (.i2l, 1) := by decide +kernel
theorem dX4_cut_12 : decode cX4_cut 12 = .ok (.invokestatic 53, 3) := by decide +kernel
theorem dX4_cut_15 : decode cX4_cut 15 = .ok (.bipush 16, 2) := by decide +kernel
theorem dX4_cut_17 : decode cX4_cut 17 = .ok (.iload_n 1, 1) := by decide +kernel
theorem dX4_cut_18 : decode cX4_cut 18 = .ok (.iconst 0, 1) := by decide +kernel
theorem dX4_cut_19 : decode cX4_cut 19 = .ok (.invokevirtual 161, 3) := by decide +kernel
theorem dX4_cut_22 : decode cX4_cut 22 = .ok (.ireturn, 1) := by decide +kernel
theorem dX4_set_0 : decode cX4_set 0 = .ok (.aload_n 0, 1) := by decide +kernel
theorem dX4_set_1 : decode cX4_set 1 = .ok (.aload_n 0, 1) := by decide +kernel
theorem dX4_set_2 : decode cX4_set 2 = .ok (.iload_n 1, 1) := by decide +kernel
theorem dX4_set_3 : decode cX4_set 3 = .ok (.invokevirtual 150, 3) := by decide +kernel
theorem dX4_set_6 : decode cX4_set 6 = .ok (.ifCond .eq 19, 3) := by decide +kernel
theorem dX4_set_9 : decode cX4_set 9 = .ok (.iload_n 2, 1) := by decide +kernel
theorem dX4_set_10 : decode cX4_set 10 = .ok (.i2l, 1) := by decide +kernel
theorem dX4_set_11 : decode cX4_set 11 = .ok (.lconst 0, 1) := by decide +kernel
theorem dX4_set_12 : decode cX4_set 12 = .ok (.ldc2_w 165, 3) := by decide +kernel
theorem dX4_set_15 : decode cX4_set 15 = .ok (.invokestatic 53, 3) := by decide +kernel
theorem dX4_set_18 : decode cX4_set 18 = .ok (.ifCond .eq 7, 3) := by decide +kernel
theorem dX4_set_21 : decode cX4_set 21 = .ok (.iconst 1, 1) := by decide +kernel
theorem dX4_set_22 : decode cX4_set 22 = .ok (.goto 4, 3) := by decide +kernel
theorem dX4_set_25 : decode cX4_set 25 = .ok (.iconst 0, 1) := by decide +kernel
theorem dX4_set_26 : decode cX4_set 26 = .ok (.bipush 17, 2) := by decide +kernel
theorem dX4_set_28 : decode cX4_set 28 = .ok (.iload_n 1, 1) := by decide +kernel
theorem dX4_set_29 : decode cX4_set 29 = .ok (.iadd, 1) := by decide +kernel
theorem dX4_set_30 : decode cX4_set 30 = .ok (.iload_n 2, 1) := by decide +kernel
theorem dX4_set_31 : decode cX4_set 31 = .ok (.iconst 0, 1) := by decide +kernel
theorem dX4_set_32 : decode cX4_set 32 = .ok (.invokevirtual 161, 3) := by decide +kernel
theorem dX4_set_35 : decode cX4_set 35 = .ok (.ireturn, 1) := by decide +kernel
theorem dX4_adds_0 : decode cX4_adds 0 = .ok (.iload_n 1, 1) := by decide +kernel
theorem dX4_adds_1 : decode cX4_adds 1 = .ok (.i2l, 1) := by decide +kernel
theorem dX4_adds_2 : decode cX4_adds 2 = .ok (.lconst 0, 1) := by decide +kernel
theorem dX4_adds_3 : decode cX4_adds 3 = .ok (.ldc2_w 165, 3) := by decide +kernel
theorem dX4_adds_6 : decode cX4_adds 6 = .ok (.invokestatic 53, 3) := by decide +kernel
theorem dX4_adds_9 : decode cX4_adds 9 = .ok (.ifCond .ne 5, 3) := by decide +kernel
theorem dX4_adds_12 : decode cX4_adds 12 = .ok (.iconst (-1), 1) := by decide +kernel
theorem dX4_adds_13 : decode cX4_adds 13 = .ok (.ireturn, 1) := by decide +kernel
theorem dX4_adds_14 : decode cX4_adds 14 = .ok (.aload_n 0, 1) := by decide +kernel
theorem dX4_adds_15 : decode cX4_adds 15 = .ok (.getfield 7, 3) := by decide +kernel
theorem dX4_adds_18 : decode cX4_adds 18 = .ok (.bipush 33, 2) := by decide +kernel
theorem dX4_adds_20 : decode cX4_adds 20 = .ok (.iaload, 1) := by decide +kernel
theorem dX4_adds_21 : decode cX4_adds 21 = .ok (.bipush 16, 2) := by decide +kernel
theorem dX4_adds_23 : decode cX4_adds 23 = .ok (.if_icmp .ne 6, 3) := by decide +kernel
theorem dX4_adds_26 : decode cX4_adds 26 = .ok (.bipush (-3), 2) := by decide +kernel
theorem dX4_adds_28 : decode cX4_adds 28 = .ok (.ireturn, 1) := by decide +kernel
theorem dX4_adds_29 : decode cX4_adds 29 = .ok (.aload_n 0, 1) := by decide +kernel
theorem dX4_adds_30 : decode cX4_adds 30 = .ok (.getfield 7, 3) := by decide +kernel
theorem dX4_adds_33 : decode cX4_adds 33 = .ok (.bipush 17, 2) := by decide +kernel
theorem dX4_adds_35 : decode cX4_adds 35 = .ok (.aload_n 0, 1) := by decide +kernel
theorem dX4_adds_36 : decode cX4_adds 36 = .ok (.getfield 7, 3) := by decide +kernel
theorem dX4_adds_39 : decode cX4_adds 39 = .ok (.bipush 33, 2) := by decide +kernel
theorem dX4_adds_41 : decode cX4_adds 41 = .ok (.iaload, 1) := by decide +kernel
theorem dX4_adds_42 : decode cX4_adds 42 = .ok (.iadd, 1) := by decide +kernel
theorem dX4_adds_43 : decode cX4_adds 43 = .ok (.iload_n 1, 1) := by decide +kernel
theorem dX4_adds_44 : decode cX4_adds 44 = .ok (.iastore, 1) := by decide +kernel
theorem dX4_adds_45 : decode cX4_adds 45 = .ok (.aload_n 0, 1) := by decide +kernel
theorem dX4_adds_46 : decode cX4_adds 46 = .ok (.getfield 7, 3) := by decide +kernel
theorem dX4_adds_49 : decode cX4_adds 49 = .ok (.bipush 33, 2) := by decide +kernel
theorem dX4_adds_51 : decode cX4_adds 51 = .ok (.dup2, 1) := by decide +kernel
theorem dX4_adds_52 : decode cX4_adds 52 = .ok (.iaload, 1) := by decide +kernel
theorem dX4_adds_53 : decode cX4_adds 53 = .ok (.iconst 1, 1) := by decide +kernel
theorem dX4_adds_54 : decode cX4_adds 54 = .ok (.iadd, 1) := by decide +kernel
theorem dX4_adds_55 : decode cX4_adds 55 = .ok (.iastore, 1) := by decide +kernel
theorem dX4_adds_56 : decode cX4_adds 56 = .ok (.aload_n 0, 1) := by decide +kernel
theorem dX4_adds_57 : decode cX4_adds 57 = .ok (.getfield 7, 3) := by decide +kernel
theorem dX4_adds_60 : decode cX4_adds 60 = .ok (.bipush 33, 2) := by decide +kernel
theorem dX4_adds_62 : decode cX4_adds 62 = .ok (.iaload, 1) := by decide +kernel
theorem dX4_adds_63 : decode cX4_adds 63 = .ok (.ireturn, 1) := by decide +kernel
theorem dX4_add_0 : decode cX4_add 0 = .ok (.aload_n 0, 1) := by decide +kernel
theorem dX4_add_1 : decode cX4_add 1 = .ok (.iload_n 1, 1) := by decide +kernel
theorem dX4_add_2 : decode cX4_add 2 = .ok (.invokevirtual 167, 3) := by decide +kernel
theorem dX4_add_5 : decode cX4_add 5 = .ok (.ireturn, 1) := by decide +kernel
theorem dX4_drop_0 : decode cX4_drop 0 = .ok (.aload_n 0, 1) := by decide +kernel
theorem dX4_drop_1 : decode cX4_drop 1 = .ok (.iload_n 1, 1) := by decide +kernel
theorem dX4_drop_2 : decode cX4_drop 2 = .ok (.i2l, 1) := by decide +kernel
theorem dX4_drop_3 : decode cX4_drop 3 = .ok (.lconst 0, 1) := by decide +kernel
theorem dX4_drop_4 : decode cX4_drop 4 = .ok (.aload_n 0, 1) := by decide +kernel
theorem dX4_drop_5 : decode cX4_drop 5 = .ok (.getfield 7, 3) := by decide +kernel
theorem dX4_drop_8 : decode cX4_drop 8 = .ok (.bipush 33, 2) := by decide +kernel
theorem dX4_drop_10 : decode cX4_drop 10 = .ok (.iaload, 1) := by decide +kernel
theorem dX4_drop_11 : decode cX4_drop 11 = .ok (.i2l, 1) := by decide +kernel
theorem dX4_drop_12 : decode cX4_drop 12 = .ok (.invokestatic 53, 3) := by decide +kernel
theorem dX4_drop_15 : decode cX4_drop 15 = .ok (.bipush 33, 2) := by decide +kernel
theorem dX4_drop_17 : decode cX4_drop 17 = .ok (.iload_n 1, 1) := by decide +kernel
theorem dX4_drop_18 : decode cX4_drop 18 = .ok (.iconst 0, 1) := by decide +kernel
theorem dX4_drop_19 : decode cX4_drop 19 = .ok (.invokevirtual 161, 3) := by decide +kernel
theorem dX4_drop_22 : decode cX4_drop 22 = .ok (.ireturn, 1) := by decide +kernel
theorem dX4_turn_0 : decode cX4_turn 0 = .ok (.iload_n 1, 1) := by decide +kernel
theorem dX4_turn_1 : decode cX4_turn 1 = .ok (.i2l, 1) := by decide +kernel
theorem dX4_turn_2 : decode cX4_turn 2 = .ok (.lconst 0, 1) := by decide +kernel
theorem dX4_turn_3 : decode cX4_turn 3 = .ok (.ldc2_w 165, 3) := by decide +kernel
theorem dX4_turn_6 : decode cX4_turn 6 = .ok (.invokestatic 53, 3) := by decide +kernel
theorem dX4_turn_9 : decode cX4_turn 9 = .ok (.ifCond .ne 5, 3) := by decide +kernel
theorem dX4_turn_12 : decode cX4_turn 12 = .ok (.iconst (-1), 1) := by decide +kernel
theorem dX4_turn_13 : decode cX4_turn 13 = .ok (.ireturn, 1) := by decide +kernel
theorem dX4_turn_14 : decode cX4_turn 14 = .ok (.iload_n 1, 1) := by decide +kernel
theorem dX4_turn_15 : decode cX4_turn 15 = .ok (.sipush 200, 3) := by decide +kernel
theorem dX4_turn_18 : decode cX4_turn 18 = .ok (.if_icmp .lt 18, 3) := by decide +kernel
theorem dX4_turn_21 : decode cX4_turn 21 = .ok (.aload_n 0, 1) := by decide +kernel
theorem dX4_turn_22 : decode cX4_turn 22 = .ok (.iload_n 1, 1) := by decide +kernel
theorem dX4_turn_23 : decode cX4_turn 23 = .ok (.sipush 200, 3) := by decide +kernel
theorem dX4_turn_26 : decode cX4_turn 26 = .ok (.isub, 1) := by decide +kernel
theorem dX4_turn_27 : decode cX4_turn 27 = .ok (.invokevirtual 144, 3) := by decide +kernel
theorem dX4_turn_30 : decode cX4_turn 30 = .ok (.ifCond .ne 6, 3) := by decide +kernel
theorem dX4_turn_33 : decode cX4_turn 33 = .ok (.bipush (-2), 2) := by decide +kernel
theorem dX4_turn_35 : decode cX4_turn 35 = .ok (.ireturn, 1) := by decide +kernel
theorem dX4_turn_36 : decode cX4_turn 36 = .ok (.aload_n 0, 1) := by decide +kernel
theorem dX4_turn_37 : decode cX4_turn 37 = .ok (.iconst 0, 1) := by decide +kernel
theorem dX4_turn_38 : decode cX4_turn 38 = .ok (.iload_n 1, 1) := by decide +kernel
theorem dX4_turn_39 : decode cX4_turn 39 = .ok (.iconst 0, 1) := by decide +kernel
theorem dX4_turn_40 : decode cX4_turn 40 = .ok (.invokevirtual 137, 3) := by decide +kernel
theorem dX4_turn_43 : decode cX4_turn 43 = .ok (.aload_n 0, 1) := by decide +kernel
theorem dX4_turn_44 : decode cX4_turn 44 = .ok (.getfield 7, 3) := by decide +kernel
theorem dX4_turn_47 : decode cX4_turn 47 = .ok (.bipush 35, 2) := by decide +kernel
theorem dX4_turn_49 : decode cX4_turn 49 = .ok (.iaload, 1) := by decide +kernel
theorem dX4_turn_50 : decode cX4_turn 50 = .ok (.ireturn, 1) := by decide +kernel
theorem dX4_ticks_0 : decode cX4_ticks 0 = .ok (.iload_n 1, 1) := by decide +kernel
theorem dX4_ticks_1 : decode cX4_ticks 1 = .ok (.i2l, 1) := by decide +kernel
theorem dX4_ticks_2 : decode cX4_ticks 2 = .ok (.lconst 0, 1) := by decide +kernel
theorem dX4_ticks_3 : decode cX4_ticks 3 = .ok (.ldc2_w 170, 3) := by decide +kernel
theorem dX4_ticks_6 : decode cX4_ticks 6 = .ok (.invokestatic 53, 3) := by decide +kernel
theorem dX4_ticks_9 : decode cX4_ticks 9 = .ok (.ifCond .ne 5, 3) := by decide +kernel
theorem dX4_ticks_12 : decode cX4_ticks 12 = .ok (.iconst (-1), 1) := by decide +kernel
theorem dX4_ticks_13 : decode cX4_ticks 13 = .ok (.ireturn, 1) := by decide +kernel
theorem dX4_ticks_14 : decode cX4_ticks 14 = .ok (.aload_n 0, 1) := by decide +kernel
theorem dX4_ticks_15 : decode cX4_ticks 15 = .ok (.getfield 7, 3) := by decide +kernel
theorem dX4_ticks_18 : decode cX4_ticks 18 = .ok (.bipush 36, 2) := by decide +kernel
theorem dX4_ticks_20 : decode cX4_ticks 20 = .ok (.iaload, 1) := by decide +kernel
theorem dX4_ticks_21 : decode cX4_ticks 21 = .ok (.iload_n 1, 1) := by decide +kernel
theorem dX4_ticks_22 : decode cX4_ticks 22 = .ok (.iadd, 1) := by decide +kernel
theorem dX4_ticks_23 : decode cX4_ticks 23 = .ok (.sipush 9999, 3) := by decide +kernel
theorem dX4_ticks_26 : decode cX4_ticks 26 = .ok (.if_icmp .le 6, 3) := by decide +kernel
theorem dX4_ticks_29 : decode cX4_ticks 29 = .ok (.bipush (-3), 2) := by decide +kernel
theorem dX4_ticks_31 : decode cX4_ticks 31 = .ok (.ireturn, 1) := by decide +kernel
theorem dX4_ticks_32 : decode cX4_ticks 32 = .ok (.aload_n 0, 1) := by decide +kernel
theorem dX4_ticks_33 : decode cX4_ticks 33 = .ok (.getfield 7, 3) := by decide +kernel
theorem dX4_ticks_36 : decode cX4_ticks 36 = .ok (.bipush 37, 2) := by decide +kernel
theorem dX4_ticks_38 : decode cX4_ticks 38 = .ok (.iaload, 1) := by decide +kernel
theorem dX4_ticks_39 : decode cX4_ticks 39 = .ok (.istore_n 2, 1) := by decide +kernel
theorem dX4_ticks_40 : decode cX4_ticks 40 = .ok (.iconst 0, 1) := by decide +kernel
theorem dX4_ticks_41 : decode cX4_ticks 41 = .ok (.istore_n 3, 1) := by decide +kernel
theorem dX4_ticks_42 : decode cX4_ticks 42 = .ok (.iload_n 3, 1) := by decide +kernel
theorem dX4_ticks_43 : decode cX4_ticks 43 = .ok (.iload_n 1, 1) := by decide +kernel
theorem dX4_ticks_44 : decode cX4_ticks 44 = .ok (.if_icmp .ge 15, 3) := by decide +kernel
theorem dX4_ticks_47 : decode cX4_ticks 47 = .ok (.aload_n 0, 1) := by decide +kernel
theorem dX4_ticks_48 : decode cX4_ticks 48 = .ok (.iconst 0, 1) := by decide +kernel
theorem dX4_ticks_49 : decode cX4_ticks 49 = .ok (.iconst 0, 1) := by decide +kernel
theorem dX4_ticks_50 : decode cX4_ticks 50 = .ok (.invokevirtual 172, 3) := by decide +kernel
theorem dX4_ticks_53 : decode cX4_ticks 53 = .ok (.iinc 3 1, 3) := by decide +kernel
theorem dX4_ticks_56 : decode cX4_ticks 56 = .ok (.goto (-14), 3) := by decide +kernel
theorem dX4_ticks_59 : decode cX4_ticks 59 = .ok (.aload_n 0, 1) := by decide +kernel
theorem dX4_ticks_60 : decode cX4_ticks 60 = .ok (.getfield 7, 3) := by decide +kernel
theorem dX4_ticks_63 : decode cX4_ticks 63 = .ok (.bipush 37, 2) := by decide +kernel
theorem dX4_ticks_65 : decode cX4_ticks 65 = .ok (.iaload, 1) := by decide +kernel
theorem dX4_ticks_66 : decode cX4_ticks 66 = .ok (.iload_n 2, 1) := by decide +kernel
theorem dX4_ticks_67 : decode cX4_ticks 67 = .ok (.isub, 1) := by decide +kernel
theorem dX4_ticks_68 : decode cX4_ticks 68 = .ok (.ireturn, 1) := by decide +kernel
theorem dX4_copies_0 : decode cX4_copies 0 = .ok (.iconst 0, 1) := by decide +kernel
theorem dX4_copies_1 : decode cX4_copies 1 = .ok (.istore_n 3, 1) := by decide +kernel
theorem dX4_copies_2 : decode cX4_copies 2 = .ok (.iload_n 3, 1) := by decide +kernel
theorem dX4_copies_3 : decode cX4_copies 3 = .ok (.bipush 39, 2) := by decide +kernel
theorem dX4_copies_5 : decode cX4_copies 5 = .ok (.if_icmp .ge 25, 3) := by decide +kernel
theorem dX4_copies_8 : decode cX4_copies 8 = .ok (.aload_n 0, 1) := by decide +kernel
theorem dX4_copies_9 : decode cX4_copies 9 = .ok (.getfield 7, 3) := by decide +kernel
theorem dX4_copies_12 : decode cX4_copies 12 = .ok (.iload_n 2, 1) := by decide +kernel
theorem dX4_copies_13 : decode cX4_copies 13 = .ok (.iload_n 3, 1) := by decide +kernel
theorem dX4_copies_14 : decode cX4_copies 14 = .ok (.iadd, 1) := by decide +kernel
theorem dX4_copies_15 : decode cX4_copies 15 = .ok (.aload_n 0, 1) := by decide +kernel
theorem dX4_copies_16 : decode cX4_copies 16 = .ok (.getfield 7, 3) := by decide +kernel
theorem dX4_copies_19 : decode cX4_copies 19 = .ok (.iload_n 1, 1) := by decide +kernel
theorem dX4_copies_20 : decode cX4_copies 20 = .ok (.iload_n 3, 1) := by decide +kernel
theorem dX4_copies_21 : decode cX4_copies 21 = .ok (.iadd, 1) := by decide +kernel
theorem dX4_copies_22 : decode cX4_copies 22 = .ok (.iaload, 1) := by decide +kernel
theorem dX4_copies_23 : decode cX4_copies 23 = .ok (.iastore, 1) := by decide +kernel
theorem dX4_copies_24 : decode cX4_copies 24 = .ok (.iinc 3 1, 3) := by decide +kernel
theorem dX4_copies_27 : decode cX4_copies 27 = .ok (.goto (-25), 3) := by decide +kernel
theorem dX4_copies_30 : decode cX4_copies 30 = .ok (.return_, 1) := by decide +kernel
theorem dX4_ticksGo_0 : decode cX4_ticksGo 0 = .ok (.aload_n 0, 1) := by decide +kernel
theorem dX4_ticksGo_1 : decode cX4_ticksGo 1 = .ok (.iload_n 1, 1) := by decide +kernel
theorem dX4_ticksGo_2 : decode cX4_ticksGo 2 = .ok (.sipush 156, 3) := by decide +kernel
theorem dX4_ticksGo_5 : decode cX4_ticksGo 5 = .ok (.invokevirtual 176, 3) := by decide +kernel
theorem dX4_ticksGo_8 : decode cX4_ticksGo 8 = .ok (.aload_n 0, 1) := by decide +kernel
theorem dX4_ticksGo_9 : decode cX4_ticksGo 9 = .ok (.iconst 0, 1) := by decide +kernel
theorem dX4_ticksGo_10 : decode cX4_ticksGo 10 = .ok (.putfield 128, 3) := by decide +kernel
theorem dX4_ticksGo_13 : decode cX4_ticksGo 13 = .ok (.aload_n 0, 1) := by decide +kernel
theorem dX4_ticksGo_14 : decode cX4_ticksGo 14 = .ok (.aload_n 0, 1) := by decide +kernel
theorem dX4_ticksGo_15 : decode cX4_ticksGo 15 = .ok (.sipush 156, 3) := by decide +kernel
theorem dX4_ticksGo_18 : decode cX4_ticksGo 18 = .ok (.invokevirtual 131, 3) := by decide +kernel
theorem dX4_ticksGo_21 : decode cX4_ticksGo 21 = .ok (.putfield 134, 3) := by decide +kernel
theorem dX4_ticksGo_24 : decode cX4_ticksGo 24 = .ok (.iconst 0, 1) := by decide +kernel
theorem dX4_ticksGo_25 : decode cX4_ticksGo 25 = .ok (.istore_n 3, 1) := by decide +kernel
theorem dX4_ticksGo_26 : decode cX4_ticksGo 26 = .ok (.iload_n 3, 1) := by decide +kernel
theorem dX4_ticksGo_27 : decode cX4_ticksGo 27 = .ok (.iload_n 2, 1) := by decide +kernel
theorem dX4_ticksGo_28 : decode cX4_ticksGo 28 = .ok (.if_icmp .ge 17, 3) := by decide +kernel
theorem dX4_ticksGo_31 : decode cX4_ticksGo 31 = .ok (.aload_n 0, 1) := by decide +kernel
theorem dX4_ticksGo_32 : decode cX4_ticksGo 32 = .ok (.sipush 156, 3) := by decide +kernel
theorem dX4_ticksGo_35 : decode cX4_ticksGo 35 = .ok (.iconst 0, 1) := by decide +kernel
theorem dX4_ticksGo_36 : decode cX4_ticksGo 36 = .ok (.invokevirtual 172, 3) := by decide +kernel
theorem dX4_ticksGo_39 : decode cX4_ticksGo 39 = .ok (.iinc 3 1, 3) := by decide +kernel
theorem dX4_ticksGo_42 : decode cX4_ticksGo 42 = .ok (.goto (-16), 3) := by decide +kernel
theorem dX4_ticksGo_45 : decode cX4_ticksGo 45 = .ok (.aload_n 0, 1) := by decide +kernel
theorem dX4_ticksGo_46 : decode cX4_ticksGo 46 = .ok (.getfield 7, 3) := by decide +kernel
theorem dX4_ticksGo_49 : decode cX4_ticksGo 49 = .ok (.sipush 193, 3) := by decide +kernel
theorem dX4_ticksGo_52 : decode cX4_ticksGo 52 = .ok (.iaload, 1) := by decide +kernel
theorem dX4_ticksGo_53 : decode cX4_ticksGo 53 = .ok (.aload_n 0, 1) := by decide +kernel
theorem dX4_ticksGo_54 : decode cX4_ticksGo 54 = .ok (.getfield 7, 3) := by decide +kernel
theorem dX4_ticksGo_57 : decode cX4_ticksGo 57 = .ok (.bipush 37, 2) := by decide +kernel
theorem dX4_ticksGo_59 : decode cX4_ticksGo 59 = .ok (.iaload, 1) := by decide +kernel
theorem dX4_ticksGo_60 : decode cX4_ticksGo 60 = .ok (.isub, 1) := by decide +kernel
theorem dX4_ticksGo_61 : decode cX4_ticksGo 61 = .ok (.ireturn, 1) := by decide +kernel
theorem dX4_lackThen_0 : decode cX4_lackThen 0 = .ok (.aload_n 0, 1) := by decide +kernel
theorem dX4_lackThen_1 : decode cX4_lackThen 1 = .ok (.getfield 7, 3) := by decide +kernel
theorem dX4_lackThen_4 : decode cX4_lackThen 4 = .ok (.sipush 194, 3) := by decide +kernel
theorem dX4_lackThen_7 : decode cX4_lackThen 7 = .ok (.iaload, 1) := by decide +kernel
theorem dX4_lackThen_8 : decode cX4_lackThen 8 = .ok (.aload_n 0, 1) := by decide +kernel
theorem dX4_lackThen_9 : decode cX4_lackThen 9 = .ok (.getfield 7, 3) := by decide +kernel
theorem dX4_lackThen_12 : decode cX4_lackThen 12 = .ok (.bipush 38, 2) := by decide +kernel
theorem dX4_lackThen_14 : decode cX4_lackThen 14 = .ok (.iaload, 1) := by decide +kernel
theorem dX4_lackThen_15 : decode cX4_lackThen 15 = .ok (.isub, 1) := by decide +kernel
theorem dX4_lackThen_16 : decode cX4_lackThen 16 = .ok (.ireturn, 1) := by decide +kernel
theorem dX4_runs_0 : decode cX4_runs 0 = .ok (.iload_n 1, 1) := by decide +kernel
theorem dX4_runs_1 : decode cX4_runs 1 = .ok (.invokestatic 180, 3) := by decide +kernel
theorem dX4_runs_4 : decode cX4_runs 4 = .ok (.ifCond .eq 15, 3) := by decide +kernel
theorem dX4_runs_7 : decode cX4_runs 7 = .ok (.iload_n 2, 1) := by decide +kernel
theorem dX4_runs_8 : decode cX4_runs 8 = .ok (.i2l, 1) := by decide +kernel
theorem dX4_runs_9 : decode cX4_runs 9 = .ok (.lconst 0, 1) := by decide +kernel
theorem dX4_runs_10 : decode cX4_runs 10 = .ok (.ldc2_w 183, 3) := by decide +kernel
theorem dX4_runs_13 : decode cX4_runs 13 = .ok (.invokestatic 53, 3) := by decide +kernel
theorem dX4_runs_16 : decode cX4_runs 16 = .ok (.ifCond .ne 5, 3) := by decide +kernel
theorem dX4_runs_19 : decode cX4_runs 19 = .ok (.iconst (-1), 1) := by decide +kernel
theorem dX4_runs_20 : decode cX4_runs 20 = .ok (.ireturn, 1) := by decide +kernel
theorem dX4_runs_21 : decode cX4_runs 21 = .ok (.aload_n 0, 1) := by decide +kernel
theorem dX4_runs_22 : decode cX4_runs 22 = .ok (.iconst 0, 1) := by decide +kernel
theorem dX4_runs_23 : decode cX4_runs 23 = .ok (.iload_n 1, 1) := by decide +kernel
theorem dX4_runs_24 : decode cX4_runs 24 = .ok (.invokevirtual 185, 3) := by decide +kernel
theorem dX4_runs_27 : decode cX4_runs 27 = .ok (.istore_n 3, 1) := by decide +kernel
theorem dX4_runs_28 : decode cX4_runs 28 = .ok (.iload_n 2, 1) := by decide +kernel
theorem dX4_runs_29 : decode cX4_runs 29 = .ok (.tableswitch 51 0 3 #[31, 33, 38, 43], 31) := by decide +kernel
theorem dX4_runs_60 : decode cX4_runs 60 = .ok (.iload_n 3, 1) := by decide +kernel
theorem dX4_runs_61 : decode cX4_runs 61 = .ok (.ireturn, 1) := by decide +kernel
theorem dX4_runs_62 : decode cX4_runs 62 = .ok (.aload_n 0, 1) := by decide +kernel
theorem dX4_runs_63 : decode cX4_runs 63 = .ok (.invokevirtual 188, 3) := by decide +kernel
theorem dX4_runs_66 : decode cX4_runs 66 = .ok (.ireturn, 1) := by decide +kernel
theorem dX4_runs_67 : decode cX4_runs 67 = .ok (.aload_n 0, 1) := by decide +kernel
theorem dX4_runs_68 : decode cX4_runs 68 = .ok (.getfield 128, 3) := by decide +kernel
theorem dX4_runs_71 : decode cX4_runs 71 = .ok (.ireturn, 1) := by decide +kernel
theorem dX4_runs_72 : decode cX4_runs 72 = .ok (.aload_n 0, 1) := by decide +kernel
theorem dX4_runs_73 : decode cX4_runs 73 = .ok (.sipush 156, 3) := by decide +kernel
theorem dX4_runs_76 : decode cX4_runs 76 = .ok (.invokevirtual 191, 3) := by decide +kernel
theorem dX4_runs_79 : decode cX4_runs 79 = .ok (.ireturn, 1) := by decide +kernel
theorem dX4_runs_80 : decode cX4_runs 80 = .ok (.aload_n 0, 1) := by decide +kernel
theorem dX4_runs_81 : decode cX4_runs 81 = .ok (.getfield 134, 3) := by decide +kernel
theorem dX4_runs_84 : decode cX4_runs 84 = .ok (.ireturn, 1) := by decide +kernel
theorem dX4_ahead_0 : decode cX4_ahead 0 = .ok (.aload_n 0, 1) := by decide +kernel
theorem dX4_ahead_1 : decode cX4_ahead 1 = .ok (.iload_n 1, 1) := by decide +kernel
theorem dX4_ahead_2 : decode cX4_ahead 2 = .ok (.invokevirtual 144, 3) := by decide +kernel
theorem dX4_ahead_5 : decode cX4_ahead 5 = .ok (.ifCond .eq 10, 3) := by decide +kernel
theorem dX4_ahead_8 : decode cX4_ahead 8 = .ok (.iload_n 2, 1) := by decide +kernel
theorem dX4_ahead_9 : decode cX4_ahead 9 = .ok (.invokestatic 180, 3) := by decide +kernel
theorem dX4_ahead_12 : decode cX4_ahead 12 = .ok (.ifCond .ne 5, 3) := by decide +kernel
theorem dX4_ahead_15 : decode cX4_ahead 15 = .ok (.iconst (-1), 1) := by decide +kernel
theorem dX4_ahead_16 : decode cX4_ahead 16 = .ok (.ireturn, 1) := by decide +kernel
theorem dX4_ahead_17 : decode cX4_ahead 17 = .ok (.aload_n 0, 1) := by decide +kernel
theorem dX4_ahead_18 : decode cX4_ahead 18 = .ok (.iconst 0, 1) := by decide +kernel
theorem dX4_ahead_19 : decode cX4_ahead 19 = .ok (.iload_n 2, 1) := by decide +kernel
theorem dX4_ahead_20 : decode cX4_ahead 20 = .ok (.invokevirtual 185, 3) := by decide +kernel
theorem dX4_ahead_23 : decode cX4_ahead 23 = .ok (.pop, 1) := by decide +kernel
theorem dX4_ahead_24 : decode cX4_ahead 24 = .ok (.aload_n 0, 1) := by decide +kernel
theorem dX4_ahead_25 : decode cX4_ahead 25 = .ok (.getfield 7, 3) := by decide +kernel
theorem dX4_ahead_28 : decode cX4_ahead 28 = .ok (.sipush 168, 3) := by decide +kernel
theorem dX4_ahead_31 : decode cX4_ahead 31 = .ok (.iload_n 1, 1) := by decide +kernel
theorem dX4_ahead_32 : decode cX4_ahead 32 = .ok (.iadd, 1) := by decide +kernel
theorem dX4_ahead_33 : decode cX4_ahead 33 = .ok (.iaload, 1) := by decide +kernel
theorem dX4_ahead_34 : decode cX4_ahead 34 = .ok (.ireturn, 1) := by decide +kernel
theorem dX4_when_0 : decode cX4_when 0 = .ok (.aload_n 0, 1) := by decide +kernel
theorem dX4_when_1 : decode cX4_when 1 = .ok (.iload_n 1, 1) := by decide +kernel
theorem dX4_when_2 : decode cX4_when 2 = .ok (.invokevirtual 144, 3) := by decide +kernel
theorem dX4_when_5 : decode cX4_when 5 = .ok (.ifCond .ne 5, 3) := by decide +kernel
theorem dX4_when_8 : decode cX4_when 8 = .ok (.iconst (-1), 1) := by decide +kernel
theorem dX4_when_9 : decode cX4_when 9 = .ok (.ireturn, 1) := by decide +kernel
theorem dX4_when_10 : decode cX4_when 10 = .ok (.aload_n 0, 1) := by decide +kernel
theorem dX4_when_11 : decode cX4_when 11 = .ok (.iconst 0, 1) := by decide +kernel
theorem dX4_when_12 : decode cX4_when 12 = .ok (.sipush 156, 3) := by decide +kernel
theorem dX4_when_15 : decode cX4_when 15 = .ok (.invokevirtual 176, 3) := by decide +kernel
theorem dX4_when_18 : decode cX4_when 18 = .ok (.iconst 0, 1) := by decide +kernel
theorem dX4_when_19 : decode cX4_when 19 = .ok (.istore_n 2, 1) := by decide +kernel
theorem dX4_when_20 : decode cX4_when 20 = .ok (.iload_n 2, 1) := by decide +kernel
theorem dX4_when_21 : decode cX4_when 21 = .ok (.sipush 200, 3) := by decide +kernel
theorem dX4_when_24 : decode cX4_when 24 = .ok (.if_icmp .gt 32, 3) := by decide +kernel
theorem dX4_when_27 : decode cX4_when 27 = .ok (.aload_n 0, 1) := by decide +kernel
theorem dX4_when_28 : decode cX4_when 28 = .ok (.getfield 7, 3) := by decide +kernel
theorem dX4_when_31 : decode cX4_when 31 = .ok (.sipush 168, 3) := by decide +kernel
theorem dX4_when_34 : decode cX4_when 34 = .ok (.iload_n 1, 1) := by decide +kernel
theorem dX4_when_35 : decode cX4_when 35 = .ok (.iadd, 1) := by decide +kernel
theorem dX4_when_36 : decode cX4_when 36 = .ok (.iaload, 1) := by decide +kernel
theorem dX4_when_37 : decode cX4_when 37 = .ok (.ifCond .ne 5, 3) := by decide +kernel
theorem dX4_when_40 : decode cX4_when 40 = .ok (.iload_n 2, 1) := by decide +kernel
theorem dX4_when_41 : decode cX4_when 41 = .ok (.ireturn, 1) := by decide +kernel
theorem dX4_when_42 : decode cX4_when 42 = .ok (.aload_n 0, 1) := by decide +kernel
theorem dX4_when_43 : decode cX4_when 43 = .ok (.sipush 156, 3) := by decide +kernel
theorem dX4_when_46 : decode cX4_when 46 = .ok (.iconst 0, 1) := by decide +kernel
theorem dX4_when_47 : decode cX4_when 47 = .ok (.invokevirtual 172, 3) := by decide +kernel
theorem dX4_when_50 : decode cX4_when 50 = .ok (.iinc 2 1, 3) := by decide +kernel
theorem dX4_when_53 : decode cX4_when 53 = .ok (.goto (-33), 3) := by decide +kernel
theorem dX4_when_56 : decode cX4_when 56 = .ok (.bipush (-4), 2) := by decide +kernel
theorem dX4_when_58 : decode cX4_when 58 = .ok (.ireturn, 1) := by decide +kernel
theorem dX4_again_0 : decode cX4_again 0 = .ok (.aload_n 0, 1) := by decide +kernel
theorem dX4_again_1 : decode cX4_again 1 = .ok (.getfield 7, 3) := by decide +kernel
theorem dX4_again_4 : decode cX4_again 4 = .ok (.bipush 33, 2) := by decide +kernel
theorem dX4_again_6 : decode cX4_again 6 = .ok (.iaload, 1) := by decide +kernel
theorem dX4_again_7 : decode cX4_again 7 = .ok (.istore_n 1, 1) := by decide +kernel
theorem dX4_again_8 : decode cX4_again 8 = .ok (.aload_n 0, 1) := by decide +kernel
theorem dX4_again_9 : decode cX4_again 9 = .ok (.iconst 0, 1) := by decide +kernel
theorem dX4_again_10 : decode cX4_again 10 = .ok (.sipush 156, 3) := by decide +kernel
theorem dX4_again_13 : decode cX4_again 13 = .ok (.invokevirtual 176, 3) := by decide +kernel
theorem dX4_again_16 : decode cX4_again 16 = .ok (.iconst 1, 1) := by decide +kernel
theorem dX4_again_17 : decode cX4_again 17 = .ok (.istore_n 2, 1) := by decide +kernel
theorem dX4_again_18 : decode cX4_again 18 = .ok (.iload_n 2, 1) := by decide +kernel
theorem dX4_again_19 : decode cX4_again 19 = .ok (.sipush 200, 3) := by decide +kernel
theorem dX4_again_22 : decode cX4_again 22 = .ok (.if_icmp .gt 112, 3) := by decide +kernel
theorem dX4_again_25 : decode cX4_again 25 = .ok (.aload_n 0, 1) := by decide +kernel
theorem dX4_again_26 : decode cX4_again 26 = .ok (.sipush 156, 3) := by decide +kernel
theorem dX4_again_29 : decode cX4_again 29 = .ok (.iconst 0, 1) := by decide +kernel
theorem dX4_again_30 : decode cX4_again 30 = .ok (.invokevirtual 172, 3) := by decide +kernel
theorem dX4_again_33 : decode cX4_again 33 = .ok (.iload_n 1, 1) := by decide +kernel
theorem dX4_again_34 : decode cX4_again 34 = .ok (.ifCond .eq 9, 3) := by decide +kernel
theorem dX4_again_37 : decode cX4_again 37 = .ok (.iload_n 2, 1) := by decide +kernel
theorem dX4_again_38 : decode cX4_again 38 = .ok (.iload_n 1, 1) := by decide +kernel
theorem dX4_again_39 : decode cX4_again 39 = .ok (.irem, 1) := by decide +kernel
theorem dX4_again_40 : decode cX4_again 40 = .ok (.ifCond .ne 25, 3) := by decide +kernel
theorem dX4_again_43 : decode cX4_again 43 = .ok (.aload_n 0, 1) := by decide +kernel
theorem dX4_again_44 : decode cX4_again 44 = .ok (.getfield 7, 3) := by decide +kernel
theorem dX4_again_47 : decode cX4_again 47 = .ok (.sipush 191, 3) := by decide +kernel
theorem dX4_again_50 : decode cX4_again 50 = .ok (.iaload, 1) := by decide +kernel
theorem dX4_again_51 : decode cX4_again 51 = .ok (.aload_n 0, 1) := by decide +kernel
theorem dX4_again_52 : decode cX4_again 52 = .ok (.getfield 7, 3) := by decide +kernel
theorem dX4_again_55 : decode cX4_again 55 = .ok (.bipush 35, 2) := by decide +kernel
theorem dX4_again_57 : decode cX4_again 57 = .ok (.iaload, 1) := by decide +kernel
theorem dX4_again_58 : decode cX4_again 58 = .ok (.if_icmp .ne 7, 3) := by decide +kernel
theorem dX4_again_61 : decode cX4_again 61 = .ok (.iconst 1, 1) := by decide +kernel
theorem dX4_again_62 : decode cX4_again 62 = .ok (.goto 4, 3) := by decide +kernel
theorem dX4_again_65 : decode cX4_again 65 = .ok (.iconst 0, 1) := by decide +kernel
theorem dX4_again_66 : decode cX4_again 66 = .ok (.istore_n 3, 1) := by decide +kernel
theorem dX4_again_67 : decode cX4_again 67 = .ok (.iconst 0, 1) := by decide +kernel
theorem dX4_again_68 : decode cX4_again 68 = .ok (.istore 4, 2) := by decide +kernel
theorem dX4_again_70 : decode cX4_again 70 = .ok (.iload 4, 2) := by decide +kernel
theorem dX4_again_72 : decode cX4_again 72 = .ok (.aload_n 0, 1) := by decide +kernel
theorem dX4_again_73 : decode cX4_again 73 = .ok (.getfield 7, 3) := by decide +kernel
theorem dX4_again_76 : decode cX4_again 76 = .ok (.bipush 16, 2) := by decide +kernel
theorem dX4_again_78 : decode cX4_again 78 = .ok (.iaload, 1) := by decide +kernel
theorem dX4_again_79 : decode cX4_again 79 = .ok (.if_icmp .ge 43, 3) := by decide +kernel
theorem dX4_again_82 : decode cX4_again 82 = .ok (.iload_n 3, 1) := by decide +kernel
theorem dX4_again_83 : decode cX4_again 83 = .ok (.ifCond .eq 31, 3) := by decide +kernel
theorem dX4_again_86 : decode cX4_again 86 = .ok (.aload_n 0, 1) := by decide +kernel
theorem dX4_again_87 : decode cX4_again 87 = .ok (.getfield 7, 3) := by decide +kernel
theorem dX4_again_90 : decode cX4_again 90 = .ok (.sipush 168, 3) := by decide +kernel
theorem dX4_again_93 : decode cX4_again 93 = .ok (.iload 4, 2) := by decide +kernel
theorem dX4_again_95 : decode cX4_again 95 = .ok (.iadd, 1) := by decide +kernel
theorem dX4_again_96 : decode cX4_again 96 = .ok (.iaload, 1) := by decide +kernel
theorem dX4_again_97 : decode cX4_again 97 = .ok (.aload_n 0, 1) := by decide +kernel
theorem dX4_again_98 : decode cX4_again 98 = .ok (.getfield 7, 3) := by decide +kernel
theorem dX4_again_101 : decode cX4_again 101 = .ok (.bipush 12, 2) := by decide +kernel
theorem dX4_again_103 : decode cX4_again 103 = .ok (.iload 4, 2) := by decide +kernel
theorem dX4_again_105 : decode cX4_again 105 = .ok (.iadd, 1) := by decide +kernel
theorem dX4_again_106 : decode cX4_again 106 = .ok (.iaload, 1) := by decide +kernel
theorem dX4_again_107 : decode cX4_again 107 = .ok (.if_icmp .ne 7, 3) := by decide +kernel
theorem dX4_again_110 : decode cX4_again 110 = .ok (.iconst 1, 1) := by decide +kernel
theorem dX4_again_111 : decode cX4_again 111 = .ok (.goto 4, 3) := by decide +kernel
theorem dX4_again_114 : decode cX4_again 114 = .ok (.iconst 0, 1) := by decide +kernel
theorem dX4_again_115 : decode cX4_again 115 = .ok (.istore_n 3, 1) := by decide +kernel
theorem dX4_again_116 : decode cX4_again 116 = .ok (.iinc 4 1, 3) := by decide +kernel
theorem dX4_again_119 : decode cX4_again 119 = .ok (.goto (-49), 3) := by decide +kernel
theorem dX4_again_122 : decode cX4_again 122 = .ok (.iload_n 3, 1) := by decide +kernel
theorem dX4_again_123 : decode cX4_again 123 = .ok (.ifCond .eq 5, 3) := by decide +kernel
