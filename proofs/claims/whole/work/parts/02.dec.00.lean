theorem dX0_init_0 : decode cX0_init 0 = .ok (.aload_n 0, 1) := by decide +kernel
theorem dX0_init_1 : decode cX0_init 1 = .ok (.invokespecial 3, 3) := by decide +kernel
theorem dX0_init_4 : decode cX0_init 4 = .ok (.aload_n 0, 1) := by decide +kernel
theorem dX0_init_5 : decode cX0_init 5 = .ok (.iconst 5, 1) := by decide +kernel
theorem dX0_init_6 : decode cX0_init 6 = .ok (.putfield 9, 3) := by decide +kernel
theorem dX0_init_9 : decode cX0_init 9 = .ok (.aload_n 0, 1) := by decide +kernel
theorem dX0_init_10 : decode cX0_init 10 = .ok (.iconst 0, 1) := by decide +kernel
theorem dX0_init_11 : decode cX0_init 11 = .ok (.putfield 15, 3) := by decide +kernel
theorem dX0_init_14 : decode cX0_init 14 = .ok (.aload_n 0, 1) := by decide +kernel
theorem dX0_init_15 : decode cX0_init 15 = .ok (.iconst 0, 1) := by decide +kernel
theorem dX0_init_16 : decode cX0_init 16 = .ok (.putfield 18, 3) := by decide +kernel
theorem dX0_init_19 : decode cX0_init 19 = .ok (.aload_n 0, 1) := by decide +kernel
theorem dX0_init_20 : decode cX0_init 20 = .ok (.iconst 4, 1) := by decide +kernel
theorem dX0_init_21 : decode cX0_init 21 = .ok (.newarray .int, 2) := by decide +kernel
theorem dX0_init_23 : decode cX0_init 23 = .ok (.putfield 21, 3) := by decide +kernel
theorem dX0_init_26 : decode cX0_init 26 = .ok (.aload_n 0, 1) := by decide +kernel
theorem dX0_init_27 : decode cX0_init 27 = .ok (.iconst 4, 1) := by decide +kernel
theorem dX0_init_28 : decode cX0_init 28 = .ok (.newarray .int, 2) := by decide +kernel
theorem dX0_init_30 : decode cX0_init 30 = .ok (.putfield 25, 3) := by decide +kernel
theorem dX0_init_33 : decode cX0_init 33 = .ok (.aload_n 0, 1) := by decide +kernel
theorem dX0_init_34 : decode cX0_init 34 = .ok (.iconst 4, 1) := by decide +kernel
theorem dX0_init_35 : decode cX0_init 35 = .ok (.newarray .int, 2) := by decide +kernel
theorem dX0_init_37 : decode cX0_init 37 = .ok (.putfield 28, 3) := by decide +kernel
theorem dX0_init_40 : decode cX0_init 40 = .ok (.aload_n 0, 1) := by decide +kernel
theorem dX0_init_41 : decode cX0_init 41 = .ok (.iconst 4, 1) := by decide +kernel
theorem dX0_init_42 : decode cX0_init 42 = .ok (.newarray .int, 2) := by decide +kernel
theorem dX0_init_44 : decode cX0_init 44 = .ok (.putfield 31, 3) := by decide +kernel
theorem dX0_init_47 : decode cX0_init 47 = .ok (.aload_n 0, 1) := by decide +kernel
theorem dX0_init_48 : decode cX0_init 48 = .ok (.iconst 0, 1) := by decide +kernel
theorem dX0_init_49 : decode cX0_init 49 = .ok (.putfield 34, 3) := by decide +kernel
theorem dX0_init_52 : decode cX0_init 52 = .ok (.aload_n 0, 1) := by decide +kernel
theorem dX0_init_53 : decode cX0_init 53 = .ok (.bipush 16, 2) := by decide +kernel
theorem dX0_init_55 : decode cX0_init 55 = .ok (.newarray .int, 2) := by decide +kernel
theorem dX0_init_57 : decode cX0_init 57 = .ok (.putfield 37, 3) := by decide +kernel
theorem dX0_init_60 : decode cX0_init 60 = .ok (.aload_n 0, 1) := by decide +kernel
theorem dX0_init_61 : decode cX0_init 61 = .ok (.iconst 0, 1) := by decide +kernel
theorem dX0_init_62 : decode cX0_init 62 = .ok (.putfield 40, 3) := by decide +kernel
theorem dX0_init_65 : decode cX0_init 65 = .ok (.aload_n 0, 1) := by decide +kernel
theorem dX0_init_66 : decode cX0_init 66 = .ok (.iconst 0, 1) := by decide +kernel
theorem dX0_init_67 : decode cX0_init 67 = .ok (.putfield 43, 3) := by decide +kernel
theorem dX0_init_70 : decode cX0_init 70 = .ok (.aload_n 0, 1) := by decide +kernel
theorem dX0_init_71 : decode cX0_init 71 = .ok (.iconst 0, 1) := by decide +kernel
theorem dX0_init_72 : decode cX0_init 72 = .ok (.putfield 46, 3) := by decide +kernel
theorem dX0_init_75 : decode cX0_init 75 = .ok (.aload_n 0, 1) := by decide +kernel
theorem dX0_init_76 : decode cX0_init 76 = .ok (.iconst 0, 1) := by decide +kernel
theorem dX0_init_77 : decode cX0_init 77 = .ok (.putfield 49, 3) := by decide +kernel
theorem dX0_init_80 : decode cX0_init 80 = .ok (.return_, 1) := by decide +kernel
theorem dX0_clear_0 : decode cX0_clear 0 = .ok (.aload_n 0, 1) := by decide +kernel
theorem dX0_clear_1 : decode cX0_clear 1 = .ok (.iconst 5, 1) := by decide +kernel
theorem dX0_clear_2 : decode cX0_clear 2 = .ok (.putfield 9, 3) := by decide +kernel
theorem dX0_clear_5 : decode cX0_clear 5 = .ok (.aload_n 0, 1) := by decide +kernel
theorem dX0_clear_6 : decode cX0_clear 6 = .ok (.iconst 0, 1) := by decide +kernel
theorem dX0_clear_7 : decode cX0_clear 7 = .ok (.putfield 15, 3) := by decide +kernel
theorem dX0_clear_10 : decode cX0_clear 10 = .ok (.aload_n 0, 1) := by decide +kernel
theorem dX0_clear_11 : decode cX0_clear 11 = .ok (.iconst 0, 1) := by decide +kernel
theorem dX0_clear_12 : decode cX0_clear 12 = .ok (.putfield 18, 3) := by decide +kernel
theorem dX0_clear_15 : decode cX0_clear 15 = .ok (.aload_n 0, 1) := by decide +kernel
theorem dX0_clear_16 : decode cX0_clear 16 = .ok (.iconst 0, 1) := by decide +kernel
theorem dX0_clear_17 : decode cX0_clear 17 = .ok (.putfield 34, 3) := by decide +kernel
theorem dX0_clear_20 : decode cX0_clear 20 = .ok (.aload_n 0, 1) := by decide +kernel
theorem dX0_clear_21 : decode cX0_clear 21 = .ok (.iconst 0, 1) := by decide +kernel
theorem dX0_clear_22 : decode cX0_clear 22 = .ok (.putfield 40, 3) := by decide +kernel
theorem dX0_clear_25 : decode cX0_clear 25 = .ok (.aload_n 0, 1) := by decide +kernel
theorem dX0_clear_26 : decode cX0_clear 26 = .ok (.invokevirtual 52, 3) := by decide +kernel
theorem dX0_clear_29 : decode cX0_clear 29 = .ok (.return_, 1) := by decide +kernel
theorem dX0_clearSums_0 : decode cX0_clearSums 0 = .ok (.aload_n 0, 1) := by decide +kernel
theorem dX0_clearSums_1 : decode cX0_clearSums 1 = .ok (.iconst 0, 1) := by decide +kernel
theorem dX0_clearSums_2 : decode cX0_clearSums 2 = .ok (.putfield 43, 3) := by decide +kernel
theorem dX0_clearSums_5 : decode cX0_clearSums 5 = .ok (.aload_n 0, 1) := by decide +kernel
theorem dX0_clearSums_6 : decode cX0_clearSums 6 = .ok (.iconst 0, 1) := by decide +kernel
theorem dX0_clearSums_7 : decode cX0_clearSums 7 = .ok (.putfield 46, 3) := by decide +kernel
theorem dX0_clearSums_10 : decode cX0_clearSums 10 = .ok (.aload_n 0, 1) := by decide +kernel
theorem dX0_clearSums_11 : decode cX0_clearSums 11 = .ok (.iconst 0, 1) := by decide +kernel
theorem dX0_clearSums_12 : decode cX0_clearSums 12 = .ok (.putfield 49, 3) := by decide +kernel
theorem dX0_clearSums_15 : decode cX0_clearSums 15 = .ok (.return_, 1) := by decide +kernel
theorem dX0_become_0 : decode cX0_become 0 = .ok (.aload_n 0, 1) := by decide +kernel
theorem dX0_become_1 : decode cX0_become 1 = .ok (.aload_n 1, 1) := by decide +kernel
theorem dX0_become_2 : decode cX0_become 2 = .ok (.getfield 9, 3) := by decide +kernel
theorem dX0_become_5 : decode cX0_become 5 = .ok (.putfield 9, 3) := by decide +kernel
theorem dX0_become_8 : decode cX0_become 8 = .ok (.aload_n 0, 1) := by decide +kernel
theorem dX0_become_9 : decode cX0_become 9 = .ok (.aload_n 1, 1) := by decide +kernel
theorem dX0_become_10 : decode cX0_become 10 = .ok (.getfield 15, 3) := by decide +kernel
theorem dX0_become_13 : decode cX0_become 13 = .ok (.putfield 15, 3) := by decide +kernel
theorem dX0_become_16 : decode cX0_become 16 = .ok (.aload_n 0, 1) := by decide +kernel
theorem dX0_become_17 : decode cX0_become 17 = .ok (.aload_n 1, 1) := by decide +kernel
theorem dX0_become_18 : decode cX0_become 18 = .ok (.getfield 18, 3) := by decide +kernel
theorem dX0_become_21 : decode cX0_become 21 = .ok (.putfield 18, 3) := by decide +kernel
theorem dX0_become_24 : decode cX0_become 24 = .ok (.iconst 0, 1) := by decide +kernel
theorem dX0_become_25 : decode cX0_become 25 = .ok (.istore_n 2, 1) := by decide +kernel
theorem dX0_become_26 : decode cX0_become 26 = .ok (.iload_n 2, 1) := by decide +kernel
theorem dX0_become_27 : decode cX0_become 27 = .ok (.iconst 4, 1) := by decide +kernel
theorem dX0_become_28 : decode cX0_become 28 = .ok (.if_icmp .ge 57, 3) := by decide +kernel
theorem dX0_become_31 : decode cX0_become 31 = .ok (.aload_n 0, 1) := by decide +kernel
theorem dX0_become_32 : decode cX0_become 32 = .ok (.getfield 21, 3) := by decide +kernel
theorem dX0_become_35 : decode cX0_become 35 = .ok (.iload_n 2, 1) := by decide +kernel
theorem dX0_become_36 : decode cX0_become 36 = .ok (.aload_n 1, 1) := by decide +kernel
theorem dX0_become_37 : decode cX0_become 37 = .ok (.getfield 21, 3) := by decide +kernel
theorem dX0_become_40 : decode cX0_become 40 = .ok (.iload_n 2, 1) := by decide +kernel
theorem dX0_become_41 : decode cX0_become 41 = .ok (.iaload, 1) := by decide +kernel
theorem dX0_become_42 : decode cX0_become 42 = .ok (.iastore, 1) := by decide +kernel
theorem dX0_become_43 : decode cX0_become 43 = .ok (.aload_n 0, 1) := by decide +kernel
theorem dX0_become_44 : decode cX0_become 44 = .ok (.getfield 25, 3) := by decide +kernel
theorem dX0_become_47 : decode cX0_become 47 = .ok (.iload_n 2, 1) := by decide +kernel
theorem dX0_become_48 : decode cX0_become 48 = .ok (.aload_n 1, 1) := by decide +kernel
theorem dX0_become_49 : decode cX0_become 49 = .ok (.getfield 25, 3) := by decide +kernel
theorem dX0_become_52 : decode cX0_become 52 = .ok (.iload_n 2, 1) := by decide +kernel
theorem dX0_become_53 : decode cX0_become 53 = .ok (.iaload, 1) := by decide +kernel
theorem dX0_become_54 : decode cX0_become 54 = .ok (.iastore, 1) := by decide +kernel
theorem dX0_become_55 : decode cX0_become 55 = .ok (.aload_n 0, 1) := by decide +kernel
theorem dX0_become_56 : decode cX0_become 56 = .ok (.getfield 28, 3) := by decide +kernel
theorem dX0_become_59 : decode cX0_become 59 = .ok (.iload_n 2, 1) := by decide +kernel
theorem dX0_become_60 : decode cX0_become 60 = .ok (.aload_n 1, 1) := by decide +kernel
theorem dX0_become_61 : decode cX0_become 61 = .ok (.getfield 28, 3) := by decide +kernel
theorem dX0_become_64 : decode cX0_become 64 = .ok (.iload_n 2, 1) := by decide +kernel
theorem dX0_become_65 : decode cX0_become 65 = .ok (.iaload, 1) := by decide +kernel
theorem dX0_become_66 : decode cX0_become 66 = .ok (.iastore, 1) := by decide +kernel
theorem dX0_become_67 : decode cX0_become 67 = .ok (.aload_n 0, 1) := by decide +kernel
theorem dX0_become_68 : decode cX0_become 68 = .ok (.getfield 31, 3) := by decide +kernel
theorem dX0_become_71 : decode cX0_become 71 = .ok (.iload_n 2, 1) := by decide +kernel
theorem dX0_become_72 : decode cX0_become 72 = .ok (.aload_n 1, 1) := by decide +kernel
theorem dX0_become_73 : decode cX0_become 73 = .ok (.getfield 31, 3) := by decide +kernel
theorem dX0_become_76 : decode cX0_become 76 = .ok (.iload_n 2, 1) := by decide +kernel
theorem dX0_become_77 : decode cX0_become 77 = .ok (.iaload, 1) := by decide +kernel
theorem dX0_become_78 : decode cX0_become 78 = .ok (.iastore, 1) := by decide +kernel
theorem dX0_become_79 : decode cX0_become 79 = .ok (.iinc 2 1, 3) := by decide +kernel
theorem dX0_become_82 : decode cX0_become 82 = .ok (.goto (-56), 3) := by decide +kernel
theorem dX0_become_85 : decode cX0_become 85 = .ok (.aload_n 0, 1) := by decide +kernel
theorem dX0_become_86 : decode cX0_become 86 = .ok (.aload_n 1, 1) := by decide +kernel
theorem dX0_become_87 : decode cX0_become 87 = .ok (.getfield 34, 3) := by decide +kernel
theorem dX0_become_90 : decode cX0_become 90 = .ok (.putfield 34, 3) := by decide +kernel
theorem dX0_become_93 : decode cX0_become 93 = .ok (.iconst 0, 1) := by decide +kernel
theorem dX0_become_94 : decode cX0_become 94 = .ok (.istore_n 2, 1) := by decide +kernel
theorem dX0_become_95 : decode cX0_become 95 = .ok (.iload_n 2, 1) := by decide +kernel
theorem dX0_become_96 : decode cX0_become 96 = .ok (.bipush 16, 2) := by decide +kernel
theorem dX0_become_98 : decode cX0_become 98 = .ok (.if_icmp .ge 21, 3) := by decide +kernel
theorem dX0_become_101 : decode cX0_become 101 = .ok (.aload_n 0, 1) := by decide +kernel
theorem dX0_become_102 : decode cX0_become 102 = .ok (.getfield 37, 3) := by decide +kernel
theorem dX0_become_105 : decode cX0_become 105 = .ok (.iload_n 2, 1) := by decide +kernel
theorem dX0_become_106 : decode cX0_become 106 = .ok (.aload_n 1, 1) := by decide +kernel
theorem dX0_become_107 : decode cX0_become 107 = .ok (.getfield 37, 3) := by decide +kernel
theorem dX0_become_110 : decode cX0_become 110 = .ok (.iload_n 2, 1) := by decide +kernel
theorem dX0_become_111 : decode cX0_become 111 = .ok (.iaload, 1) := by decide +kernel
theorem dX0_become_112 : decode cX0_become 112 = .ok (.iastore, 1) := by decide +kernel
theorem dX0_become_113 : decode cX0_become 113 = .ok (.iinc 2 1, 3) := by decide +kernel
theorem dX0_become_116 : decode cX0_become 116 = .ok (.goto (-21), 3) := by decide +kernel
theorem dX0_become_119 : decode cX0_become 119 = .ok (.aload_n 0, 1) := by decide +kernel
theorem dX0_become_120 : decode cX0_become 120 = .ok (.aload_n 1, 1) := by decide +kernel
theorem dX0_become_121 : decode cX0_become 121 = .ok (.getfield 40, 3) := by decide +kernel
theorem dX0_become_124 : decode cX0_become 124 = .ok (.putfield 40, 3) := by decide +kernel
theorem dX0_become_127 : decode cX0_become 127 = .ok (.aload_n 0, 1) := by decide +kernel
theorem dX0_become_128 : decode cX0_become 128 = .ok (.aload_n 1, 1) := by decide +kernel
theorem dX0_become_129 : decode cX0_become 129 = .ok (.getfield 43, 3) := by decide +kernel
theorem dX0_become_132 : decode cX0_become 132 = .ok (.putfield 43, 3) := by decide +kernel
theorem dX0_become_135 : decode cX0_become 135 = .ok (.aload_n 0, 1) := by decide +kernel
theorem dX0_become_136 : decode cX0_become 136 = .ok (.aload_n 1, 1) := by decide +kernel
theorem dX0_become_137 : decode cX0_become 137 = .ok (.getfield 46, 3) := by decide +kernel
theorem dX0_become_140 : decode cX0_become 140 = .ok (.putfield 46, 3) := by decide +kernel
theorem dX0_become_143 : decode cX0_become 143 = .ok (.aload_n 0, 1) := by decide +kernel
theorem dX0_become_144 : decode cX0_become 144 = .ok (.aload_n 1, 1) := by decide +kernel
theorem dX0_become_145 : decode cX0_become 145 = .ok (.getfield 49, 3) := by decide +kernel
theorem dX0_become_148 : decode cX0_become 148 = .ok (.putfield 49, 3) := by decide +kernel
theorem dX0_become_151 : decode cX0_become 151 = .ok (.return_, 1) := by decide +kernel
theorem dX0_startAs_0 : decode cX0_startAs 0 = .ok (.aload_n 0, 1) := by decide +kernel
theorem dX0_startAs_1 : decode cX0_startAs 1 = .ok (.aload_n 1, 1) := by decide +kernel
theorem dX0_startAs_2 : decode cX0_startAs 2 = .ok (.invokevirtual 55, 3) := by decide +kernel
theorem dX0_startAs_5 : decode cX0_startAs 5 = .ok (.aload_n 0, 1) := by decide +kernel
theorem dX0_startAs_6 : decode cX0_startAs 6 = .ok (.invokevirtual 52, 3) := by decide +kernel
theorem dX0_startAs_9 : decode cX0_startAs 9 = .ok (.return_, 1) := by decide +kernel
theorem dX0_hasWheel_0 : decode cX0_hasWheel 0 = .ok (.iload_n 1, 1) := by decide +kernel
theorem dX0_hasWheel_1 : decode cX0_hasWheel 1 = .ok (.ifCond .lt 15, 3) := by decide +kernel
theorem dX0_hasWheel_4 : decode cX0_hasWheel 4 = .ok (.iload_n 1, 1) := by decide +kernel
theorem dX0_hasWheel_5 : decode cX0_hasWheel 5 = .ok (.aload_n 0, 1) := by decide +kernel
theorem dX0_hasWheel_6 : decode cX0_hasWheel 6 = .ok (.getfield 18, 3) := by decide +kernel
theorem dX0_hasWheel_9 : decode cX0_hasWheel 9 = .ok (.if_icmp .ge 7, 3) := by decide +kernel
theorem dX0_hasWheel_12 : decode cX0_hasWheel 12 = .ok (.iconst 1, 1) := by decide +kernel
theorem dX0_hasWheel_13 : decode cX0_hasWheel 13 = .ok (.goto 4, 3) := by decide +kernel
theorem dX0_hasWheel_16 : decode cX0_hasWheel 16 = .ok (.iconst 0, 1) := by decide +kernel
theorem dX0_hasWheel_17 : decode cX0_hasWheel 17 = .ok (.ireturn, 1) := by decide +kernel
theorem dX0_hasAct_0 : decode cX0_hasAct 0 = .ok (.iload_n 1, 1) := by decide +kernel
theorem dX0_hasAct_1 : decode cX0_hasAct 1 = .ok (.ifCond .lt 15, 3) := by decide +kernel
theorem dX0_hasAct_4 : decode cX0_hasAct 4 = .ok (.iload_n 1, 1) := by decide +kernel
theorem dX0_hasAct_5 : decode cX0_hasAct 5 = .ok (.aload_n 0, 1) := by decide +kernel
theorem dX0_hasAct_6 : decode cX0_hasAct 6 = .ok (.getfield 34, 3) := by decide +kernel
theorem dX0_hasAct_9 : decode cX0_hasAct 9 = .ok (.if_icmp .ge 7, 3) := by decide +kernel
theorem dX0_hasAct_12 : decode cX0_hasAct 12 = .ok (.iconst 1, 1) := by decide +kernel
theorem dX0_hasAct_13 : decode cX0_hasAct 13 = .ok (.goto 4, 3) := by decide +kernel
theorem dX0_hasAct_16 : decode cX0_hasAct 16 = .ok (.iconst 0, 1) := by decide +kernel
theorem dX0_hasAct_17 : decode cX0_hasAct 17 = .ok (.ireturn, 1) := by decide +kernel
theorem dX0_appendWheel_0 : decode cX0_appendWheel 0 = .ok (.aload_n 0, 1) := by decide +kernel
theorem dX0_appendWheel_1 : decode cX0_appendWheel 1 = .ok (.getfield 18, 3) := by decide +kernel
theorem dX0_appendWheel_4 : decode cX0_appendWheel 4 = .ok (.iconst 4, 1) := by decide +kernel
theorem dX0_appendWheel_5 : decode cX0_appendWheel 5 = .ok (.if_icmp .lt 6, 3) := by decide +kernel
theorem dX0_appendWheel_8 : decode cX0_appendWheel 8 = .ok (.bipush (-3), 2) := by decide +kernel
theorem dX0_appendWheel_10 : decode cX0_appendWheel 10 = .ok (.ireturn, 1) := by decide +kernel
theorem dX0_appendWheel_11 : decode cX0_appendWheel 11 = .ok (.aload_n 0, 1) := by decide +kernel
theorem dX0_appendWheel_12 : decode cX0_appendWheel 12 = .ok (.getfield 21, 3) := by decide +kernel
theorem dX0_appendWheel_15 : decode cX0_appendWheel 15 = .ok (.aload_n 0, 1) := by decide +kernel
theorem dX0_appendWheel_16 : decode cX0_appendWheel 16 = .ok (.getfield 18, 3) := by decide +kernel
theorem dX0_appendWheel_19 : decode cX0_appendWheel 19 = .ok (.iload_n 1, 1) := by decide +kernel
theorem dX0_appendWheel_20 : decode cX0_appendWheel 20 = .ok (.iastore, 1) := by decide +kernel
theorem dX0_appendWheel_21 : decode cX0_appendWheel 21 = .ok (.aload_n 0, 1) := by decide +kernel
theorem dX0_appendWheel_22 : decode cX0_appendWheel 22 = .ok (.getfield 25, 3) := by decide +kernel
theorem dX0_appendWheel_25 : decode cX0_appendWheel 25 = .ok (.aload_n 0, 1) := by decide +kernel
theorem dX0_appendWheel_26 : decode cX0_appendWheel 26 = .ok (.getfield 18, 3) := by decide +kernel
theorem dX0_appendWheel_29 : decode cX0_appendWheel 29 = .ok (.iload_n 2, 1) := by decide +kernel
theorem dX0_appendWheel_30 : decode cX0_appendWheel 30 = .ok (.iastore, 1) := by decide +kernel
theorem dX0_appendWheel_31 : decode cX0_appendWheel 31 = .ok (.aload_n 0, 1) := by decide +kernel
theorem dX0_appendWheel_32 : decode cX0_appendWheel 32 = .ok (.getfield 28, 3) := by decide +kernel
theorem dX0_appendWheel_35 : decode cX0_appendWheel 35 = .ok (.aload_n 0, 1) := by decide +kernel
theorem dX0_appendWheel_36 : decode cX0_appendWheel 36 = .ok (.getfield 18, 3) := by decide +kernel
theorem dX0_appendWheel_39 : decode cX0_appendWheel 39 = .ok (.iload_n 3, 1) := by decide +kernel
theorem dX0_appendWheel_40 : decode cX0_appendWheel 40 = .ok (.iastore, 1) := by decide +kernel
theorem dX0_appendWheel_41 : decode cX0_appendWheel 41 = .ok (.aload_n 0, 1) := by decide +kernel
theorem dX0_appendWheel_42 : decode cX0_appendWheel 42 = .ok (.getfield 31, 3) := by decide +kernel
theorem dX0_appendWheel_45 : decode cX0_appendWheel 45 = .ok (.aload_n 0, 1) := by decide +kernel
theorem dX0_appendWheel_46 : decode cX0_appendWheel 46 = .ok (.getfield 18, 3) := by decide +kernel
theorem dX0_appendWheel_49 : decode cX0_appendWheel 49 = .ok (.iconst 0, 1) := by decide +kernel
theorem dX0_appendWheel_50 : decode cX0_appendWheel 50 = .ok (.iastore, 1) := by decide +kernel
theorem dX0_appendWheel_51 : decode cX0_appendWheel 51 = .ok (.aload_n 0, 1) := by decide +kernel
theorem dX0_appendWheel_52 : decode cX0_appendWheel 52 = .ok (.dup, 1) := by decide +kernel
theorem dX0_appendWheel_53 : decode cX0_appendWheel 53 = .ok (.getfield 18, 3) := by decide +kernel
theorem dX0_appendWheel_56 : decode cX0_appendWheel 56 = .ok (.iconst 1, 1) := by decide +kernel
theorem dX0_appendWheel_57 : decode cX0_appendWheel 57 = .ok (.iadd, 1) := by decide +kernel
theorem dX0_appendWheel_58 : decode cX0_appendWheel 58 = .ok (.putfield 18, 3) := by decide +kernel
theorem dX0_appendWheel_61 : decode cX0_appendWheel 61 = .ok (.aload_n 0, 1) := by decide +kernel
theorem dX0_appendWheel_62 : decode cX0_appendWheel 62 = .ok (.getfield 18, 3) := by decide +kernel
theorem dX0_appendWheel_65 : decode cX0_appendWheel 65 = .ok (.ireturn, 1) := by decide +kernel
theorem dX0_appendAct_0 : decode cX0_appendAct 0 = .ok (.aload_n 0, 1) := by decide +kernel
theorem dX0_appendAct_1 : decode cX0_appendAct 1 = .ok (.getfield 34, 3) := by decide +kernel
theorem dX0_appendAct_4 : decode cX0_appendAct 4 = .ok (.bipush 16, 2) := by decide +kernel
theorem dX0_appendAct_6 : decode cX0_appendAct 6 = .ok (.if_icmp .lt 6, 3) := by decide +kernel
theorem dX0_appendAct_9 : decode cX0_appendAct 9 = .ok (.bipush (-3), 2) := by decide +kernel
theorem dX0_appendAct_11 : decode cX0_appendAct 11 = .ok (.ireturn, 1) := by decide +kernel
theorem dX0_appendAct_12 : decode cX0_appendAct 12 = .ok (.aload_n 0, 1) := by decide +kernel
theorem dX0_appendAct_13 : decode cX0_appendAct 13 = .ok (.getfield 37, 3) := by decide +kernel
theorem dX0_appendAct_16 : decode cX0_appendAct 16 = .ok (.aload_n 0, 1) := by decide +kernel
theorem dX0_appendAct_17 : decode cX0_appendAct 17 = .ok (.getfield 34, 3) := by decide +kernel
theorem dX0_appendAct_20 : decode cX0_appendAct 20 = .ok (.iload_n 1, 1) := by decide +kernel
theorem dX0_appendAct_21 : decode cX0_appendAct 21 = .ok (.iastore, 1) := by decide +kernel
theorem dX0_appendAct_22 : decode cX0_appendAct 22 = .ok (.aload_n 0, 1) := by decide +kernel
theorem dX0_appendAct_23 : decode cX0_appendAct 23 = .ok (.dup, 1) := by decide +kernel
theorem dX0_appendAct_24 : decode cX0_appendAct 24 = .ok (.getfield 34, 3) := by decide +kernel
theorem dX0_appendAct_27 : decode cX0_appendAct 27 = .ok (.iconst 1, 1) := by decide +kernel
theorem dX0_appendAct_28 : decode cX0_appendAct 28 = .ok (.iadd, 1) := by decide +kernel
theorem dX0_appendAct_29 : decode cX0_appendAct 29 = .ok (.putfield 34, 3) := by decide +kernel
theorem dX0_appendAct_32 : decode cX0_appendAct 32 = .ok (.aload_n 0, 1) := by decide +kernel
theorem dX0_appendAct_33 : decode cX0_appendAct 33 = .ok (.getfield 34, 3) := by decide +kernel
theorem dX0_appendAct_36 : decode cX0_appendAct 36 = .ok (.ireturn, 1) := by decide +kernel
theorem dX0_shaftSpeed_0 : decode cX0_shaftSpeed 0 = .ok (.aload_n 0, 1) := by decide +kernel
theorem dX0_shaftSpeed_1 : decode cX0_shaftSpeed 1 = .ok (.getfield 15, 3) := by decide +kernel
theorem dX0_shaftSpeed_4 : decode cX0_shaftSpeed 4 = .ok (.aload_n 0, 1) := by decide +kernel
theorem dX0_shaftSpeed_5 : decode cX0_shaftSpeed 5 = .ok (.getfield 9, 3) := by decide +kernel
theorem dX0_shaftSpeed_8 : decode cX0_shaftSpeed 8 = .ok (.invokestatic 59, 3) := by decide +kernel
theorem dX0_shaftSpeed_11 : decode cX0_shaftSpeed 11 = .ok (.ireturn, 1) := by decide +kernel
theorem dX0_allSwing_0 : decode cX0_allSwing 0 = .ok (.aload_n 0, 1) := by decide +kernel
theorem dX0_allSwing_1 : decode cX0_allSwing 1 = .ok (.getfield 15, 3) := by decide +kernel
theorem dX0_allSwing_4 : decode cX0_allSwing 4 = .ok (.aload_n 0, 1) := by decide +kernel
theorem dX0_allSwing_5 : decode cX0_allSwing 5 = .ok (.aload_n 0, 1) := by decide +kernel
theorem dX0_allSwing_6 : decode cX0_allSwing 6 = .ok (.getfield 31, 3) := by decide +kernel
theorem dX0_allSwing_9 : decode cX0_allSwing 9 = .ok (.invokevirtual 63, 3) := by decide +kernel
theorem dX0_allSwing_12 : decode cX0_allSwing 12 = .ok (.iadd, 1) := by decide +kernel
theorem dX0_allSwing_13 : decode cX0_allSwing 13 = .ok (.ireturn, 1) := by decide +kernel
theorem dX0_sumOfWheels_0 : decode cX0_sumOfWheels 0 = .ok (.iconst 0, 1) := by decide +kernel
theorem dX0_sumOfWheels_1 : decode cX0_sumOfWheels 1 = .ok (.istore_n 2, 1) := by decide +kernel
theorem dX0_sumOfWheels_2 : decode cX0_sumOfWheels 2 = .ok (.iconst 0, 1) := by decide +kernel
theorem dX0_sumOfWheels_3 : decode cX0_sumOfWheels 3 = .ok (.istore_n 3, 1) := by decide +kernel
theorem dX0_sumOfWheels_4 : decode cX0_sumOfWheels 4 = .ok (.iload_n 3, 1) := by decide +kernel
theorem dX0_sumOfWheels_5 : decode cX0_sumOfWheels 5 = .ok (.aload_n 0, 1) := by decide +kernel
theorem dX0_sumOfWheels_6 : decode cX0_sumOfWheels 6 = .ok (.getfield 18, 3) := by decide +kernel
theorem dX0_sumOfWheels_9 : decode cX0_sumOfWheels 9 = .ok (.if_icmp .ge 15, 3) := by decide +kernel
theorem dX0_sumOfWheels_12 : decode cX0_sumOfWheels 12 = .ok (.iload_n 2, 1) := by decide +kernel
theorem dX0_sumOfWheels_13 : decode cX0_sumOfWheels 13 = .ok (.aload_n 1, 1) := by decide +kernel
theorem dX0_sumOfWheels_14 : decode cX0_sumOfWheels 14 = .ok (.iload_n 3, 1) := by decide +kernel
theorem dX0_sumOfWheels_15 : decode cX0_sumOfWheels 15 = .ok (.iaload, 1) := by decide +kernel
theorem dX0_sumOfWheels_16 : decode cX0_sumOfWheels 16 = .ok (.iadd, 1) := by decide +kernel
theorem dX0_sumOfWheels_17 : decode cX0_sumOfWheels 17 = .ok (.istore_n 2, 1) := by decide +kernel
theorem dX0_sumOfWheels_18 : decode cX0_sumOfWheels 18 = .ok (.iinc 3 1, 3) := by decide +kernel
theorem dX0_sumOfWheels_21 : decode cX0_sumOfWheels 21 = .ok (.goto (-17), 3) := by decide +kernel
theorem dX0_sumOfWheels_24 : decode cX0_sumOfWheels 24 = .ok (.iload_n 2, 1) := by decide +kernel
theorem dX0_sumOfWheels_25 : decode cX0_sumOfWheels 25 = .ok (.ireturn, 1) := by decide +kernel
theorem dX0_swingsAs_0 : decode cX0_swingsAs 0 = .ok (.aload_n 0, 1) := by decide +kernel
theorem dX0_swingsAs_1 : decode cX0_swingsAs 1 = .ok (.getfield 15, 3) := by decide +kernel
theorem dX0_swingsAs_4 : decode cX0_swingsAs 4 = .ok (.aload_n 1, 1) := by decide +kernel
theorem dX0_swingsAs_5 : decode cX0_swingsAs 5 = .ok (.getfield 15, 3) := by decide +kernel
theorem dX0_swingsAs_8 : decode cX0_swingsAs 8 = .ok (.if_icmp .ne 14, 3) := by decide +kernel
theorem dX0_swingsAs_11 : decode cX0_swingsAs 11 = .ok (.aload_n 0, 1) := by decide +kernel
theorem dX0_swingsAs_12 : decode cX0_swingsAs 12 = .ok (.getfield 18, 3) := by decide +kernel
theorem dX0_swingsAs_15 : decode cX0_swingsAs 15 = .ok (.aload_n 1, 1) := by decide +kernel
theorem dX0_swingsAs_16 : decode cX0_swingsAs 16 = .ok (.getfield 18, 3) := by decide +kernel
theorem dX0_swingsAs_19 : decode cX0_swingsAs 19 = .ok (.if_icmp .eq 5, 3) := by decide +kernel
theorem dX0_swingsAs_22 : decode cX0_swingsAs 22 = .ok (.iconst 0, 1) := by decide +kernel
theorem dX0_swingsAs_23 : decode cX0_swingsAs 23 = .ok (.ireturn, 1) := by decide +kernel
theorem dX0_swingsAs_24 : decode cX0_swingsAs 24 = .ok (.iconst 0, 1) := by decide +kernel
theorem dX0_swingsAs_25 : decode cX0_swingsAs 25 = .ok (.istore_n 2, 1) := by decide +kernel
theorem dX0_swingsAs_26 : decode cX0_swingsAs 26 = .ok (.iload_n 2, 1) := by decide +kernel
theorem dX0_swingsAs_27 : decode cX0_swingsAs 27 = .ok (.aload_n 0, 1) := by decide +kernel
theorem dX0_swingsAs_28 : decode cX0_swingsAs 28 = .ok (.getfield 18, 3) := by decide +kernel
theorem dX0_swingsAs_31 : decode cX0_swingsAs 31 = .ok (.if_icmp .ge 26, 3) := by decide +kernel
theorem dX0_swingsAs_34 : decode cX0_swingsAs 34 = .ok (.aload_n 0, 1) := by decide +kernel
theorem dX0_swingsAs_35 : decode cX0_swingsAs 35 = .ok (.getfield 31, 3) := by decide +kernel
theorem dX0_swingsAs_38 : decode cX0_swingsAs 38 = .ok (.iload_n 2, 1) := by decide +kernel
theorem dX0_swingsAs_39 : decode cX0_swingsAs 39 = .ok (.iaload, 1) := by decide +kernel
theorem dX0_swingsAs_40 : decode cX0_swingsAs 40 = .ok (.aload_n 1, 1) := by decide +kernel
theorem dX0_swingsAs_41 : decode cX0_swingsAs 41 = .ok (.getfield 31, 3) := by decide +kernel
theorem dX0_swingsAs_44 : decode cX0_swingsAs 44 = .ok (.iload_n 2, 1) := by decide +kernel
theorem dX0_swingsAs_45 : decode cX0_swingsAs 45 = .ok (.iaload, 1) := by decide +kernel
theorem dX0_swingsAs_46 : decode cX0_swingsAs 46 = .ok (.if_icmp .eq 5, 3) := by decide +kernel
theorem dX0_swingsAs_49 : decode cX0_swingsAs 49 = .ok (.iconst 0, 1) := by decide +kernel
theorem dX0_swingsAs_50 : decode cX0_swingsAs 50 = .ok (.ireturn, 1) := by decide +kernel
theorem dX0_swingsAs_51 : decode cX0_swingsAs 51 = .ok (.iinc 2 1, 3) := by decide +kernel
theorem dX0_swingsAs_54 : decode cX0_swingsAs 54 = .ok (.goto (-28), 3) := by decide +kernel
theorem dX0_swingsAs_57 : decode cX0_swingsAs 57 = .ok (.iconst 1, 1) := by decide +kernel
theorem dX0_swingsAs_58 : decode cX0_swingsAs 58 = .ok (.ireturn, 1) := by decide +kernel
theorem dX0_dueNumber_0 : decode cX0_dueNumber 0 = .ok (.aload_n 0, 1) := by decide +kernel
theorem dX0_dueNumber_1 : decode cX0_dueNumber 1 = .ok (.getfield 34, 3) := by decide +kernel
theorem dX0_dueNumber_4 : decode cX0_dueNumber 4 = .ok (.ifCond .le 15, 3) := by decide +kernel
theorem dX0_dueNumber_7 : decode cX0_dueNumber 7 = .ok (.aload_n 0, 1) := by decide +kernel
theorem dX0_dueNumber_8 : decode cX0_dueNumber 8 = .ok (.getfield 40, 3) := by decide +kernel
theorem dX0_dueNumber_11 : decode cX0_dueNumber 11 = .ok (.aload_n 0, 1) := by decide +kernel
theorem dX0_dueNumber_12 : decode cX0_dueNumber 12 = .ok (.getfield 34, 3) := by decide +kernel
theorem dX0_dueNumber_15 : decode cX0_dueNumber 15 = .ok (.irem, 1) := by decide +kernel
theorem dX0_dueNumber_16 : decode cX0_dueNumber 16 = .ok (.goto 4, 3) := by decide +kernel
theorem dX0_dueNumber_19 : decode cX0_dueNumber 19 = .ok (.iconst 0, 1) := by decide +kernel
theorem dX0_dueNumber_20 : decode cX0_dueNumber 20 = .ok (.ireturn, 1) := by decide +kernel
theorem dX0_dueAct_0 : decode cX0_dueAct 0 = .ok (.aload_n 0, 1) := by decide +kernel
theorem dX0_dueAct_1 : decode cX0_dueAct 1 = .ok (.getfield 34, 3) := by decide +kernel
theorem dX0_dueAct_4 : decode cX0_dueAct 4 = .ok (.ifCond .le 15, 3) := by decide +kernel
theorem dX0_dueAct_7 : decode cX0_dueAct 7 = .ok (.aload_n 0, 1) := by decide +kernel
theorem dX0_dueAct_8 : decode cX0_dueAct 8 = .ok (.getfield 37, 3) := by decide +kernel
theorem dX0_dueAct_11 : decode cX0_dueAct 11 = .ok (.aload_n 0, 1) := by decide +kernel
theorem dX0_dueAct_12 : decode cX0_dueAct 12 = .ok (.invokevirtual 67, 3) := by decide +kernel
theorem dX0_dueAct_15 : decode cX0_dueAct 15 = .ok (.iaload, 1) := by decide +kernel
theorem dX0_dueAct_16 : decode cX0_dueAct 16 = .ok (.goto 4, 3) := by decide +kernel
theorem dX0_dueAct_19 : decode cX0_dueAct 19 = .ok (.iconst 0, 1) := by decide +kernel
theorem dX0_dueAct_20 : decode cX0_dueAct 20 = .ok (.ireturn, 1) := by decide +kernel
theorem dX0_neverJoin_0 : decode cX0_neverJoin 0 = .ok (.iconst 0, 1) := by decide +kernel
theorem dX0_neverJoin_1 : decode cX0_neverJoin 1 = .ok (.istore_n 2, 1) := by decide +kernel
theorem dX0_neverJoin_2 : decode cX0_neverJoin 2 = .ok (.iload_n 2, 1) := by decide +kernel
theorem dX0_neverJoin_3 : decode cX0_neverJoin 3 = .ok (.aload_n 0, 1) := by decide +kernel
theorem dX0_neverJoin_4 : decode cX0_neverJoin 4 = .ok (.getfield 34, 3) := by decide +kernel
theorem dX0_neverJoin_7 : decode cX0_neverJoin 7 = .ok (.if_icmp .ge 30, 3) := by decide +kernel
theorem dX0_neverJoin_10 : decode cX0_neverJoin 10 = .ok (.aload_n 0, 1) := by decide +kernel
theorem dX0_neverJoin_11 : decode cX0_neverJoin 11 = .ok (.getfield 37, 3) := by decide +kernel
theorem dX0_neverJoin_14 : decode cX0_neverJoin 14 = .ok (.iload_n 2, 1) := by decide +kernel
theorem dX0_neverJoin_15 : decode cX0_neverJoin 15 = .ok (.iaload, 1) := by decide +kernel
theorem dX0_neverJoin_16 : decode cX0_neverJoin 16 = .ok (.sipush 200, 3) := by decide +kernel
theorem dX0_neverJoin_19 : decode cX0_neverJoin 19 = .ok (.iload_n 1, 1) := by decide +kernel
theorem dX0_neverJoin_20 : decode cX0_neverJoin 20 = .ok (.iadd, 1) := by decide +kernel
theorem dX0_neverJoin_21 : decode cX0_neverJoin 21 = .ok (.if_icmp .ne 10, 3) := by decide +kernel
theorem dX0_neverJoin_24 : decode cX0_neverJoin 24 = .ok (.aload_n 0, 1) := by decide +kernel
theorem dX0_neverJoin_25 : decode cX0_neverJoin 25 = .ok (.getfield 37, 3) := by decide +kernel
theorem dX0_neverJoin_28 : decode cX0_neverJoin 28 = .ok (.iload_n 2, 1) := by decide +kernel
theorem dX0_neverJoin_29 : decode cX0_neverJoin 29 = .ok (.iconst 0, 1) := by decide +kernel
theorem dX0_neverJoin_30 : decode cX0_neverJoin 30 = .ok (.iastore, 1) := by decide +kernel
theorem dX0_neverJoin_31 : decode cX0_neverJoin 31 = .ok (.iinc 2 1, 3) := by decide +kernel
theorem dX0_neverJoin_34 : decode cX0_neverJoin 34 = .ok (.goto (-32), 3) := by decide +kernel
theorem dX0_neverJoin_37 : decode cX0_neverJoin 37 = .ok (.return_, 1) := by decide +kernel
theorem dX0_perform_0 : decode cX0_perform 0 = .ok (.iload_n 1, 1) := by decide +kernel
theorem dX0_perform_1 : decode cX0_perform 1 = .ok (.bipush 100, 2) := by decide +kernel
theorem dX0_perform_3 : decode cX0_perform 3 = .ok (.if_icmp .ge 16, 3) := by decide +kernel
theorem dX0_perform_6 : decode cX0_perform 6 = .ok (.aload_n 0, 1) := by decide +kernel
theorem dX0_perform_7 : decode cX0_perform 7 = .ok (.dup, 1) := by decide +kernel
theorem dX0_perform_8 : decode cX0_perform 8 = .ok (.getfield 15, 3) := by decide +kernel
theorem dX0_perform_11 : decode cX0_perform 11 = .ok (.iload_n 1, 1) := by decide +kernel
theorem dX0_perform_12 : decode cX0_perform 12 = .ok (.iadd, 1) := by decide +kernel
theorem dX0_perform_13 : decode cX0_perform 13 = .ok (.putfield 15, 3) := by decide +kernel
theorem dX0_perform_16 : decode cX0_perform 16 = .ok (.goto 42, 3) := by decide +kernel
theorem dX0_perform_19 : decode cX0_perform 19 = .ok (.iload_n 1, 1) := by decide +kernel
theorem dX0_perform_20 : decode cX0_perform 20 = .ok (.sipush 200, 3) := by decide +kernel
theorem dX0_perform_23 : decode cX0_perform 23 = .ok (.if_icmp .ge 14, 3) := by decide +kernel
theorem dX0_perform_26 : decode cX0_perform 26 = .ok (.aload_n 0, 1) := by decide +kernel
theorem dX0_perform_27 : decode cX0_perform 27 = .ok (.iload_n 1, 1) := by decide +kernel
theorem dX0_perform_28 : decode cX0_perform 28 = .ok (.bipush 100, 2) := by decide +kernel
theorem dX0_perform_30 : decode cX0_perform 30 = .ok (.isub, 1) := by decide +kernel
theorem dX0_perform_31 : decode cX0_perform 31 = .ok (.invokevirtual 71, 3) := by decide +kernel
theorem dX0_perform_34 : decode cX0_perform 34 = .ok (.goto 24, 3) := by decide +kernel
theorem dX0_perform_37 : decode cX0_perform 37 = .ok (.aload_n 0, 1) := by decide +kernel
theorem dX0_perform_38 : decode cX0_perform 38 = .ok (.iload_n 1, 1) := by decide +kernel
theorem dX0_perform_39 : decode cX0_perform 39 = .ok (.sipush 200, 3) := by decide +kernel
theorem dX0_perform_42 : decode cX0_perform 42 = .ok (.isub, 1) := by decide +kernel
theorem dX0_perform_43 : decode cX0_perform 43 = .ok (.invokevirtual 75, 3) := by decide +kernel
theorem dX0_perform_46 : decode cX0_perform 46 = .ok (.ifCond .eq 12, 3) := by decide +kernel
theorem dX0_perform_49 : decode cX0_perform 49 = .ok (.aload_n 0, 1) := by decide +kernel
theorem dX0_perform_50 : decode cX0_perform 50 = .ok (.iload_n 1, 1) := by decide +kernel
theorem dX0_perform_51 : decode cX0_perform 51 = .ok (.sipush 200, 3) := by decide +kernel
theorem dX0_perform_54 : decode cX0_perform 54 = .ok (.isub, 1) := by decide +kernel
theorem dX0_perform_55 : decode cX0_perform 55 = .ok (.invokevirtual 79, 3) := by decide +kernel
theorem dX0_perform_58 : decode cX0_perform 58 = .ok (.return_, 1) := by decide +kernel
theorem dX0_takeLoad_0 : decode cX0_takeLoad 0 = .ok (.iload_n 1, 1) := by decide +kernel
theorem dX0_takeLoad_1 : decode cX0_takeLoad 1 = .ok (.aload_n 0, 1) := by decide +kernel
theorem dX0_takeLoad_2 : decode cX0_takeLoad 2 = .ok (.getfield 15, 3) := by decide +kernel
theorem dX0_takeLoad_5 : decode cX0_takeLoad 5 = .ok (.invokestatic 82, 3) := by decide +kernel
theorem dX0_takeLoad_8 : decode cX0_takeLoad 8 = .ok (.istore_n 2, 1) := by decide +kernel
theorem dX0_takeLoad_9 : decode cX0_takeLoad 9 = .ok (.aload_n 0, 1) := by decide +kernel
theorem dX0_takeLoad_10 : decode cX0_takeLoad 10 = .ok (.dup, 1) := by decide +kernel
theorem dX0_takeLoad_11 : decode cX0_takeLoad 11 = .ok (.getfield 15, 3) := by decide +kernel
theorem dX0_takeLoad_14 : decode cX0_takeLoad 14 = .ok (.iload_n 2, 1) := by decide +kernel
theorem dX0_takeLoad_15 : decode cX0_takeLoad 15 = .ok (.isub, 1) := by decide +kernel
theorem dX0_takeLoad_16 : decode cX0_takeLoad 16 = .ok (.putfield 15, 3) := by decide +kernel
theorem dX0_takeLoad_19 : decode cX0_takeLoad 19 = .ok (.aload_n 0, 1) := by decide +kernel
theorem dX0_takeLoad_20 : decode cX0_takeLoad 20 = .ok (.dup, 1) := by decide +kernel
theorem dX0_takeLoad_21 : decode cX0_takeLoad 21 = .ok (.getfield 43, 3) := by decide +kernel
theorem dX0_takeLoad_24 : decode cX0_takeLoad 24 = .ok (.iload_n 2, 1) := by decide +kernel
theorem dX0_takeLoad_25 : decode cX0_takeLoad 25 = .ok (.iadd, 1) := by decide +kernel
theorem dX0_takeLoad_26 : decode cX0_takeLoad 26 = .ok (.putfield 43, 3) := by decide +kernel
theorem dX0_takeLoad_29 : decode cX0_takeLoad 29 = .ok (.aload_n 0, 1) := by decide +kernel
theorem dX0_takeLoad_30 : decode cX0_takeLoad 30 = .ok (.dup, 1) := by decide +kernel
theorem dX0_takeLoad_31 : decode cX0_takeLoad 31 = .ok (.getfield 46, 3) := by decide +kernel
theorem dX0_takeLoad_34 : decode cX0_takeLoad 34 = .ok (.iload_n 1, 1) := by decide +kernel
theorem dX0_takeLoad_35 : decode cX0_takeLoad 35 = .ok (.iload_n 2, 1) := by decide +kernel
theorem dX0_takeLoad_36 : decode cX0_takeLoad 36 = .ok (.isub, 1) := by decide +kernel
theorem dX0_takeLoad_37 : decode cX0_takeLoad 37 = .ok (.iadd, 1) := by decide +kernel
theorem dX0_takeLoad_38 : decode cX0_takeLoad 38 = .ok (.putfield 46, 3) := by decide +kernel
theorem dX0_takeLoad_41 : decode cX0_takeLoad 41 = .ok (.return_, 1) := by decide +kernel
theorem dX0_joinWheel_0 : decode cX0_joinWheel 0 = .ok (.aload_n 0, 1) := by decide +kernel
theorem dX0_joinWheel_1 : decode cX0_joinWheel 1 = .ok (.getfield 15, 3) := by decide +kernel
theorem dX0_joinWheel_4 : decode cX0_joinWheel 4 = .ok (.aload_n 0, 1) := by decide +kernel
theorem dX0_joinWheel_5 : decode cX0_joinWheel 5 = .ok (.getfield 31, 3) := by decide +kernel
theorem dX0_joinWheel_8 : decode cX0_joinWheel 8 = .ok (.iload_n 1, 1) := by decide +kernel
theorem dX0_joinWheel_9 : decode cX0_joinWheel 9 = .ok (.iaload, 1) := by decide +kernel
theorem dX0_joinWheel_10 : decode cX0_joinWheel 10 = .ok (.iadd, 1) := by decide +kernel
theorem dX0_joinWheel_11 : decode cX0_joinWheel 11 = .ok (.istore_n 2, 1) := by decide +kernel
theorem dX0_joinWheel_12 : decode cX0_joinWheel 12 = .ok (.aload_n 0, 1) := by decide +kernel
theorem dX0_joinWheel_13 : decode cX0_joinWheel 13 = .ok (.getfield 31, 3) := by decide +kernel
theorem dX0_joinWheel_16 : decode cX0_joinWheel 16 = .ok (.iload_n 1, 1) := by decide +kernel
theorem dX0_joinWheel_17 : decode cX0_joinWheel 17 = .ok (.aload_n 0, 1) := by decide +kernel
theorem dX0_joinWheel_18 : decode cX0_joinWheel 18 = .ok (.iload_n 1, 1) := by decide +kernel
theorem dX0_joinWheel_19 : decode cX0_joinWheel 19 = .ok (.invokevirtual 87, 3) := by decide +kernel
theorem dX0_joinWheel_22 : decode cX0_joinWheel 22 = .ok (.iastore, 1) := by decide +kernel
theorem dX0_joinWheel_23 : decode cX0_joinWheel 23 = .ok (.aload_n 0, 1) := by decide +kernel
theorem dX0_joinWheel_24 : decode cX0_joinWheel 24 = .ok (.iload_n 2, 1) := by decide +kernel
theorem dX0_joinWheel_25 : decode cX0_joinWheel 25 = .ok (.aload_n 0, 1) := by decide +kernel
theorem dX0_joinWheel_26 : decode cX0_joinWheel 26 = .ok (.getfield 31, 3) := by decide +kernel
theorem dX0_joinWheel_29 : decode cX0_joinWheel 29 = .ok (.iload_n 1, 1) := by decide +kernel
theorem dX0_joinWheel_30 : decode cX0_joinWheel 30 = .ok (.iaload, 1) := by decide +kernel
theorem dX0_joinWheel_31 : decode cX0_joinWheel 31 = .ok (.isub, 1) := by decide +kernel
theorem dX0_joinWheel_32 : decode cX0_joinWheel 32 = .ok (.putfield 15, 3) := by decide +kernel
theorem dX0_joinWheel_35 : decode cX0_joinWheel 35 = .ok (.return_, 1) := by decide +kernel
theorem dX0_joinedSwing_0 : decode cX0_joinedSwing 0 = .ok (.aload_n 0, 1) := by decide +kernel
theorem dX0_joinedSwing_1 : decode cX0_joinedSwing 1 = .ok (.getfield 31, 3) := by decide +kernel
theorem dX0_joinedSwing_4 : decode cX0_joinedSwing 4 = .ok (.iload_n 1, 1) := by decide +kernel
theorem dX0_joinedSwing_5 : decode cX0_joinedSwing 5 = .ok (.iaload, 1) := by decide +kernel
theorem dX0_joinedSwing_6 : decode cX0_joinedSwing 6 = .ok (.istore_n 2, 1) := by decide +kernel
theorem dX0_joinedSwing_7 : decode cX0_joinedSwing 7 = .ok (.iload_n 2, 1) := by decide +kernel
theorem dX0_joinedSwing_8 : decode cX0_joinedSwing 8 = .ok (.aload_n 0, 1) := by decide +kernel
theorem dX0_joinedSwing_9 : decode cX0_joinedSwing 9 = .ok (.getfield 15, 3) := by decide +kernel
theorem dX0_joinedSwing_12 : decode cX0_joinedSwing 12 = .ok (.iadd, 1) := by decide +kernel
theorem dX0_joinedSwing_13 : decode cX0_joinedSwing 13 = .ok (.aload_n 0, 1) := by decide +kernel
theorem dX0_joinedSwing_14 : decode cX0_joinedSwing 14 = .ok (.getfield 25, 3) := by decide +kernel
theorem dX0_joinedSwing_17 : decode cX0_joinedSwing 17 = .ok (.iload_n 1, 1) := by decide +kernel
theorem dX0_joinedSwing_18 : decode cX0_joinedSwing 18 = .ok (.iaload, 1) := by decide +kernel
theorem dX0_joinedSwing_19 : decode cX0_joinedSwing 19 = .ok (.imul, 1) := by decide +kernel
theorem dX0_joinedSwing_20 : decode cX0_joinedSwing 20 = .ok (.aload_n 0, 1) := by decide +kernel
theorem dX0_joinedSwing_21 : decode cX0_joinedSwing 21 = .ok (.getfield 25, 3) := by decide +kernel
theorem dX0_joinedSwing_24 : decode cX0_joinedSwing 24 = .ok (.iload_n 1, 1) := by decide +kernel
theorem dX0_joinedSwing_25 : decode cX0_joinedSwing 25 = .ok (.iaload, 1) := by decide +kernel
theorem dX0_joinedSwing_26 : decode cX0_joinedSwing 26 = .ok (.aload_n 0, 1) := by decide +kernel
theorem dX0_joinedSwing_27 : decode cX0_joinedSwing 27 = .ok (.getfield 9, 3) := by decide +kernel
theorem dX0_joinedSwing_30 : decode cX0_joinedSwing 30 = .ok (.iadd, 1) := by decide +kernel
theorem dX0_joinedSwing_31 : decode cX0_joinedSwing 31 = .ok (.invokestatic 59, 3) := by decide +kernel
theorem dX0_joinedSwing_34 : decode cX0_joinedSwing 34 = .ok (.istore_n 3, 1) := by decide +kernel
theorem dX0_joinedSwing_35 : decode cX0_joinedSwing 35 = .ok (.aload_n 0, 1) := by decide +kernel
theorem dX0_joinedSwing_36 : decode cX0_joinedSwing 36 = .ok (.getfield 21, 3) := by decide +kernel
theorem dX0_joinedSwing_39 : decode cX0_joinedSwing 39 = .ok (.iload_n 1, 1) := by decide +kernel
theorem dX0_joinedSwing_40 : decode cX0_joinedSwing 40 = .ok (.iaload, 1) := by decide +kernel
theorem dX0_joinedSwing_41 : decode cX0_joinedSwing 41 = .ok (.tableswitch 43 0 2 #[27, 29, 37], 27) := by decide +kernel
theorem dX0_joinedSwing_68 : decode cX0_joinedSwing 68 = .ok (.iload_n 3, 1) := by decide +kernel
theorem dX0_joinedSwing_69 : decode cX0_joinedSwing 69 = .ok (.ireturn, 1) := by decide +kernel
theorem dX0_joinedSwing_70 : decode cX0_joinedSwing 70 = .ok (.iload_n 2, 1) := by decide +kernel
theorem dX0_joinedSwing_71 : decode cX0_joinedSwing 71 = .ok (.iload_n 3, 1) := by decide +kernel
theorem dX0_joinedSwing_72 : decode cX0_joinedSwing 72 = .ok (.iload_n 2, 1) := by decide +kernel
theorem dX0_joinedSwing_73 : decode cX0_joinedSwing 73 = .ok (.isub, 1) := by decide +kernel
theorem dX0_joinedSwing_74 : decode cX0_joinedSwing 74 = .ok (.iconst 2, 1) := by decide +kernel
theorem dX0_joinedSwing_75 : decode cX0_joinedSwing 75 = .ok (.idiv, 1) := by decide +kernel
theorem dX0_joinedSwing_76 : decode cX0_joinedSwing 76 = .ok (.iadd, 1) := by decide +kernel
theorem dX0_joinedSwing_77 : decode cX0_joinedSwing 77 = .ok (.ireturn, 1) := by decide +kernel
theorem dX0_joinedSwing_78 : decode cX0_joinedSwing 78 = .ok (.iload_n 3, 1) := by decide +kernel
theorem dX0_joinedSwing_79 : decode cX0_joinedSwing 79 = .ok (.iload_n 2, 1) := by decide +kernel
theorem dX0_joinedSwing_80 : decode cX0_joinedSwing 80 = .ok (.invokestatic 91, 3) := by decide +kernel
theorem dX0_joinedSwing_83 : decode cX0_joinedSwing 83 = .ok (.ireturn, 1) := by decide +kernel
theorem dX0_joinedSwing_84 : decode cX0_joinedSwing 84 = .ok (.iload_n 3, 1) := by decide +kernel
theorem dX0_joinedSwing_85 : decode cX0_joinedSwing 85 = .ok (.iload_n 2, 1) := by decide +kernel
theorem dX0_joinedSwing_86 : decode cX0_joinedSwing 86 = .ok (.invokestatic 91, 3) := by decide +kernel
theorem dX0_joinedSwing_89 : decode cX0_joinedSwing 89 = .ok (.iload_n 2, 1) := by decide +kernel
theorem dX0_joinedSwing_90 : decode cX0_joinedSwing 90 = .ok (.bipush 20, 2) := by decide +kernel
theorem dX0_joinedSwing_92 : decode cX0_joinedSwing 92 = .ok (.iadd, 1) := by decide +kernel
theorem dX0_joinedSwing_93 : decode cX0_joinedSwing 93 = .ok (.invokestatic 82, 3) := by decide +kernel
theorem dX0_joinedSwing_96 : decode cX0_joinedSwing 96 = .ok (.ireturn, 1) := by decide +kernel
theorem dX0_passTick_0 : decode cX0_passTick 0 = .ok (.aload_n 0, 1) := by decide +kernel
theorem dX0_passTick_1 : decode cX0_passTick 1 = .ok (.iload_n 1, 1) := by decide +kernel
theorem dX0_passTick_2 : decode cX0_passTick 2 = .ok (.invokevirtual 94, 3) := by decide +kernel
theorem dX0_passTick_5 : decode cX0_passTick 5 = .ok (.iconst 0, 1) := by decide +kernel
theorem dX0_passTick_6 : decode cX0_passTick 6 = .ok (.istore_n 2, 1) := by decide +kernel
theorem dX0_passTick_7 : decode cX0_passTick 7 = .ok (.iload_n 2, 1) := by decide +kernel
theorem dX0_passTick_8 : decode cX0_passTick 8 = .ok (.aload_n 0, 1) := by decide +kernel
theorem dX0_passTick_9 : decode cX0_passTick 9 = .ok (.getfield 18, 3) := by decide +kernel
theorem dX0_passTick_12 : decode cX0_passTick 12 = .ok (.if_icmp .ge 45, 3) := by decide +kernel
theorem dX0_passTick_15 : decode cX0_passTick 15 = .ok (.aload_n 0, 1) := by decide +kernel
theorem dX0_passTick_16 : decode cX0_passTick 16 = .ok (.getfield 28, 3) := by decide +kernel
theorem dX0_passTick_19 : decode cX0_passTick 19 = .ok (.iload_n 2, 1) := by decide +kernel
theorem dX0_passTick_20 : decode cX0_passTick 20 = .ok (.iaload, 1) := by decide +kernel
theorem dX0_passTick_21 : decode cX0_passTick 21 = .ok (.aload_n 0, 1) := by decide +kernel
theorem dX0_passTick_22 : decode cX0_passTick 22 = .ok (.getfield 31, 3) := by decide +kernel
theorem dX0_passTick_25 : decode cX0_passTick 25 = .ok (.iload_n 2, 1) := by decide +kernel
theorem dX0_passTick_26 : decode cX0_passTick 26 = .ok (.iaload, 1) := by decide +kernel
theorem dX0_passTick_27 : decode cX0_passTick 27 = .ok (.invokestatic 82, 3) := by decide +kernel
theorem dX0_passTick_30 : decode cX0_passTick 30 = .ok (.istore_n 3, 1) := by decide +kernel
theorem dX0_passTick_31 : decode cX0_passTick 31 = .ok (.aload_n 0, 1) := by decide +kernel
theorem dX0_passTick_32 : decode cX0_passTick 32 = .ok (.getfield 31, 3) := by decide +kernel
theorem dX0_passTick_35 : decode cX0_passTick 35 = .ok (.iload_n 2, 1) := by decide +kernel
theorem dX0_passTick_36 : decode cX0_passTick 36 = .ok (.dup2, 1) := by decide +kernel
theorem dX0_passTick_37 : decode cX0_passTick 37 = .ok (.iaload, 1) := by decide +kernel
theorem dX0_passTick_38 : decode cX0_passTick 38 = .ok (.iload_n 3, 1) := by decide +kernel
theorem dX0_passTick_39 : decode cX0_passTick 39 = .ok (.isub, 1) := by decide +kernel
theorem dX0_passTick_40 : decode cX0_passTick 40 = .ok (.iastore, 1) := by decide +kernel
theorem dX0_passTick_41 : decode cX0_passTick 41 = .ok (.aload_n 0, 1) := by decide +kernel
theorem dX0_passTick_42 : decode cX0_passTick 42 = .ok (.dup, 1) := by decide +kernel
theorem dX0_passTick_43 : decode cX0_passTick 43 = .ok (.getfield 49, 3) := by decide +kernel
theorem dX0_passTick_46 : decode cX0_passTick 46 = .ok (.iload_n 3, 1) := by decide +kernel
theorem dX0_passTick_47 : decode cX0_passTick 47 = .ok (.iadd, 1) := by decide +kernel
theorem dX0_passTick_48 : decode cX0_passTick 48 = .ok (.putfield 49, 3) := by decide +kernel
theorem dX0_passTick_51 : decode cX0_passTick 51 = .ok (.iinc 2 1, 3) := by decide +kernel
theorem dX0_passTick_54 : decode cX0_passTick 54 = .ok (.goto (-47), 3) := by decide +kernel
theorem dX0_passTick_57 : decode cX0_passTick 57 = .ok (.aload_n 0, 1) := by decide +kernel
theorem dX0_passTick_58 : decode cX0_passTick 58 = .ok (.dup, 1) := by decide +kernel
theorem dX0_passTick_59 : decode cX0_passTick 59 = .ok (.getfield 40, 3) := by decide +kernel
theorem dX0_passTick_62 : decode cX0_passTick 62 = .ok (.iconst 1, 1) := by decide +kernel
theorem dX0_passTick_63 : decode cX0_passTick 63 = .ok (.iadd, 1) := by decide +kernel
theorem dX0_passTick_64 : decode cX0_passTick 64 = .ok (.putfield 40, 3) := by decide +kernel
theorem dX0_passTick_67 : decode cX0_passTick 67 = .ok (.return_, 1) := by decide +kernel
theorem dX0_runTicks_0 : decode cX0_runTicks 0 = .ok (.iconst 0, 1) := by decide +kernel
theorem dX0_runTicks_1 : decode cX0_runTicks 1 = .ok (.istore_n 2, 1) := by decide +kernel
theorem dX0_runTicks_2 : decode cX0_runTicks 2 = .ok (.iload_n 2, 1) := by decide +kernel
theorem dX0_runTicks_3 : decode cX0_runTicks 3 = .ok (.iload_n 1, 1) := by decide +kernel
theorem dX0_runTicks_4 : decode cX0_runTicks 4 = .ok (.if_icmp .ge 17, 3) := by decide +kernel
theorem dX0_runTicks_7 : decode cX0_runTicks 7 = .ok (.aload_n 0, 1) := by decide +kernel
theorem dX0_runTicks_8 : decode cX0_runTicks 8 = .ok (.aload_n 0, 1) := by decide +kernel
theorem dX0_runTicks_9 : decode cX0_runTicks 9 = .ok (.invokevirtual 97, 3) := by decide +kernel
theorem dX0_runTicks_12 : decode cX0_runTicks 12 = .ok (.invokevirtual 100, 3) := by decide +kernel
theorem dX0_runTicks_15 : decode cX0_runTicks 15 = .ok (.iinc 2 1, 3) := by decide +kernel
theorem dX0_runTicks_18 : decode cX0_runTicks 18 = .ok (.goto (-16), 3) := by decide +kernel
theorem dX0_runTicks_21 : decode cX0_runTicks 21 = .ok (.return_, 1) := by decide +kernel
theorem dX1_init_0 : decode cX1_init 0 = .ok (.aload_n 0, 1) := by decide +kernel
theorem dX1_init_1 : decode cX1_init 1 = .ok (.invokespecial 3, 3) := by decide +kernel
theorem dX1_init_4 : decode cX1_init 4 = .ok (.aload_n 0, 1) := by decide +kernel
theorem dX1_init_5 : decode cX1_init 5 = .ok (.iconst 0, 1) := by decide +kernel
theorem dX1_init_6 : decode cX1_init 6 = .ok (.putfield 9, 3) := by decide +kernel
theorem dX1_init_9 : decode cX1_init 9 = .ok (.aload_n 0, 1) := by decide +kernel
theorem dX1_init_10 : decode cX1_init 10 = .ok (.iconst 0, 1) := by decide +kernel
theorem dX1_init_11 : decode cX1_init 11 = .ok (.putfield 15, 3) := by decide +kernel
theorem dX1_init_14 : decode cX1_init 14 = .ok (.aload_n 0, 1) := by decide +kernel
theorem dX1_init_15 : decode cX1_init 15 = .ok (.iconst 0, 1) := by decide +kernel
theorem dX1_init_16 : decode cX1_init 16 = .ok (.putfield 19, 3) := by decide +kernel
theorem dX1_init_19 : decode cX1_init 19 = .ok (.aload_n 0, 1) := by decide +kernel
theorem dX1_init_20 : decode cX1_init 20 = .ok (.bipush 40, 2) := by decide +kernel
theorem dX1_init_22 : decode cX1_init 22 = .ok (.newarray .int, 2) := by decide +kernel
theorem dX1_init_24 : decode cX1_init 24 = .ok (.putfield 22, 3) := by decide +kernel
theorem dX1_init_27 : decode cX1_init 27 = .ok (.return_, 1) := by decide +kernel
theorem dX1_renew_0 : decode cX1_renew 0 = .ok (.aload_n 0, 1) := by decide +kernel
theorem dX1_renew_1 : decode cX1_renew 1 = .ok (.iconst 1, 1) := by decide +kernel
theorem dX1_renew_2 : decode cX1_renew 2 = .ok (.putfield 9, 3) := by decide +kernel
theorem dX1_renew_5 : decode cX1_renew 5 = .ok (.aload_n 0, 1) := by decide +kernel
theorem dX1_renew_6 : decode cX1_renew 6 = .ok (.iload_n 1, 1) := by decide +kernel
theorem dX1_renew_7 : decode cX1_renew 7 = .ok (.putfield 15, 3) := by decide +kernel
theorem dX1_renew_10 : decode cX1_renew 10 = .ok (.aload_n 0, 1) := by decide +kernel
theorem dX1_renew_11 : decode cX1_renew 11 = .ok (.iload_n 2, 1) := by decide +kernel
theorem dX1_renew_12 : decode cX1_renew 12 = .ok (.putfield 19, 3) := by decide +kernel
theorem dX1_renew_15 : decode cX1_renew 15 = .ok (.iconst 0, 1) := by decide +kernel
theorem dX1_renew_16 : decode cX1_renew 16 = .ok (.istore_n 3, 1) := by decide +kernel
theorem dX1_renew_17 : decode cX1_renew 17 = .ok (.iload_n 3, 1) := by decide +kernel
theorem dX1_renew_18 : decode cX1_renew 18 = .ok (.bipush 40, 2) := by decide +kernel
theorem dX1_renew_20 : decode cX1_renew 20 = .ok (.if_icmp .ge 16, 3) := by decide +kernel
theorem dX1_renew_23 : decode cX1_renew 23 = .ok (.aload_n 0, 1) := by decide +kernel
theorem dX1_renew_24 : decode cX1_renew 24 = .ok (.getfield 22, 3) := by decide +kernel
theorem dX1_renew_27 : decode cX1_renew 27 = .ok (.iload_n 3, 1) := by decide +kernel
theorem dX1_renew_28 : decode cX1_renew 28 = .ok (.iconst 0, 1) := by decide +kernel
theorem dX1_renew_29 : decode cX1_renew 29 = .ok (.iastore, 1) := by decide +kernel
theorem dX1_renew_30 : decode cX1_renew 30 = .ok (.iinc 3 1, 3) := by decide +kernel
theorem dX1_renew_33 : decode cX1_renew 33 = .ok (.goto (-16), 3) := by decide +kernel
theorem dX1_renew_36 : decode cX1_renew 36 = .ok (.return_, 1) := by decide +kernel
theorem dX1_faultAt_0 : decode cX1_faultAt 0 = .ok (.aload_n 0, 1) := by decide +kernel
theorem dX1_faultAt_1 : decode cX1_faultAt 1 = .ok (.getfield 9, 3) := by decide +kernel
theorem dX1_faultAt_4 : decode cX1_faultAt 4 = .ok (.ifCond .ne 5, 3) := by decide +kernel
theorem dX1_faultAt_7 : decode cX1_faultAt 7 = .ok (.iconst 1, 1) := by decide +kernel
theorem dX1_faultAt_8 : decode cX1_faultAt 8 = .ok (.ireturn, 1) := by decide +kernel
theorem dX1_faultAt_9 : decode cX1_faultAt 9 = .ok (.iload_n 1, 1) := by decide +kernel
theorem dX1_faultAt_10 : decode cX1_faultAt 10 = .ok (.aload_n 0, 1) := by decide +kernel
theorem dX1_faultAt_11 : decode cX1_faultAt 11 = .ok (.getfield 15, 3) := by decide +kernel
theorem dX1_faultAt_14 : decode cX1_faultAt 14 = .ok (.if_icmp .eq 5, 3) := by decide +kernel
theorem dX1_faultAt_17 : decode cX1_faultAt 17 = .ok (.iconst 3, 1) := by decide +kernel
theorem dX1_faultAt_18 : decode cX1_faultAt 18 = .ok (.ireturn, 1) := by decide +kernel
theorem dX1_faultAt_19 : decode cX1_faultAt 19 = .ok (.iload_n 2, 1) := by decide +kernel
theorem dX1_faultAt_20 : decode cX1_faultAt 20 = .ok (.ifCond .lt 15, 3) := by decide +kernel
theorem dX1_faultAt_23 : decode cX1_faultAt 23 = .ok (.iload_n 2, 1) := by decide +kernel
theorem dX1_faultAt_24 : decode cX1_faultAt 24 = .ok (.aload_n 0, 1) := by decide +kernel
theorem dX1_faultAt_25 : decode cX1_faultAt 25 = .ok (.getfield 19, 3) := by decide +kernel
theorem dX1_faultAt_28 : decode cX1_faultAt 28 = .ok (.if_icmp .ge 7, 3) := by decide +kernel
theorem dX1_faultAt_31 : decode cX1_faultAt 31 = .ok (.iconst 0, 1) := by decide +kernel
theorem dX1_faultAt_32 : decode cX1_faultAt 32 = .ok (.goto 4, 3) := by decide +kernel
theorem dX1_faultAt_35 : decode cX1_faultAt 35 = .ok (.iconst 2, 1) := by decide +kernel
theorem dX1_faultAt_36 : decode cX1_faultAt 36 = .ok (.ireturn, 1) := by decide +kernel
theorem dX1_write_0 : decode cX1_write 0 = .ok (.aload_n 0, 1) := by decide +kernel
theorem dX1_write_1 : decode cX1_write 1 = .ok (.getfield 15, 3) := by decide +kernel
theorem dX1_write_4 : decode cX1_write 4 = .ok (.ifCond .ne 14, 3) := by decide +kernel
theorem dX1_write_7 : decode cX1_write 7 = .ok (.aload_n 0, 1) := by decide +kernel
theorem dX1_write_8 : decode cX1_write 8 = .ok (.getfield 22, 3) := by decide +kernel
theorem dX1_write_11 : decode cX1_write 11 = .ok (.iload_n 1, 1) := by decide +kernel
theorem dX1_write_12 : decode cX1_write 12 = .ok (.iload_n 2, 1) := by decide +kernel
theorem dX1_write_13 : decode cX1_write 13 = .ok (.i2b, 1) := by decide +kernel
theorem dX1_write_14 : decode cX1_write 14 = .ok (.iastore, 1) := by decide +kernel
theorem dX1_write_15 : decode cX1_write 15 = .ok (.goto 29, 3) := by decide +kernel
theorem dX1_write_18 : decode cX1_write 18 = .ok (.aload_n 0, 1) := by decide +kernel
theorem dX1_write_19 : decode cX1_write 19 = .ok (.getfield 15, 3) := by decide +kernel
theorem dX1_write_22 : decode cX1_write 22 = .ok (.iconst 1, 1) := by decide +kernel
theorem dX1_write_23 : decode cX1_write 23 = .ok (.if_icmp .ne 14, 3) := by decide +kernel
theorem dX1_write_26 : decode cX1_write 26 = .ok (.aload_n 0, 1) := by decide +kernel
theorem dX1_write_27 : decode cX1_write 27 = .ok (.getfield 22, 3) := by decide +kernel
theorem dX1_write_30 : decode cX1_write 30 = .ok (.iload_n 1, 1) := by decide +kernel
theorem dX1_write_31 : decode cX1_write 31 = .ok (.iload_n 2, 1) := by decide +kernel
theorem dX1_write_32 : decode cX1_write 32 = .ok (.i2s, 1) := by decide +kernel
theorem dX1_write_33 : decode cX1_write 33 = .ok (.iastore, 1) := by decide +kernel
theorem dX1_write_34 : decode cX1_write 34 = .ok (.goto 10, 3) := by decide +kernel
theorem dX1_write_37 : decode cX1_write 37 = .ok (.aload_n 0, 1) := by decide +kernel
theorem dX1_write_38 : decode cX1_write 38 = .ok (.getfield 22, 3) := by decide +kernel
theorem dX1_write_41 : decode cX1_write 41 = .ok (.iload_n 1, 1) := by decide +kernel
theorem dX1_write_42 : decode cX1_write 42 = .ok (.iload_n 2, 1) := by decide +kernel
theorem dX1_write_43 : decode cX1_write 43 = .ok (.iastore, 1) := by decide +kernel
theorem dX1_write_44 : decode cX1_write 44 = .ok (.return_, 1) := by decide +kernel
theorem dX2_init_0 : decode cX2_init 0 = .ok (.aload_n 0, 1) := by decide +kernel
theorem dX2_init_1 : decode cX2_init 1 = .ok (.invokespecial 3, 3) := by decide +kernel
theorem dX2_init_4 : decode cX2_init 4 = .ok (.aload_n 0, 1) := by decide +kernel
theorem dX2_init_5 : decode cX2_init 5 = .ok (.sipush 160, 3) := by decide +kernel
theorem dX2_init_8 : decode cX2_init 8 = .ok (.newarray .int, 2) := by decide +kernel
theorem dX2_init_10 : decode cX2_init 10 = .ok (.putfield 9, 3) := by decide +kernel
theorem dX2_init_13 : decode cX2_init 13 = .ok (.aload_n 0, 1) := by decide +kernel
theorem dX2_init_14 : decode cX2_init 14 = .ok (.iconst 0, 1) := by decide +kernel
theorem dX2_init_15 : decode cX2_init 15 = .ok (.putfield 15, 3) := by decide +kernel
theorem dX2_init_18 : decode cX2_init 18 = .ok (.aload_n 0, 1) := by decide +kernel
theorem dX2_init_19 : decode cX2_init 19 = .ok (.iconst 0, 1) := by decide +kernel
theorem dX2_init_20 : decode cX2_init 20 = .ok (.putfield 19, 3) := by decide +kernel
theorem dX2_init_23 : decode cX2_init 23 = .ok (.aload_n 0, 1) := by decide +kernel
theorem dX2_init_24 : decode cX2_init 24 = .ok (.iconst 0, 1) := by decide +kernel
theorem dX2_init_25 : decode cX2_init 25 = .ok (.putfield 22, 3) := by decide +kernel
theorem dX2_init_28 : decode cX2_init 28 = .ok (.aload_n 0, 1) := by decide +kernel
theorem dX2_init_29 : decode cX2_init 29 = .ok (.iconst 0, 1) := by decide +kernel
theorem dX2_init_30 : decode cX2_init 30 = .ok (.putfield 25, 3) := by decide +kernel
theorem dX2_init_33 : decode cX2_init 33 = .ok (.aload_n 0, 1) := by decide +kernel
theorem dX2_init_34 : decode cX2_init 34 = .ok (.iconst 0, 1) := by decide +kernel
theorem dX2_init_35 : decode cX2_init 35 = .ok (.putfield 28, 3) := by decide +kernel
theorem dX2_init_38 : decode cX2_init 38 = .ok (.aload_n 0, 1) := by decide +kernel
theorem dX2_init_39 : decode cX2_init 39 = .ok (.iconst 0, 1) := by decide +kernel
theorem dX2_init_40 : decode cX2_init 40 = .ok (.putfield 31, 3) := by decide +kernel
theorem dX2_init_43 : decode cX2_init 43 = .ok (.aload_n 0, 1) := by decide +kernel
theorem dX2_init_44 : decode cX2_init 44 = .ok (.iconst 0, 1) := by decide +kernel
theorem dX2_init_45 : decode cX2_init 45 = .ok (.putfield 34, 3) := by decide +kernel
theorem dX2_init_48 : decode cX2_init 48 = .ok (.return_, 1) := by decide +kernel
theorem dX2_append_0 : decode cX2_append 0 = .ok (.aload_n 0, 1) := by decide +kernel
theorem dX2_append_1 : decode cX2_append 1 = .ok (.getfield 15, 3) := by decide +kernel
theorem dX2_append_4 : decode cX2_append 4 = .ok (.sipush 160, 3) := by decide +kernel
theorem dX2_append_7 : decode cX2_append 7 = .ok (.if_icmp .lt 6, 3) := by decide +kernel
theorem dX2_append_10 : decode cX2_append 10 = .ok (.bipush (-3), 2) := by decide +kernel
theorem dX2_append_12 : decode cX2_append 12 = .ok (.ireturn, 1) := by decide +kernel
theorem dX2_append_13 : decode cX2_append 13 = .ok (.aload_n 0, 1) := by decide +kernel
theorem dX2_append_14 : decode cX2_append 14 = .ok (.getfield 9, 3) := by decide +kernel
theorem dX2_append_17 : decode cX2_append 17 = .ok (.aload_n 0, 1) := by decide +kernel
theorem dX2_append_18 : decode cX2_append 18 = .ok (.getfield 15, 3) := by decide +kernel
theorem dX2_append_21 : decode cX2_append 21 = .ok (.iload_n 1, 1) := by decide +kernel
theorem dX2_append_22 : decode cX2_append 22 = .ok (.iastore, 1) := by decide +kernel
theorem dX2_append_23 : decode cX2_append 23 = .ok (.aload_n 0, 1) := by decide +kernel
theorem dX2_append_24 : decode cX2_append 24 = .ok (.dup, 1) := by decide +kernel
theorem dX2_append_25 : decode cX2_append 25 = .ok (.getfield 15, 3) := by decide +kernel
theorem dX2_append_28 : decode cX2_append 28 = .ok (.iconst 1, 1) := by decide +kernel
theorem dX2_append_29 : decode cX2_append 29 = .ok (.iadd, 1) := by decide +kernel
theorem dX2_append_30 : decode cX2_append 30 = .ok (.putfield 15, 3) := by decide +kernel
theorem dX2_append_33 : decode cX2_append 33 = .ok (.aload_n 0, 1) := by decide +kernel
theorem dX2_append_34 : decode cX2_append 34 = .ok (.getfield 15, 3) := by decide +kernel
theorem dX2_append_37 : decode cX2_append 37 = .ok (.ireturn, 1) := by decide +kernel
theorem dX2_tell_0 : decode cX2_tell 0 = .ok (.aload_n 1, 1) := by decide +kernel
theorem dX2_tell_1 : decode cX2_tell 1 = .ok (.invokevirtual 38, 3) := by decide +kernel
theorem dX2_tell_4 : decode cX2_tell 4 = .ok (.aload_n 0, 1) := by decide +kernel
theorem dX2_tell_5 : decode cX2_tell 5 = .ok (.iconst 0, 1) := by decide +kernel
theorem dX2_tell_6 : decode cX2_tell 6 = .ok (.putfield 19, 3) := by decide +kernel
theorem dX2_tell_9 : decode cX2_tell 9 = .ok (.aload_n 0, 1) := by decide +kernel
theorem dX2_tell_10 : decode cX2_tell 10 = .ok (.iconst 0, 1) := by decide +kernel
theorem dX2_tell_11 : decode cX2_tell 11 = .ok (.putfield 22, 3) := by decide +kernel
theorem dX2_tell_14 : decode cX2_tell 14 = .ok (.aload_n 0, 1) := by decide +kernel
theorem dX2_tell_15 : decode cX2_tell 15 = .ok (.iconst 0, 1) := by decide +kernel
theorem dX2_tell_16 : decode cX2_tell 16 = .ok (.putfield 34, 3) := by decide +kernel
theorem dX2_tell_19 : decode cX2_tell 19 = .ok (.iconst 0, 1) := by decide +kernel
theorem dX2_tell_20 : decode cX2_tell 20 = .ok (.istore_n 2, 1) := by decide +kernel
theorem dX2_tell_21 : decode cX2_tell 21 = .ok (.aload_n 0, 1) := by decide +kernel
theorem dX2_tell_22 : decode cX2_tell 22 = .ok (.invokevirtual 43, 3) := by decide +kernel
theorem dX2_tell_25 : decode cX2_tell 25 = .ok (.aload_n 0, 1) := by decide +kernel
theorem dX2_tell_26 : decode cX2_tell 26 = .ok (.getfield 19, 3) := by decide +kernel
theorem dX2_tell_29 : decode cX2_tell 29 = .ok (.ifCond .ne 32, 3) := by decide +kernel
theorem dX2_tell_32 : decode cX2_tell 32 = .ok (.aload_n 0, 1) := by decide +kernel
theorem dX2_tell_33 : decode cX2_tell 33 = .ok (.getfield 25, 3) := by decide +kernel
theorem dX2_tell_36 : decode cX2_tell 36 = .ok (.ifCond .eq 25, 3) := by decide +kernel
theorem dX2_tell_39 : decode cX2_tell 39 = .ok (.iload_n 2, 1) := by decide +kernel
theorem dX2_tell_40 : decode cX2_tell 40 = .ok (.sipush 160, 3) := by decide +kernel
theorem dX2_tell_43 : decode cX2_tell 43 = .ok (.if_icmp .ge 18, 3) := by decide +kernel
theorem dX2_tell_46 : decode cX2_tell 46 = .ok (.aload_n 0, 1) := by decide +kernel
theorem dX2_tell_47 : decode cX2_tell 47 = .ok (.aload_n 1, 1) := by decide +kernel
theorem dX2_tell_48 : decode cX2_tell 48 = .ok (.invokevirtual 46, 3) := by decide +kernel
theorem dX2_tell_51 : decode cX2_tell 51 = .ok (.iinc 2 1, 3) := by decide +kernel
theorem dX2_tell_54 : decode cX2_tell 54 = .ok (.aload_n 0, 1) := by decide +kernel
theorem dX2_tell_55 : decode cX2_tell 55 = .ok (.invokevirtual 43, 3) := by decide +kernel
theorem dX2_tell_58 : decode cX2_tell 58 = .ok (.goto (-33), 3) := by decide +kernel
theorem dX2_tell_61 : decode cX2_tell 61 = .ok (.aload_n 0, 1) := by decide +kernel
theorem dX2_tell_62 : decode cX2_tell 62 = .ok (.getfield 19, 3) := by decide +kernel
theorem dX2_tell_65 : decode cX2_tell 65 = .ok (.ifCond .ne 7, 3) := by decide +kernel
theorem dX2_tell_68 : decode cX2_tell 68 = .ok (.iload_n 2, 1) := by decide +kernel
theorem dX2_tell_69 : decode cX2_tell 69 = .ok (.goto 10, 3) := by decide +kernel
theorem dX2_tell_72 : decode cX2_tell 72 = .ok (.bipush (-10), 2) := by decide +kernel
theorem dX2_tell_74 : decode cX2_tell 74 = .ok (.aload_n 0, 1) := by decide +kernel
theorem dX2_tell_75 : decode cX2_tell 75 = .ok (.getfield 28, 3) := by decide +kernel
theorem dX2_tell_78 : decode cX2_tell 78 = .ok (.isub, 1) := by decide +kernel
theorem dX2_tell_79 : decode cX2_tell 79 = .ok (.ireturn, 1) := by decide +kernel
theorem dX2_nextToken_0 : decode cX2_nextToken 0 = .ok (.aload_n 0, 1) := by decide +kernel
theorem dX2_nextToken_1 : decode cX2_nextToken 1 = .ok (.getfield 19, 3) := by decide +kernel
theorem dX2_nextToken_4 : decode cX2_nextToken 4 = .ok (.ifCond .eq 4, 3) := by decide +kernel
theorem dX2_nextToken_7 : decode cX2_nextToken 7 = .ok (.return_, 1) := by decide +kernel
theorem dX2_nextToken_8 : decode cX2_nextToken 8 = .ok (.aload_n 0, 1) := by decide +kernel
theorem dX2_nextToken_9 : decode cX2_nextToken 9 = .ok (.getfield 22, 3) := by decide +kernel
theorem dX2_nextToken_12 : decode cX2_nextToken 12 = .ok (.aload_n 0, 1) := by decide +kernel
theorem dX2_nextToken_13 : decode cX2_nextToken 13 = .ok (.getfield 15, 3) := by decide +kernel
theorem dX2_nextToken_16 : decode cX2_nextToken 16 = .ok (.if_icmp .ge 30, 3) := by decide +kernel
theorem dX2_nextToken_19 : decode cX2_nextToken 19 = .ok (.aload_n 0, 1) := by decide +kernel
theorem dX2_nextToken_20 : decode cX2_nextToken 20 = .ok (.getfield 9, 3) := by decide +kernel
theorem dX2_nextToken_23 : decode cX2_nextToken 23 = .ok (.aload_n 0, 1) := by decide +kernel
theorem dX2_nextToken_24 : decode cX2_nextToken 24 = .ok (.getfield 22, 3) := by decide +kernel
theorem dX2_nextToken_27 : decode cX2_nextToken 27 = .ok (.iaload, 1) := by decide +kernel
theorem dX2_nextToken_28 : decode cX2_nextToken 28 = .ok (.bipush 32, 2) := by decide +kernel
theorem dX2_nextToken_30 : decode cX2_nextToken 30 = .ok (.if_icmp .ne 16, 3) := by decide +kernel
theorem dX2_nextToken_33 : decode cX2_nextToken 33 = .ok (.aload_n 0, 1) := by decide +kernel
theorem dX2_nextToken_34 : decode cX2_nextToken 34 = .ok (.dup, 1) := by decide +kernel
theorem dX2_nextToken_35 : decode cX2_nextToken 35 = .ok (.getfield 22, 3) := by decide +kernel
theorem dX2_nextToken_38 : decode cX2_nextToken 38 = .ok (.iconst 1, 1) := by decide +kernel
theorem dX2_nextToken_39 : decode cX2_nextToken 39 = .ok (.iadd, 1) := by decide +kernel
theorem dX2_nextToken_40 : decode cX2_nextToken 40 = .ok (.putfield 22, 3) := by decide +kernel
theorem dX2_nextToken_43 : decode cX2_nextToken 43 = .ok (.goto (-35), 3) := by decide +kernel
theorem dX2_nextToken_46 : decode cX2_nextToken 46 = .ok (.aload_n 0, 1) := by decide +kernel
theorem dX2_nextToken_47 : decode cX2_nextToken 47 = .ok (.aload_n 0, 1) := by decide +kernel
theorem dX2_nextToken_48 : decode cX2_nextToken 48 = .ok (.getfield 22, 3) := by decide +kernel
theorem dX2_nextToken_51 : decode cX2_nextToken 51 = .ok (.putfield 28, 3) := by decide +kernel
theorem dX2_nextToken_54 : decode cX2_nextToken 54 = .ok (.aload_n 0, 1) := by decide +kernel
theorem dX2_nextToken_55 : decode cX2_nextToken 55 = .ok (.getfield 22, 3) := by decide +kernel
theorem dX2_nextToken_58 : decode cX2_nextToken 58 = .ok (.aload_n 0, 1) := by decide +kernel
theorem dX2_nextToken_59 : decode cX2_nextToken 59 = .ok (.getfield 15, 3) := by decide +kernel
theorem dX2_nextToken_62 : decode cX2_nextToken 62 = .ok (.if_icmp .lt 11, 3) := by decide +kernel
theorem dX2_nextToken_65 : decode cX2_nextToken 65 = .ok (.aload_n 0, 1) := by decide +kernel
theorem dX2_nextToken_66 : decode cX2_nextToken 66 = .ok (.iconst 0, 1) := by decide +kernel
theorem dX2_nextToken_67 : decode cX2_nextToken 67 = .ok (.putfield 25, 3) := by decide +kernel
theorem dX2_nextToken_70 : decode cX2_nextToken 70 = .ok (.goto 84, 3) := by decide +kernel
theorem dX2_nextToken_73 : decode cX2_nextToken 73 = .ok (.aload_n 0, 1) := by decide +kernel
theorem dX2_nextToken_74 : decode cX2_nextToken 74 = .ok (.getfield 9, 3) := by decide +kernel
theorem dX2_nextToken_77 : decode cX2_nextToken 77 = .ok (.aload_n 0, 1) := by decide +kernel
theorem dX2_nextToken_78 : decode cX2_nextToken 78 = .ok (.getfield 22, 3) := by decide +kernel
theorem dX2_nextToken_81 : decode cX2_nextToken 81 = .ok (.iaload, 1) := by decide +kernel
theorem dX2_nextToken_82 : decode cX2_nextToken 82 = .ok (.invokestatic 50, 3) := by decide +kernel
theorem dX2_nextToken_85 : decode cX2_nextToken 85 = .ok (.ifCond .eq 10, 3) := by decide +kernel
theorem dX2_nextToken_88 : decode cX2_nextToken 88 = .ok (.aload_n 0, 1) := by decide +kernel
theorem dX2_nextToken_89 : decode cX2_nextToken 89 = .ok (.invokevirtual 54, 3) := by decide +kernel
theorem dX2_nextToken_92 : decode cX2_nextToken 92 = .ok (.goto 62, 3) := by decide +kernel
theorem dX2_nextToken_95 : decode cX2_nextToken 95 = .ok (.aload_n 0, 1) := by decide +kernel
theorem dX2_nextToken_96 : decode cX2_nextToken 96 = .ok (.getfield 9, 3) := by decide +kernel
theorem dX2_nextToken_99 : decode cX2_nextToken 99 = .ok (.aload_n 0, 1) := by decide +kernel
theorem dX2_nextToken_100 : decode cX2_nextToken 100 = .ok (.getfield 22, 3) := by decide +kernel
theorem dX2_nextToken_103 : decode cX2_nextToken 103 = .ok (.iaload, 1) := by decide +kernel
theorem dX2_nextToken_104 : decode cX2_nextToken 104 = .ok (.invokestatic 57, 3) := by decide +kernel
theorem dX2_nextToken_107 : decode cX2_nextToken 107 = .ok (.ifCond .eq 10, 3) := by decide +kernel
theorem dX2_nextToken_110 : decode cX2_nextToken 110 = .ok (.aload_n 0, 1) := by decide +kernel
theorem dX2_nextToken_111 : decode cX2_nextToken 111 = .ok (.invokevirtual 60, 3) := by decide +kernel
theorem dX2_nextToken_114 : decode cX2_nextToken 114 = .ok (.goto 40, 3) := by decide +kernel
theorem dX2_nextToken_117 : decode cX2_nextToken 117 = .ok (.aload_n 0, 1) := by decide +kernel
theorem dX2_nextToken_118 : decode cX2_nextToken 118 = .ok (.getfield 9, 3) := by decide +kernel
theorem dX2_nextToken_121 : decode cX2_nextToken 121 = .ok (.aload_n 0, 1) := by decide +kernel
theorem dX2_nextToken_122 : decode cX2_nextToken 122 = .ok (.getfield 22, 3) := by decide +kernel
theorem dX2_nextToken_125 : decode cX2_nextToken 125 = .ok (.iaload, 1) := by decide +kernel
theorem dX2_nextToken_126 : decode cX2_nextToken 126 = .ok (.bipush 59, 2) := by decide +kernel
theorem dX2_nextToken_128 : decode cX2_nextToken 128 = .ok (.if_icmp .ne 21, 3) := by decide +kernel
theorem dX2_nextToken_131 : decode cX2_nextToken 131 = .ok (.aload_n 0, 1) := by decide +kernel
theorem dX2_nextToken_132 : decode cX2_nextToken 132 = .ok (.iconst 3, 1) := by decide +kernel
theorem dX2_nextToken_133 : decode cX2_nextToken 133 = .ok (.putfield 25, 3) := by decide +kernel
theorem dX2_nextToken_136 : decode cX2_nextToken 136 = .ok (.aload_n 0, 1) := by decide +kernel
theorem dX2_nextToken_137 : decode cX2_nextToken 137 = .ok (.dup, 1) := by decide +kernel
theorem dX2_nextToken_138 : decode cX2_nextToken 138 = .ok (.getfield 22, 3) := by decide +kernel
theorem dX2_nextToken_141 : decode cX2_nextToken 141 = .ok (.iconst 1, 1) := by decide +kernel
theorem dX2_nextToken_142 : decode cX2_nextToken 142 = .ok (.iadd, 1) := by decide +kernel
theorem dX2_nextToken_143 : decode cX2_nextToken 143 = .ok (.putfield 22, 3) := by decide +kernel
theorem dX2_nextToken_146 : decode cX2_nextToken 146 = .ok (.goto 8, 3) := by decide +kernel
theorem dX2_nextToken_149 : decode cX2_nextToken 149 = .ok (.aload_n 0, 1) := by decide +kernel
theorem dX2_nextToken_150 : decode cX2_nextToken 150 = .ok (.iconst 1, 1) := by decide +kernel
theorem dX2_nextToken_151 : decode cX2_nextToken 151 = .ok (.putfield 19, 3) := by decide +kernel
theorem dX2_nextToken_154 : decode cX2_nextToken 154 = .ok (.return_, 1) := by decide +kernel
theorem dX2_takeName_0 : decode cX2_takeName 0 = .ok (.aload_n 0, 1) := by decide +kernel
theorem dX2_takeName_1 : decode cX2_takeName 1 = .ok (.iconst 1, 1) := by decide +kernel
theorem dX2_takeName_2 : decode cX2_takeName 2 = .ok (.putfield 25, 3) := by decide +kernel
theorem dX2_takeName_5 : decode cX2_takeName 5 = .ok (.aload_n 0, 1) := by decide +kernel
theorem dX2_takeName_6 : decode cX2_takeName 6 = .ok (.getfield 22, 3) := by decide +kernel
theorem dX2_takeName_9 : decode cX2_takeName 9 = .ok (.aload_n 0, 1) := by decide +kernel
theorem dX2_takeName_10 : decode cX2_takeName 10 = .ok (.getfield 15, 3) := by decide +kernel
theorem dX2_takeName_13 : decode cX2_takeName 13 = .ok (.if_icmp .ge 31, 3) := by decide +kernel
theorem dX2_takeName_16 : decode cX2_takeName 16 = .ok (.aload_n 0, 1) := by decide +kernel
theorem dX2_takeName_17 : decode cX2_takeName 17 = .ok (.getfield 9, 3) := by decide +kernel
theorem dX2_takeName_20 : decode cX2_takeName 20 = .ok (.aload_n 0, 1) := by decide +kernel
theorem dX2_takeName_21 : decode cX2_takeName 21 = .ok (.getfield 22, 3) := by decide +kernel
theorem dX2_takeName_24 : decode cX2_takeName 24 = .ok (.iaload, 1) := by decide +kernel
theorem dX2_takeName_25 : decode cX2_takeName 25 = .ok (.invokestatic 50, 3) := by decide +kernel
theorem dX2_takeName_28 : decode cX2_takeName 28 = .ok (.ifCond .eq 16, 3) := by decide +kernel
theorem dX2_takeName_31 : decode cX2_takeName 31 = .ok (.aload_n 0, 1) := by decide +kernel
theorem dX2_takeName_32 : decode cX2_takeName 32 = .ok (.dup, 1) := by decide +kernel
theorem dX2_takeName_33 : decode cX2_takeName 33 = .ok (.getfield 22, 3) := by decide +kernel
theorem dX2_takeName_36 : decode cX2_takeName 36 = .ok (.iconst 1, 1) := by decide +kernel
theorem dX2_takeName_37 : decode cX2_takeName 37 = .ok (.iadd, 1) := by decide +kernel
theorem dX2_takeName_38 : decode cX2_takeName 38 = .ok (.putfield 22, 3) := by decide +kernel
theorem dX2_takeName_41 : decode cX2_takeName 41 = .ok (.goto (-36), 3) := by decide +kernel
theorem dX2_takeName_44 : decode cX2_takeName 44 = .ok (.return_, 1) := by decide +kernel
theorem dX2_takeNumber_0 : decode cX2_takeNumber 0 = .ok (.aload_n 0, 1) := by decide +kernel
theorem dX2_takeNumber_1 : decode cX2_takeNumber 1 = .ok (.iconst 2, 1) := by decide +kernel
theorem dX2_takeNumber_2 : decode cX2_takeNumber 2 = .ok (.putfield 25, 3) := by decide +kernel
theorem dX2_takeNumber_5 : decode cX2_takeNumber 5 = .ok (.aload_n 0, 1) := by decide +kernel
theorem dX2_takeNumber_6 : decode cX2_takeNumber 6 = .ok (.iconst 0, 1) := by decide +kernel
theorem dX2_takeNumber_7 : decode cX2_takeNumber 7 = .ok (.putfield 31, 3) := by decide +kernel
theorem dX2_takeNumber_10 : decode cX2_takeNumber 10 = .ok (.aload_n 0, 1) := by decide +kernel
theorem dX2_takeNumber_11 : decode cX2_takeNumber 11 = .ok (.getfield 22, 3) := by decide +kernel
theorem dX2_takeNumber_14 : decode cX2_takeNumber 14 = .ok (.aload_n 0, 1) := by decide +kernel
theorem dX2_takeNumber_15 : decode cX2_takeNumber 15 = .ok (.getfield 15, 3) := by decide +kernel
theorem dX2_takeNumber_18 : decode cX2_takeNumber 18 = .ok (.if_icmp .ge 74, 3) := by decide +kernel
theorem dX2_takeNumber_21 : decode cX2_takeNumber 21 = .ok (.aload_n 0, 1) := by decide +kernel
theorem dX2_takeNumber_22 : decode cX2_takeNumber 22 = .ok (.getfield 9, 3) := by decide +kernel
theorem dX2_takeNumber_25 : decode cX2_takeNumber 25 = .ok (.aload_n 0, 1) := by decide +kernel
theorem dX2_takeNumber_26 : decode cX2_takeNumber 26 = .ok (.getfield 22, 3) := by decide +kernel
theorem dX2_takeNumber_29 : decode cX2_takeNumber 29 = .ok (.iaload, 1) := by decide +kernel
theorem dX2_takeNumber_30 : decode cX2_takeNumber 30 = .ok (.invokestatic 57, 3) := by decide +kernel
theorem dX2_takeNumber_33 : decode cX2_takeNumber 33 = .ok (.ifCond .eq 59, 3) := by decide +kernel
theorem dX2_takeNumber_36 : decode cX2_takeNumber 36 = .ok (.aload_n 0, 1) := by decide +kernel
theorem dX2_takeNumber_37 : decode cX2_takeNumber 37 = .ok (.getfield 22, 3) := by decide +kernel
theorem dX2_takeNumber_40 : decode cX2_takeNumber 40 = .ok (.aload_n 0, 1) := by decide +kernel
theorem dX2_takeNumber_41 : decode cX2_takeNumber 41 = .ok (.getfield 28, 3) := by decide +kernel
theorem dX2_takeNumber_44 : decode cX2_takeNumber 44 = .ok (.isub, 1) := by decide +kernel
theorem dX2_takeNumber_45 : decode cX2_takeNumber 45 = .ok (.iconst 2, 1) := by decide +kernel
theorem dX2_takeNumber_46 : decode cX2_takeNumber 46 = .ok (.if_icmp .lt 9, 3) := by decide +kernel
theorem dX2_takeNumber_49 : decode cX2_takeNumber 49 = .ok (.aload_n 0, 1) := by decide +kernel
theorem dX2_takeNumber_50 : decode cX2_takeNumber 50 = .ok (.iconst 1, 1) := by decide +kernel
theorem dX2_takeNumber_51 : decode cX2_takeNumber 51 = .ok (.putfield 19, 3) := by decide +kernel
theorem dX2_takeNumber_54 : decode cX2_takeNumber 54 = .ok (.return_, 1) := by decide +kernel
theorem dX2_takeNumber_55 : decode cX2_takeNumber 55 = .ok (.aload_n 0, 1) := by decide +kernel
theorem dX2_takeNumber_56 : decode cX2_takeNumber 56 = .ok (.aload_n 0, 1) := by decide +kernel
theorem dX2_takeNumber_57 : decode cX2_takeNumber 57 = .ok (.getfield 31, 3) := by decide +kernel
theorem dX2_takeNumber_60 : decode cX2_takeNumber 60 = .ok (.bipush 10, 2) := by decide +kernel
theorem dX2_takeNumber_62 : decode cX2_takeNumber 62 = .ok (.imul, 1) := by decide +kernel
theorem dX2_takeNumber_63 : decode cX2_takeNumber 63 = .ok (.aload_n 0, 1) := by decide +kernel
theorem dX2_takeNumber_64 : decode cX2_takeNumber 64 = .ok (.getfield 9, 3) := by decide +kernel
theorem dX2_takeNumber_67 : decode cX2_takeNumber 67 = .ok (.aload_n 0, 1) := by decide +kernel
theorem dX2_takeNumber_68 : decode cX2_takeNumber 68 = .ok (.getfield 22, 3) := by decide +kernel
theorem dX2_takeNumber_71 : decode cX2_takeNumber 71 = .ok (.iaload, 1) := by decide +kernel
theorem dX2_takeNumber_72 : decode cX2_takeNumber 72 = .ok (.iadd, 1) := by decide +kernel
theorem dX2_takeNumber_73 : decode cX2_takeNumber 73 = .ok (.bipush 48, 2) := by decide +kernel
theorem dX2_takeNumber_75 : decode cX2_takeNumber 75 = .ok (.isub, 1) := by decide +kernel
theorem dX2_takeNumber_76 : decode cX2_takeNumber 76 = .ok (.putfield 31, 3) := by decide +kernel
theorem dX2_takeNumber_79 : decode cX2_takeNumber 79 = .ok (.aload_n 0, 1) := by decide +kernel
theorem dX2_takeNumber_80 : decode cX2_takeNumber 80 = .ok (.dup, 1) := by decide +kernel
theorem dX2_takeNumber_81 : decode cX2_takeNumber 81 = .ok (.getfield 22, 3) := by decide +kernel
theorem dX2_takeNumber_84 : decode cX2_takeNumber 84 = .ok (.iconst 1, 1) := by decide +kernel
theorem dX2_takeNumber_85 : decode cX2_takeNumber 85 = .ok (.iadd, 1) := by decide +kernel
theorem dX2_takeNumber_86 : decode cX2_takeNumber 86 = .ok (.putfield 22, 3) := by decide +kernel
theorem dX2_takeNumber_89 : decode cX2_takeNumber 89 = .ok (.goto (-79), 3) := by decide +kernel
theorem dX2_takeNumber_92 : decode cX2_takeNumber 92 = .ok (.return_, 1) := by decide +kernel
theorem dX2_isLetter_0 : decode cX2_isLetter 0 = .ok (.iload_n 0, 1) := by decide +kernel
theorem dX2_isLetter_1 : decode cX2_isLetter 1 = .ok (.bipush 97, 2) := by decide +kernel
theorem dX2_isLetter_3 : decode cX2_isLetter 3 = .ok (.if_icmp .lt 13, 3) := by decide +kernel
theorem dX2_isLetter_6 : decode cX2_isLetter 6 = .ok (.iload_n 0, 1) := by decide +kernel
theorem dX2_isLetter_7 : decode cX2_isLetter 7 = .ok (.bipush 122, 2) := by decide +kernel
theorem dX2_isLetter_9 : decode cX2_isLetter 9 = .ok (.if_icmp .gt 7, 3) := by decide +kernel
theorem dX2_isLetter_12 : decode cX2_isLetter 12 = .ok (.iconst 1, 1) := by decide +kernel
theorem dX2_isLetter_13 : decode cX2_isLetter 13 = .ok (.goto 4, 3) := by decide +kernel
theorem dX2_isLetter_16 : decode cX2_isLetter 16 = .ok (.iconst 0, 1) := by decide +kernel
theorem dX2_isLetter_17 : decode cX2_isLetter 17 = .ok (.ireturn, 1) := by decide +kernel
theorem dX2_isFigure_0 : decode cX2_isFigure 0 = .ok (.iload_n 0, 1) := by decide +kernel
theorem dX2_isFigure_1 : decode cX2_isFigure 1 = .ok (.bipush 48, 2) := by decide +kernel
theorem dX2_isFigure_3 : decode cX2_isFigure 3 = .ok (.if_icmp .lt 13, 3) := by decide +kernel
theorem dX2_isFigure_6 : decode cX2_isFigure 6 = .ok (.iload_n 0, 1) := by decide +kernel
theorem dX2_isFigure_7 : decode cX2_isFigure 7 = .ok (.bipush 57, 2) := by decide +kernel
theorem dX2_isFigure_9 : decode cX2_isFigure 9 = .ok (.if_icmp .gt 7, 3) := by decide +kernel
theorem dX2_isFigure_12 : decode cX2_isFigure 12 = .ok (.iconst 1, 1) := by decide +kernel
theorem dX2_isFigure_13 : decode cX2_isFigure 13 = .ok (.goto 4, 3) := by decide +kernel
theorem dX2_isFigure_16 : decode cX2_isFigure 16 = .ok (.iconst 0, 1) := by decide +kernel
theorem dX2_isFigure_17 : decode cX2_isFigure 17 = .ok (.ireturn, 1) := by decide +kernel
theorem dX2_takeLine_0 : decode cX2_takeLine 0 = .ok (.aload_n 0, 1) := by decide +kernel
theorem dX2_takeLine_1 : decode cX2_takeLine 1 = .ok (.invokevirtual 63, 3) := by decide +kernel
theorem dX2_takeLine_4 : decode cX2_takeLine 4 = .ok (.istore_n 2, 1) := by decide +kernel
theorem dX2_takeLine_5 : decode cX2_takeLine 5 = .ok (.iload_n 2, 1) := by decide +kernel
theorem dX2_takeLine_6 : decode cX2_takeLine 6 = .ok (.bipush 8, 2) := by decide +kernel
theorem dX2_takeLine_8 : decode cX2_takeLine 8 = .ok (.if_icmp .ne 11, 3) := by decide +kernel
theorem dX2_takeLine_11 : decode cX2_takeLine 11 = .ok (.aload_n 0, 1) := by decide +kernel
theorem dX2_takeLine_12 : decode cX2_takeLine 12 = .ok (.iconst 2, 1) := by decide +kernel
theorem dX2_takeLine_13 : decode cX2_takeLine 13 = .ok (.putfield 19, 3) := by decide +kernel
theorem dX2_takeLine_16 : decode cX2_takeLine 16 = .ok (.goto 36, 3) := by decide +kernel
theorem dX2_takeLine_19 : decode cX2_takeLine 19 = .ok (.iload_n 2, 1) := by decide +kernel
theorem dX2_takeLine_20 : decode cX2_takeLine 20 = .ok (.iconst 4, 1) := by decide +kernel
theorem dX2_takeLine_21 : decode cX2_takeLine 21 = .ok (.if_icmp .ge 12, 3) := by decide +kernel
theorem dX2_takeLine_24 : decode cX2_takeLine 24 = .ok (.aload_n 0, 1) := by decide +kernel
theorem dX2_takeLine_25 : decode cX2_takeLine 25 = .ok (.aload_n 1, 1) := by decide +kernel
theorem dX2_takeLine_26 : decode cX2_takeLine 26 = .ok (.iload_n 2, 1) := by decide +kernel
theorem dX2_takeLine_27 : decode cX2_takeLine 27 = .ok (.invokevirtual 67, 3) := by decide +kernel
theorem dX2_takeLine_30 : decode cX2_takeLine 30 = .ok (.goto 22, 3) := by decide +kernel
theorem dX2_takeLine_33 : decode cX2_takeLine 33 = .ok (.iload_n 2, 1) := by decide +kernel
theorem dX2_takeLine_34 : decode cX2_takeLine 34 = .ok (.iconst 4, 1) := by decide +kernel
theorem dX2_takeLine_35 : decode cX2_takeLine 35 = .ok (.if_icmp .ne 11, 3) := by decide +kernel
theorem dX2_takeLine_38 : decode cX2_takeLine 38 = .ok (.aload_n 0, 1) := by decide +kernel
theorem dX2_takeLine_39 : decode cX2_takeLine 39 = .ok (.aload_n 1, 1) := by decide +kernel
theorem dX2_takeLine_40 : decode cX2_takeLine 40 = .ok (.invokevirtual 71, 3) := by decide +kernel
theorem dX2_takeLine_43 : decode cX2_takeLine 43 = .ok (.goto 9, 3) := by decide +kernel
theorem dX2_takeLine_46 : decode cX2_takeLine 46 = .ok (.aload_n 0, 1) := by decide +kernel
theorem dX2_takeLine_47 : decode cX2_takeLine 47 = .ok (.aload_n 1, 1) := by decide +kernel
theorem dX2_takeLine_48 : decode cX2_takeLine 48 = .ok (.iload_n 2, 1) := by decide +kernel
theorem dX2_takeLine_49 : decode cX2_takeLine 49 = .ok (.invokevirtual 74, 3) := by decide +kernel
theorem dX2_takeLine_52 : decode cX2_takeLine 52 = .ok (.return_, 1) := by decide +kernel
theorem dX2_takeWheelLine_0 : decode cX2_takeWheelLine 0 = .ok (.aload_n 1, 1) := by decide +kernel
theorem dX2_takeWheelLine_1 : decode cX2_takeWheelLine 1 = .ok (.getfield 77, 3) := by decide +kernel
theorem dX2_takeWheelLine_4 : decode cX2_takeWheelLine 4 = .ok (.iconst 4, 1) := by decide +kernel
theorem dX2_takeWheelLine_5 : decode cX2_takeWheelLine 5 = .ok (.if_icmp .lt 9, 3) := by decide +kernel
theorem dX2_takeWheelLine_8 : decode cX2_takeWheelLine 8 = .ok (.aload_n 0, 1) := by decide +kernel
theorem dX2_takeWheelLine_9 : decode cX2_takeWheelLine 9 = .ok (.iconst 5, 1) := by decide +kernel
theorem dX2_takeWheelLine_10 : decode cX2_takeWheelLine 10 = .ok (.putfield 19, 3) := by decide +kernel
theorem dX2_takeWheelLine_13 : decode cX2_takeWheelLine 13 = .ok (.return_, 1) := by decide +kernel
theorem dX2_takeWheelLine_14 : decode cX2_takeWheelLine 14 = .ok (.aload_n 0, 1) := by decide +kernel
theorem dX2_takeWheelLine_15 : decode cX2_takeWheelLine 15 = .ok (.iconst 1, 1) := by decide +kernel
theorem dX2_takeWheelLine_16 : decode cX2_takeWheelLine 16 = .ok (.bipush 20, 2) := by decide +kernel
theorem dX2_takeWheelLine_18 : decode cX2_takeWheelLine 18 = .ok (.invokevirtual 80, 3) := by decide +kernel
theorem dX2_takeWheelLine_21 : decode cX2_takeWheelLine 21 = .ok (.istore_n 3, 1) := by decide +kernel
theorem dX2_takeWheelLine_22 : decode cX2_takeWheelLine 22 = .ok (.aload_n 0, 1) := by decide +kernel
theorem dX2_takeWheelLine_23 : decode cX2_takeWheelLine 23 = .ok (.iconst 0, 1) := by decide +kernel
theorem dX2_takeWheelLine_24 : decode cX2_takeWheelLine 24 = .ok (.bipush 9, 2) := by decide +kernel
theorem dX2_takeWheelLine_26 : decode cX2_takeWheelLine 26 = .ok (.invokevirtual 80, 3) := by decide +kernel
theorem dX2_takeWheelLine_29 : decode cX2_takeWheelLine 29 = .ok (.istore 4, 2) := by decide +kernel
theorem dX2_takeWheelLine_31 : decode cX2_takeWheelLine 31 = .ok (.aload_n 0, 1) := by decide +kernel
theorem dX2_takeWheelLine_32 : decode cX2_takeWheelLine 32 = .ok (.invokevirtual 84, 3) := by decide +kernel
theorem dX2_takeWheelLine_35 : decode cX2_takeWheelLine 35 = .ok (.aload_n 0, 1) := by decide +kernel
theorem dX2_takeWheelLine_36 : decode cX2_takeWheelLine 36 = .ok (.getfield 19, 3) := by decide +kernel
theorem dX2_takeWheelLine_39 : decode cX2_takeWheelLine 39 = .ok (.ifCond .ne 12, 3) := by decide +kernel
theorem dX2_takeWheelLine_42 : decode cX2_takeWheelLine 42 = .ok (.aload_n 1, 1) := by decide +kernel
theorem dX2_takeWheelLine_43 : decode cX2_takeWheelLine 43 = .ok (.iload_n 2, 1) := by decide +kernel
theorem dX2_takeWheelLine_44 : decode cX2_takeWheelLine 44 = .ok (.iload_n 3, 1) := by decide +kernel
theorem dX2_takeWheelLine_45 : decode cX2_takeWheelLine 45 = .ok (.iload 4, 2) := by decide +kernel
theorem dX2_takeWheelLine_47 : decode cX2_takeWheelLine 47 = .ok (.invokevirtual 87, 3) := by decide +kernel
theorem dX2_takeWheelLine_50 : decode cX2_takeWheelLine 50 = .ok (.pop, 1) := by decide +kernel
theorem dX2_takeWheelLine_51 : decode cX2_takeWheelLine 51 = .ok (.return_, 1) := by decide +kernel
theorem dX2_takeShaftLine_0 : decode cX2_takeShaftLine 0 = .ok (.aload_n 0, 1) := by decide +kernel
theorem dX2_takeShaftLine_1 : decode cX2_takeShaftLine 1 = .ok (.getfield 34, 3) := by decide +kernel
theorem dX2_takeShaftLine_4 : decode cX2_takeShaftLine 4 = .ok (.ifCond .eq 9, 3) := by decide +kernel
theorem dX2_takeShaftLine_7 : decode cX2_takeShaftLine 7 = .ok (.aload_n 0, 1) := by decide +kernel
theorem dX2_takeShaftLine_8 : decode cX2_takeShaftLine 8 = .ok (.iconst 4, 1) := by decide +kernel
theorem dX2_takeShaftLine_9 : decode cX2_takeShaftLine 9 = .ok (.putfield 19, 3) := by decide +kernel
theorem dX2_takeShaftLine_12 : decode cX2_takeShaftLine 12 = .ok (.return_, 1) := by decide +kernel
theorem dX2_takeShaftLine_13 : decode cX2_takeShaftLine 13 = .ok (.aload_n 0, 1) := by decide +kernel
theorem dX2_takeShaftLine_14 : decode cX2_takeShaftLine 14 = .ok (.iconst 1, 1) := by decide +kernel
theorem dX2_takeShaftLine_15 : decode cX2_takeShaftLine 15 = .ok (.bipush 20, 2) := by decide +kernel
theorem dX2_takeShaftLine_17 : decode cX2_takeShaftLine 17 = .ok (.invokevirtual 80, 3) := by decide +kernel
theorem dX2_takeShaftLine_20 : decode cX2_takeShaftLine 20 = .ok (.istore_n 2, 1) := by decide +kernel
theorem dX2_takeShaftLine_21 : decode cX2_takeShaftLine 21 = .ok (.aload_n 0, 1) := by decide +kernel
theorem dX2_takeShaftLine_22 : decode cX2_takeShaftLine 22 = .ok (.invokevirtual 84, 3) := by decide +kernel
theorem dX2_takeShaftLine_25 : decode cX2_takeShaftLine 25 = .ok (.aload_n 0, 1) := by decide +kernel
theorem dX2_takeShaftLine_26 : decode cX2_takeShaftLine 26 = .ok (.getfield 19, 3) := by decide +kernel
theorem dX2_takeShaftLine_29 : decode cX2_takeShaftLine 29 = .ok (.ifCond .ne 13, 3) := by decide +kernel
theorem dX2_takeShaftLine_32 : decode cX2_takeShaftLine 32 = .ok (.aload_n 1, 1) := by decide +kernel
theorem dX2_takeShaftLine_33 : decode cX2_takeShaftLine 33 = .ok (.iload_n 2, 1) := by decide +kernel
theorem dX2_takeShaftLine_34 : decode cX2_takeShaftLine 34 = .ok (.putfield 91, 3) := by decide +kernel
theorem dX2_takeShaftLine_37 : decode cX2_takeShaftLine 37 = .ok (.aload_n 0, 1) := by decide +kernel
theorem dX2_takeShaftLine_38 : decode cX2_takeShaftLine 38 = .ok (.iconst 1, 1) := by decide +kernel
theorem dX2_takeShaftLine_39 : decode cX2_takeShaftLine 39 = .ok (.putfield 34, 3) := by decide +kernel
theorem dX2_takeShaftLine_42 : decode cX2_takeShaftLine 42 = .ok (.return_, 1) := by decide +kernel
theorem dX2_takeActLine_0 : decode cX2_takeActLine 0 = .ok (.aload_n 1, 1) := by decide +kernel
theorem dX2_takeActLine_1 : decode cX2_takeActLine 1 = .ok (.getfield 94, 3) := by decide +kernel
theorem dX2_takeActLine_4 : decode cX2_takeActLine 4 = .ok (.bipush 16, 2) := by decide +kernel
theorem dX2_takeActLine_6 : decode cX2_takeActLine 6 = .ok (.if_icmp .lt 9, 3) := by decide +kernel
theorem dX2_takeActLine_9 : decode cX2_takeActLine 9 = .ok (.aload_n 0, 1) := by decide +kernel
theorem dX2_takeActLine_10 : decode cX2_takeActLine 10 = .ok (.iconst 5, 1) := by decide +kernel
theorem dX2_takeActLine_11 : decode cX2_takeActLine 11 = .ok (.putfield 19, 3) := by decide +kernel
theorem dX2_takeActLine_14 : decode cX2_takeActLine 14 = .ok (.return_, 1) := by decide +kernel
theorem dX2_takeActLine_15 : decode cX2_takeActLine 15 = .ok (.aload_n 0, 1) := by decide +kernel
theorem dX2_takeActLine_16 : decode cX2_takeActLine 16 = .ok (.iconst 0, 1) := by decide +kernel
theorem dX2_takeActLine_17 : decode cX2_takeActLine 17 = .ok (.iload_n 2, 1) := by decide +kernel
theorem dX2_takeActLine_18 : decode cX2_takeActLine 18 = .ok (.bipush 7, 2) := by decide +kernel
theorem dX2_takeActLine_20 : decode cX2_takeActLine 20 = .ok (.if_icmp .ne 7, 3) := by decide +kernel
theorem dX2_takeActLine_23 : decode cX2_takeActLine 23 = .ok (.iconst 3, 1) := by decide +kernel
theorem dX2_takeActLine_24 : decode cX2_takeActLine 24 = .ok (.goto 5, 3) := by decide +kernel
theorem dX2_takeActLine_27 : decode cX2_takeActLine 27 = .ok (.bipush 99, 2) := by decide +kernel
theorem dX2_takeActLine_29 : decode cX2_takeActLine 29 = .ok (.invokevirtual 80, 3) := by decide +kernel
theorem dX2_takeActLine_32 : decode cX2_takeActLine 32 = .ok (.istore_n 3, 1) := by decide +kernel
theorem dX2_takeActLine_33 : decode cX2_takeActLine 33 = .ok (.aload_n 0, 1) := by decide +kernel
theorem dX2_takeActLine_34 : decode cX2_takeActLine 34 = .ok (.invokevirtual 84, 3) := by decide +kernel
theorem dX2_takeActLine_37 : decode cX2_takeActLine 37 = .ok (.aload_n 0, 1) := by decide +kernel
theorem dX2_takeActLine_38 : decode cX2_takeActLine 38 = .ok (.getfield 19, 3) := by decide +kernel
theorem dX2_takeActLine_41 : decode cX2_takeActLine 41 = .ok (.ifCond .ne 14, 3) := by decide +kernel
theorem dX2_takeActLine_44 : decode cX2_takeActLine 44 = .ok (.aload_n 1, 1) := by decide +kernel
theorem dX2_takeActLine_45 : decode cX2_takeActLine 45 = .ok (.iload_n 2, 1) := by decide +kernel
theorem dX2_takeActLine_46 : decode cX2_takeActLine 46 = .ok (.invokestatic 97, 3) := by decide +kernel
theorem dX2_takeActLine_49 : decode cX2_takeActLine 49 = .ok (.iload_n 3, 1) := by decide +kernel
theorem dX2_takeActLine_50 : decode cX2_takeActLine 50 = .ok (.iadd, 1) := by decide +kernel
theorem dX2_takeActLine_51 : decode cX2_takeActLine 51 = .ok (.invokevirtual 101, 3) := by decide +kernel
theorem dX2_takeActLine_54 : decode cX2_takeActLine 54 = .ok (.pop, 1) := by decide +kernel
theorem dX2_takeActLine_55 : decode cX2_takeActLine 55 = .ok (.return_, 1) := by decide +kernel
theorem dX2_firstActOf_0 : decode cX2_firstActOf 0 = .ok (.iload_n 0, 1) := by decide +kernel
theorem dX2_firstActOf_1 : decode cX2_firstActOf 1 = .ok (.lookupswitch 34 #[(6, 27), (7, 30)], 27) := by decide +kernel
theorem dX2_firstActOf_28 : decode cX2_firstActOf 28 = .ok (.bipush 100, 2) := by decide +kernel
theorem dX2_firstActOf_30 : decode cX2_firstActOf 30 = .ok (.ireturn, 1) := by decide +kernel
theorem dX2_firstActOf_31 : decode cX2_firstActOf 31 = .ok (.sipush 200, 3) := by decide +kernel
theorem dX2_firstActOf_34 : decode cX2_firstActOf 34 = .ok (.ireturn, 1) := by decide +kernel
theorem dX2_firstActOf_35 : decode cX2_firstActOf 35 = .ok (.iconst 0, 1) := by decide +kernel
theorem dX2_firstActOf_36 : decode cX2_firstActOf 36 = .ok (.ireturn, 1) := by decide +kernel
theorem dX2_numberWithin_0 : decode cX2_numberWithin 0 = .ok (.aload_n 0, 1) := by decide +kernel
theorem dX2_numberWithin_1 : decode cX2_numberWithin 1 = .ok (.invokevirtual 43, 3) := by decide +kernel
theorem dX2_numberWithin_4 : decode cX2_numberWithin 4 = .ok (.aload_n 0, 1) := by decide +kernel
theorem dX2_numberWithin_5 : decode cX2_numberWithin 5 = .ok (.getfield 19, 3) := by decide +kernel
theorem dX2_numberWithin_8 : decode cX2_numberWithin 8 = .ok (.ifCond .ne 16, 3) := by decide +kernel
theorem dX2_numberWithin_11 : decode cX2_numberWithin 11 = .ok (.aload_n 0, 1) := by decide +kernel
theorem dX2_numberWithin_12 : decode cX2_numberWithin 12 = .ok (.getfield 25, 3) := by decide +kernel
theorem dX2_numberWithin_15 : decode cX2_numberWithin 15 = .ok (.iconst 2, 1) := by decide +kernel
theorem dX2_numberWithin_16 : decode cX2_numberWithin 16 = .ok (.if_icmp .eq 8, 3) := by decide +kernel
theorem dX2_numberWithin_19 : decode cX2_numberWithin 19 = .ok (.aload_n 0, 1) := by decide +kernel
theorem dX2_numberWithin_20 : decode cX2_numberWithin 20 = .ok (.iconst 2, 1) := by decide +kernel
theorem dX2_numberWithin_21 : decode cX2_numberWithin 21 = .ok (.putfield 19, 3) := by decide +kernel
theorem dX2_numberWithin_24 : decode cX2_numberWithin 24 = .ok (.aload_n 0, 1) := by decide +kernel
theorem dX2_numberWithin_25 : decode cX2_numberWithin 25 = .ok (.getfield 19, 3) := by decide +kernel
theorem dX2_numberWithin_28 : decode cX2_numberWithin 28 = .ok (.ifCond .ne 20, 3) := by decide +kernel
theorem dX2_numberWithin_31 : decode cX2_numberWithin 31 = .ok (.aload_n 0, 1) := by decide +kernel
theorem dX2_numberWithin_32 : decode cX2_numberWithin 32 = .ok (.getfield 31, 3) := by decide +kernel
theorem dX2_numberWithin_35 : decode cX2_numberWithin 35 = .ok (.iload_n 1, 1) := by decide +kernel
theorem dX2_numberWithin_36 : decode cX2_numberWithin 36 = .ok (.iload_n 2, 1) := by decide +kernel
theorem dX2_numberWithin_37 : decode cX2_numberWithin 37 = .ok (.invokestatic 104, 3) := by decide +kernel
theorem dX2_numberWithin_40 : decode cX2_numberWithin 40 = .ok (.ifCond .ne 8, 3) := by decide +kernel
theorem dX2_numberWithin_43 : decode cX2_numberWithin 43 = .ok (.aload_n 0, 1) := by decide +kernel
theorem dX2_numberWithin_44 : decode cX2_numberWithin 44 = .ok (.iconst 3, 1) := by decide +kernel
theorem dX2_numberWithin_45 : decode cX2_numberWithin 45 = .ok (.putfield 19, 3) := by decide +kernel
theorem dX2_numberWithin_48 : decode cX2_numberWithin 48 = .ok (.aload_n 0, 1) := by decide +kernel
theorem dX2_numberWithin_49 : decode cX2_numberWithin 49 = .ok (.getfield 31, 3) := by decide +kernel
theorem dX2_numberWithin_52 : decode cX2_numberWithin 52 = .ok (.ireturn, 1) := by decide +kernel
theorem dX2_takeStop_0 : decode cX2_takeStop 0 = .ok (.aload_n 0, 1) := by decide +kernel
theorem dX2_takeStop_1 : decode cX2_takeStop 1 = .ok (.invokevirtual 43, 3) := by decide +kernel
theorem dX2_takeStop_4 : decode cX2_takeStop 4 = .ok (.aload_n 0, 1) := by decide +kernel
theorem dX2_takeStop_5 : decode cX2_takeStop 5 = .ok (.getfield 19, 3) := by decide +kernel
theorem dX2_takeStop_8 : decode cX2_takeStop 8 = .ok (.ifCond .ne 16, 3) := by decide +kernel
theorem dX2_takeStop_11 : decode cX2_takeStop 11 = .ok (.aload_n 0, 1) := by decide +kernel
theorem dX2_takeStop_12 : decode cX2_takeStop 12 = .ok (.getfield 25, 3) := by decide +kernel
theorem dX2_takeStop_15 : decode cX2_takeStop 15 = .ok (.iconst 3, 1) := by decide +kernel
theorem dX2_takeStop_16 : decode cX2_takeStop 16 = .ok (.if_icmp .eq 8, 3) := by decide +kernel
theorem dX2_takeStop_19 : decode cX2_takeStop 19 = .ok (.aload_n 0, 1) := by decide +kernel
theorem dX2_takeStop_20 : decode cX2_takeStop 20 = .ok (.iconst 2, 1) := by decide +kernel
theorem dX2_takeStop_21 : decode cX2_takeStop 21 = .ok (.putfield 19, 3) := by decide +kernel
theorem dX2_takeStop_24 : decode cX2_takeStop 24 = .ok (.return_, 1) := by decide +kernel
theorem dX2_lineOfName_0 : decode cX2_lineOfName 0 = .ok (.aload_n 0, 1) := by decide +kernel
theorem dX2_lineOfName_1 : decode cX2_lineOfName 1 = .ok (.getfield 25, 3) := by decide +kernel
theorem dX2_lineOfName_4 : decode cX2_lineOfName 4 = .ok (.iconst 1, 1) := by decide +kernel
theorem dX2_lineOfName_5 : decode cX2_lineOfName 5 = .ok (.if_icmp .ne 30, 3) := by decide +kernel
theorem dX2_lineOfName_8 : decode cX2_lineOfName 8 = .ok (.iconst 0, 1) := by decide +kernel
theorem dX2_lineOfName_9 : decode cX2_lineOfName 9 = .ok (.istore_n 1, 1) := by decide +kernel
theorem dX2_lineOfName_10 : decode cX2_lineOfName 10 = .ok (.iload_n 1, 1) := by decide +kernel
theorem dX2_lineOfName_11 : decode cX2_lineOfName 11 = .ok (.bipush 8, 2) := by decide +kernel
theorem dX2_lineOfName_13 : decode cX2_lineOfName 13 = .ok (.if_icmp .ge 22, 3) := by decide +kernel
theorem dX2_lineOfName_16 : decode cX2_lineOfName 16 = .ok (.aload_n 0, 1) := by decide +kernel
theorem dX2_lineOfName_17 : decode cX2_lineOfName 17 = .ok (.iload_n 1, 1) := by decide +kernel
theorem dX2_lineOfName_18 : decode cX2_lineOfName 18 = .ok (.invokestatic 108, 3) := by decide +kernel
theorem dX2_lineOfName_21 : decode cX2_lineOfName 21 = .ok (.invokevirtual 112, 3) := by decide +kernel
theorem dX2_lineOfName_24 : decode cX2_lineOfName 24 = .ok (.ifCond .eq 5, 3) := by decide +kernel
theorem dX2_lineOfName_27 : decode cX2_lineOfName 27 = .ok (.iload_n 1, 1) := by decide +kernel
theorem dX2_lineOfName_28 : decode cX2_lineOfName 28 = .ok (.ireturn, 1) := by decide +kernel
theorem dX2_lineOfName_29 : decode cX2_lineOfName 29 = .ok (.iinc 1 1, 3) := by decide +kernel
theorem dX2_lineOfName_32 : decode cX2_lineOfName 32 = .ok (.goto (-22), 3) := by decide +kernel
theorem dX2_lineOfName_35 : decode cX2_lineOfName 35 = .ok (.bipush 8, 2) := by decide +kernel
theorem dX2_lineOfName_37 : decode cX2_lineOfName 37 = .ok (.ireturn, 1) := by decide +kernel
theorem dX2_nameOfLine_0 : decode cX2_nameOfLine 0 = .ok (.iload_n 0, 1) := by decide +kernel
theorem dX2_nameOfLine_1 : decode cX2_nameOfLine 1 = .ok (.tableswitch 64 0 6 #[43, 46, 49, 52, 55, 58, 61], 43) := by decide +kernel
theorem dX2_nameOfLine_44 : decode cX2_nameOfLine 44 = .ok (.ldc 116, 2) := by decide +kernel
theorem dX2_nameOfLine_46 : decode cX2_nameOfLine 46 = .ok (.areturn, 1) := by decide +kernel
theorem dX2_nameOfLine_47 : decode cX2_nameOfLine 47 = .ok (.ldc 118, 2) := by decide +kernel
theorem dX2_nameOfLine_49 : decode cX2_nameOfLine 49 = .ok (.areturn, 1) := by decide +kernel
theorem dX2_nameOfLine_50 : decode cX2_nameOfLine 50 = .ok (.ldc 120, 2) := by decide +kernel
theorem dX2_nameOfLine_52 : decode cX2_nameOfLine 52 = .ok (.areturn, 1) := by decide +kernel
theorem dX2_nameOfLine_53 : decode cX2_nameOfLine 53 = .ok (.ldc 122, 2) := by decide +kernel
theorem dX2_nameOfLine_55 : decode cX2_nameOfLine 55 = .ok (.areturn, 1) := by decide +kernel
theorem dX2_nameOfLine_56 : decode cX2_nameOfLine 56 = .ok (.ldc 124, 2) := by decide +kernel
theorem dX2_nameOfLine_58 : decode cX2_nameOfLine 58 = .ok (.areturn, 1) := by decide +kernel
theorem dX2_nameOfLine_59 : decode cX2_nameOfLine 59 = .ok (.ldc 126, 2) := by decide +kernel
theorem dX2_nameOfLine_61 : decode cX2_nameOfLine 61 = .ok (.areturn, 1) := by decide +kernel
theorem dX2_nameOfLine_62 : decode cX2_nameOfLine 62 = .ok (.ldc 128, 2) := by decide +kernel
theorem dX2_nameOfLine_64 : decode cX2_nameOfLine 64 = .ok (.areturn, 1) := by decide +kernel
theorem dX2_nameOfLine_65 : decode cX2_nameOfLine 65 = .ok (.ldc 130, 2) := by decide +kernel
theorem dX2_nameOfLine_67 : decode cX2_nameOfLine 67 = .ok (.areturn, 1) := by decide +kernel
theorem dX2_tokenIs_0 : decode cX2_tokenIs 0 = .ok (.aload_n 0, 1) := by decide +kernel
theorem dX2_tokenIs_1 : decode cX2_tokenIs 1 = .ok (.getfield 22, 3) := by decide +kernel
theorem dX2_tokenIs_4 : decode cX2_tokenIs 4 = .ok (.aload_n 0, 1) := by decide +kernel
theorem dX2_tokenIs_5 : decode cX2_tokenIs 5 = .ok (.getfield 28, 3) := by decide +kernel
theorem dX2_tokenIs_8 : decode cX2_tokenIs 8 = .ok (.isub, 1) := by decide +kernel
theorem dX2_tokenIs_9 : decode cX2_tokenIs 9 = .ok (.aload_n 1, 1) := by decide +kernel
theorem dX2_tokenIs_10 : decode cX2_tokenIs 10 = .ok (.invokevirtual 132, 3) := by decide +kernel
theorem dX2_tokenIs_13 : decode cX2_tokenIs 13 = .ok (.if_icmp .eq 5, 3) := by decide +kernel
theorem dX2_tokenIs_16 : decode cX2_tokenIs 16 = .ok (.iconst 0, 1) := by decide +kernel
theorem dX2_tokenIs_17 : decode cX2_tokenIs 17 = .ok (.ireturn, 1) := by decide +kernel
theorem dX2_tokenIs_18 : decode cX2_tokenIs 18 = .ok (.iconst 0, 1) := by decide +kernel
theorem dX2_tokenIs_19 : decode cX2_tokenIs 19 = .ok (.istore_n 2, 1) := by decide +kernel
theorem dX2_tokenIs_20 : decode cX2_tokenIs 20 = .ok (.iload_n 2, 1) := by decide +kernel
theorem dX2_tokenIs_21 : decode cX2_tokenIs 21 = .ok (.aload_n 1, 1) := by decide +kernel
theorem dX2_tokenIs_22 : decode cX2_tokenIs 22 = .ok (.invokevirtual 132, 3) := by decide +kernel
theorem dX2_tokenIs_25 : decode cX2_tokenIs 25 = .ok (.if_icmp .ge 30, 3) := by decide +kernel
theorem dX2_tokenIs_28 : decode cX2_tokenIs 28 = .ok (.aload_n 0, 1) := by decide +kernel
theorem dX2_tokenIs_29 : decode cX2_tokenIs 29 = .ok (.getfield 9, 3) := by decide +kernel
theorem dX2_tokenIs_32 : decode cX2_tokenIs 32 = .ok (.aload_n 0, 1) := by decide +kernel
theorem dX2_tokenIs_33 : decode cX2_tokenIs 33 = .ok (.getfield 28, 3) := by decide +kernel
theorem dX2_tokenIs_36 : decode cX2_tokenIs 36 = .ok (.iload_n 2, 1) := by decide +kernel
theorem dX2_tokenIs_37 : decode cX2_tokenIs 37 = .ok (.iadd, 1) := by decide +kernel
theorem dX2_tokenIs_38 : decode cX2_tokenIs 38 = .ok (.iaload, 1) := by decide +kernel
theorem dX2_tokenIs_39 : decode cX2_tokenIs 39 = .ok (.aload_n 1, 1) := by decide +kernel
theorem dX2_tokenIs_40 : decode cX2_tokenIs 40 = .ok (.iload_n 2, 1) := by decide +kernel
theorem dX2_tokenIs_41 : decode cX2_tokenIs 41 = .ok (.invokevirtual 136, 3) := by decide +kernel
theorem dX2_tokenIs_44 : decode cX2_tokenIs 44 = .ok (.if_icmp .eq 5, 3) := by decide +kernel
theorem dX2_tokenIs_47 : decode cX2_tokenIs 47 = .ok (.iconst 0, 1) := by decide +kernel
theorem dX2_tokenIs_48 : decode cX2_tokenIs 48 = .ok (.ireturn, 1) := by decide +kernel
theorem dX2_tokenIs_49 : decode cX2_tokenIs 49 = .ok (.iinc 2 1, 3) := by decide +kernel
theorem dX2_tokenIs_52 : decode cX2_tokenIs 52 = .ok (.goto (-32), 3) := by decide +kernel
theorem dX2_tokenIs_55 : decode cX2_tokenIs 55 = .ok (.iconst 1, 1) := by decide +kernel
theorem dX2_tokenIs_56 : decode cX2_tokenIs 56 = .ok (.ireturn, 1) := by decide +kernel
theorem dX3_init_0 : decode cX3_init 0 = .ok (.aload_n 0, 1) := by decide +kernel
theorem dX3_init_1 : decode cX3_init 1 = .ok (.invokespecial 1, 3) := by decide +kernel
theorem dX3_init_4 : decode cX3_init 4 = .ok (.aload_n 0, 1) := by decide +kernel
theorem dX3_init_5 : decode cX3_init 5 = .ok (.new 7, 3) := by decide +kernel
theorem dX3_init_8 : decode cX3_init 8 = .ok (.dup, 1) := by decide +kernel
theorem dX3_init_9 : decode cX3_init 9 = .ok (.invokespecial 9, 3) := by decide +kernel
theorem dX3_init_12 : decode cX3_init 12 = .ok (.putfield 10, 3) := by decide +kernel
theorem dX3_init_15 : decode cX3_init 15 = .ok (.aload_n 0, 1) := by decide +kernel
theorem dX3_init_16 : decode cX3_init 16 = .ok (.new 7, 3) := by decide +kernel
theorem dX3_init_19 : decode cX3_init 19 = .ok (.dup, 1) := by decide +kernel
theorem dX3_init_20 : decode cX3_init 20 = .ok (.invokespecial 9, 3) := by decide +kernel
theorem dX3_init_23 : decode cX3_init 23 = .ok (.putfield 16, 3) := by decide +kernel
theorem dX3_init_26 : decode cX3_init 26 = .ok (.aload_n 0, 1) := by decide +kernel
theorem dX3_init_27 : decode cX3_init 27 = .ok (.new 7, 3) := by decide +kernel
theorem dX3_init_30 : decode cX3_init 30 = .ok (.dup, 1) := by decide +kernel
theorem dX3_init_31 : decode cX3_init 31 = .ok (.invokespecial 9, 3) := by decide +kernel
theorem dX3_init_34 : decode cX3_init 34 = .ok (.putfield 19, 3) := by decide +kernel
theorem dX3_init_37 : decode cX3_init 37 = .ok (.aload_n 0, 1) := by decide +kernel
theorem dX3_init_38 : decode cX3_init 38 = .ok (.iconst 2, 1) := by decide +kernel
theorem dX3_init_39 : decode cX3_init 39 = .ok (.anewarray 7, 3) := by decide +kernel
theorem dX3_init_42 : decode cX3_init 42 = .ok (.putfield 22, 3) := by decide +kernel
theorem dX3_init_45 : decode cX3_init 45 = .ok (.aload_n 0, 1) := by decide +kernel
theorem dX3_init_46 : decode cX3_init 46 = .ok (.iconst 2, 1) := by decide +kernel
theorem dX3_init_47 : decode cX3_init 47 = .ok (.newarray .boolean, 2) := by decide +kernel
theorem dX3_init_49 : decode cX3_init 49 = .ok (.putfield 26, 3) := by decide +kernel
theorem dX3_init_52 : decode cX3_init 52 = .ok (.aload_n 0, 1) := by decide +kernel
theorem dX3_init_53 : decode cX3_init 53 = .ok (.new 30, 3) := by decide +kernel
theorem dX3_init_56 : decode cX3_init 56 = .ok (.dup, 1) := by decide +kernel
theorem dX3_init_57 : decode cX3_init 57 = .ok (.invokespecial 32, 3) := by decide +kernel
theorem dX3_init_60 : decode cX3_init 60 = .ok (.putfield 33, 3) := by decide +kernel
theorem dX3_init_63 : decode cX3_init 63 = .ok (.aload_n 0, 1) := by decide +kernel
theorem dX3_init_64 : decode cX3_init 64 = .ok (.iconst 4, 1) := by decide +kernel
theorem dX3_init_65 : decode cX3_init 65 = .ok (.anewarray 37, 3) := by decide +kernel
theorem dX3_init_68 : decode cX3_init 68 = .ok (.putfield 39, 3) := by decide +kernel
theorem dX3_init_71 : decode cX3_init 71 = .ok (.aload_n 0, 1) := by decide +kernel
theorem dX3_init_72 : decode cX3_init 72 = .ok (.bipush 6, 2) := by decide +kernel
theorem dX3_init_74 : decode cX3_init 74 = .ok (.newarray .int, 2) := by decide +kernel
theorem dX3_init_76 : decode cX3_init 76 = .ok (.putfield 43, 3) := by decide +kernel
theorem dX3_init_79 : decode cX3_init 79 = .ok (.aload_n 0, 1) := by decide +kernel
theorem dX3_init_80 : decode cX3_init 80 = .ok (.bipush 6, 2) := by decide +kernel
theorem dX3_init_82 : decode cX3_init 82 = .ok (.newarray .int, 2) := by decide +kernel
theorem dX3_init_84 : decode cX3_init 84 = .ok (.putfield 47, 3) := by decide +kernel
theorem dX3_init_87 : decode cX3_init 87 = .ok (.aload_n 0, 1) := by decide +kernel
theorem dX3_init_88 : decode cX3_init 88 = .ok (.bipush 6, 2) := by decide +kernel
theorem dX3_init_90 : decode cX3_init 90 = .ok (.newarray .int, 2) := by decide +kernel
theorem dX3_init_92 : decode cX3_init 92 = .ok (.putfield 50, 3) := by decide +kernel
theorem dX3_init_95 : decode cX3_init 95 = .ok (.aload_n 0, 1) := by decide +kernel
theorem dX3_init_96 : decode cX3_init 96 = .ok (.iconst 0, 1) := by decide +kernel
theorem dX3_init_97 : decode cX3_init 97 = .ok (.putfield 53, 3) := by decide +kernel
theorem dX3_init_100 : decode cX3_init 100 = .ok (.aload_n 0, 1) := by decide +kernel
theorem dX3_init_101 : decode cX3_init 101 = .ok (.iconst 0, 1) := by decide +kernel
theorem dX3_init_102 : decode cX3_init 102 = .ok (.putfield 57, 3) := by decide +kernel
theorem dX3_init_105 : decode cX3_init 105 = .ok (.aload_n 0, 1) := by decide +kernel
theorem dX3_init_106 : decode cX3_init 106 = .ok (.iconst 0, 1) := by decide +kernel
theorem dX3_init_107 : decode cX3_init 107 = .ok (.putfield 60, 3) := by decide +kernel
theorem dX3_init_110 : decode cX3_init 110 = .ok (.aload_n 0, 1) := by decide +kernel
theorem dX3_init_111 : decode cX3_init 111 = .ok (.sipush 410, 3) := by decide +kernel
theorem dX3_init_114 : decode cX3_init 114 = .ok (.newarray .int, 2) := by decide +kernel
theorem dX3_init_116 : decode cX3_init 116 = .ok (.putfield 63, 3) := by decide +kernel
theorem dX3_init_119 : decode cX3_init 119 = .ok (.iconst 0, 1) := by decide +kernel
theorem dX3_init_120 : decode cX3_init 120 = .ok (.istore_n 1, 1) := by decide +kernel
theorem dX3_init_121 : decode cX3_init 121 = .ok (.iload_n 1, 1) := by decide +kernel
theorem dX3_init_122 : decode cX3_init 122 = .ok (.iconst 2, 1) := by decide +kernel
theorem dX3_init_123 : decode cX3_init 123 = .ok (.if_icmp .ge 22, 3) := by decide +kernel
theorem dX3_init_126 : decode cX3_init 126 = .ok (.aload_n 0, 1) := by decide +kernel
theorem dX3_init_127 : decode cX3_init 127 = .ok (.getfield 22, 3) := by decide +kernel
theorem dX3_init_130 : decode cX3_init 130 = .ok (.iload_n 1, 1) := by decide +kernel
theorem dX3_init_131 : decode cX3_init 131 = .ok (.new 7, 3) := by decide +kernel
theorem dX3_init_134 : decode cX3_init 134 = .ok (.dup, 1) := by decide +kernel
theorem dX3_init_135 : decode cX3_init 135 = .ok (.invokespecial 9, 3) := by decide +kernel
theorem dX3_init_138 : decode cX3_init 138 = .ok (.aastore, 1) := by decide +kernel
theorem dX3_init_139 : decode cX3_init 139 = .ok (.iinc 1 1, 3) := by decide +kernel
theorem dX3_init_142 : decode cX3_init 142 = .ok (.goto (-21), 3) := by decide +kernel
theorem dX3_init_145 : decode cX3_init 145 = .ok (.iconst 0, 1) := by decide +kernel
theorem dX3_init_146 : decode cX3_init 146 = .ok (.istore_n 1, 1) := by decide +kernel
theorem dX3_init_147 : decode cX3_init 147 = .ok (.iload_n 1, 1) := by decide +kernel
theorem dX3_init_148 : decode cX3_init 148 = .ok (.iconst 4, 1) := by decide +kernel
theorem dX3_init_149 : decode cX3_init 149 = .ok (.if_icmp .ge 22, 3) := by decide +kernel
theorem dX3_init_152 : decode cX3_init 152 = .ok (.aload_n 0, 1) := by decide +kernel
theorem dX3_init_153 : decode cX3_init 153 = .ok (.getfield 39, 3) := by decide +kernel
theorem dX3_init_156 : decode cX3_init 156 = .ok (.iload_n 1, 1) := by decide +kernel
theorem dX3_init_157 : decode cX3_init 157 = .ok (.new 37, 3) := by decide +kernel
theorem dX3_init_160 : decode cX3_init 160 = .ok (.dup, 1) := by decide +kernel
theorem dX3_init_161 : decode cX3_init 161 = .ok (.invokespecial 66, 3) := by decide +kernel
theorem dX3_init_164 : decode cX3_init 164 = .ok (.aastore, 1) := by decide +kernel
theorem dX3_init_165 : decode cX3_init 165 = .ok (.iinc 1 1, 3) := by decide +kernel
theorem dX3_init_168 : decode cX3_init 168 = .ok (.goto (-21), 3) := by decide +kernel
theorem dX3_init_171 : decode cX3_init 171 = .ok (.return_, 1) := by decide +kernel
theorem dX3_feed_0 : decode cX3_feed 0 = .ok (.iload_n 1, 1) := by decide +kernel
theorem dX3_feed_1 : decode cX3_feed 1 = .ok (.iconst 0, 1) := by decide +kernel
theorem dX3_feed_2 : decode cX3_feed 2 = .ok (.bipush 127, 2) := by decide +kernel
theorem dX3_feed_4 : decode cX3_feed 4 = .ok (.invokestatic 67, 3) := by decide +kernel
theorem dX3_feed_7 : decode cX3_feed 7 = .ok (.ifCond .ne 5, 3) := by decide +kernel
theorem dX3_feed_10 : decode cX3_feed 10 = .ok (.iconst (-1), 1) := by decide +kernel
theorem dX3_feed_11 : decode cX3_feed 11 = .ok (.ireturn, 1) := by decide +kernel
theorem dX3_feed_12 : decode cX3_feed 12 = .ok (.aload_n 0, 1) := by decide +kernel
theorem dX3_feed_13 : decode cX3_feed 13 = .ok (.getfield 33, 3) := by decide +kernel
theorem dX3_feed_16 : decode cX3_feed 16 = .ok (.iload_n 1, 1) := by decide +kernel
theorem dX3_feed_17 : decode cX3_feed 17 = .ok (.invokevirtual 71, 3) := by decide +kernel
theorem dX3_feed_20 : decode cX3_feed 20 = .ok (.ireturn, 1) := by decide +kernel
theorem dX3_end_0 : decode cX3_end 0 = .ok (.iload_n 1, 1) := by decide +kernel
theorem dX3_end_1 : decode cX3_end 1 = .ok (.iconst 0, 1) := by decide +kernel
theorem dX3_end_2 : decode cX3_end 2 = .ok (.aload_n 0, 1) := by decide +kernel
theorem dX3_end_3 : decode cX3_end 3 = .ok (.getfield 33, 3) := by decide +kernel
theorem dX3_end_6 : decode cX3_end 6 = .ok (.getfield 75, 3) := by decide +kernel
theorem dX3_end_9 : decode cX3_end 9 = .ok (.invokestatic 67, 3) := by decide +kernel
theorem dX3_end_12 : decode cX3_end 12 = .ok (.ifCond .ne 5, 3) := by decide +kernel
theorem dX3_end_15 : decode cX3_end 15 = .ok (.iconst (-1), 1) := by decide +kernel
theorem dX3_end_16 : decode cX3_end 16 = .ok (.ireturn, 1) := by decide +kernel
theorem dX3_end_17 : decode cX3_end 17 = .ok (.aload_n 0, 1) := by decide +kernel
theorem dX3_end_18 : decode cX3_end 18 = .ok (.getfield 33, 3) := by decide +kernel
theorem dX3_end_21 : decode cX3_end 21 = .ok (.getfield 75, 3) := by decide +kernel
theorem dX3_end_24 : decode cX3_end 24 = .ok (.istore_n 2, 1) := by decide +kernel
theorem dX3_end_25 : decode cX3_end 25 = .ok (.aload_n 0, 1) := by decide +kernel
theorem dX3_end_26 : decode cX3_end 26 = .ok (.getfield 33, 3) := by decide +kernel
theorem dX3_end_29 : decode cX3_end 29 = .ok (.iload_n 1, 1) := by decide +kernel
theorem dX3_end_30 : decode cX3_end 30 = .ok (.putfield 75, 3) := by decide +kernel
theorem dX3_end_33 : decode cX3_end 33 = .ok (.iload_n 2, 1) := by decide +kernel
theorem dX3_end_34 : decode cX3_end 34 = .ok (.ireturn, 1) := by decide +kernel
theorem dX3_text_0 : decode cX3_text 0 = .ok (.aload_n 0, 1) := by decide +kernel
theorem dX3_text_1 : decode cX3_text 1 = .ok (.getfield 33, 3) := by decide +kernel
theorem dX3_text_4 : decode cX3_text 4 = .ok (.aload_n 0, 1) := by decide +kernel
theorem dX3_text_5 : decode cX3_text 5 = .ok (.getfield 19, 3) := by decide +kernel
theorem dX3_text_8 : decode cX3_text 8 = .ok (.invokevirtual 78, 3) := by decide +kernel
theorem dX3_text_11 : decode cX3_text 11 = .ok (.istore_n 1, 1) := by decide +kernel
theorem dX3_text_12 : decode cX3_text 12 = .ok (.aload_n 0, 1) := by decide +kernel
theorem dX3_text_13 : decode cX3_text 13 = .ok (.aload_n 0, 1) := by decide +kernel
theorem dX3_text_14 : decode cX3_text 14 = .ok (.getfield 33, 3) := by decide +kernel
theorem dX3_text_17 : decode cX3_text 17 = .ok (.getfield 82, 3) := by decide +kernel
theorem dX3_text_20 : decode cX3_text 20 = .ok (.putfield 57, 3) := by decide +kernel
theorem dX3_text_23 : decode cX3_text 23 = .ok (.aload_n 0, 1) := by decide +kernel
theorem dX3_text_24 : decode cX3_text 24 = .ok (.getfield 33, 3) := by decide +kernel
theorem dX3_text_27 : decode cX3_text 27 = .ok (.iconst 0, 1) := by decide +kernel
theorem dX3_text_28 : decode cX3_text 28 = .ok (.putfield 75, 3) := by decide +kernel
theorem dX3_text_31 : decode cX3_text 31 = .ok (.aload_n 0, 1) := by decide +kernel
theorem dX3_text_32 : decode cX3_text 32 = .ok (.getfield 57, 3) := by decide +kernel
theorem dX3_text_35 : decode cX3_text 35 = .ok (.ifCond .ne 39, 3) := by decide +kernel
theorem dX3_text_38 : decode cX3_text 38 = .ok (.aload_n 0, 1) := by decide +kernel
theorem dX3_text_39 : decode cX3_text 39 = .ok (.getfield 10, 3) := by decide +kernel
theorem dX3_text_42 : decode cX3_text 42 = .ok (.aload_n 0, 1) := by decide +kernel
theorem dX3_text_43 : decode cX3_text 43 = .ok (.getfield 19, 3) := by decide +kernel
theorem dX3_text_46 : decode cX3_text 46 = .ok (.invokevirtual 85, 3) := by decide +kernel
theorem dX3_text_49 : decode cX3_text 49 = .ok (.aload_n 0, 1) := by decide +kernel
theorem dX3_text_50 : decode cX3_text 50 = .ok (.iconst 0, 1) := by decide +kernel
theorem dX3_text_51 : decode cX3_text 51 = .ok (.putfield 53, 3) := by decide +kernel
theorem dX3_text_54 : decode cX3_text 54 = .ok (.iconst 0, 1) := by decide +kernel
theorem dX3_text_55 : decode cX3_text 55 = .ok (.istore_n 2, 1) := by decide +kernel
theorem dX3_text_56 : decode cX3_text 56 = .ok (.iload_n 2, 1) := by decide +kernel
theorem dX3_text_57 : decode cX3_text 57 = .ok (.iconst 2, 1) := by decide +kernel
theorem dX3_text_58 : decode cX3_text 58 = .ok (.if_icmp .ge 16, 3) := by decide +kernel
theorem dX3_text_61 : decode cX3_text 61 = .ok (.aload_n 0, 1) := by decide +kernel
theorem dX3_text_62 : decode cX3_text 62 = .ok (.getfield 26, 3) := by decide +kernel
theorem dX3_text_65 : decode cX3_text 65 = .ok (.iload_n 2, 1) := by decide +kernel
theorem dX3_text_66 : decode cX3_text 66 = .ok (.iconst 0, 1) := by decide +kernel
theorem dX3_text_67 : decode cX3_text 67 = .ok (.bastore, 1) := by decide +kernel
theorem dX3_text_68 : decode cX3_text 68 = .ok (.iinc 2 1, 3) := by decide +kernel
theorem dX3_text_71 : decode cX3_text 71 = .ok (.goto (-15), 3) := by decide +kernel
theorem dX3_text_74 : decode cX3_text 74 = .ok (.iload_n 1, 1) := by decide +kernel
theorem dX3_text_75 : decode cX3_text 75 = .ok (.ireturn, 1) := by decide +kernel
theorem dX3_fault_0 : decode cX3_fault 0 = .ok (.aload_n 0, 1) := by decide +kernel
theorem dX3_fault_1 : decode cX3_fault 1 = .ok (.getfield 57, 3) := by decide +kernel
theorem dX3_fault_4 : decode cX3_fault 4 = .ok (.ireturn, 1) := by decide +kernel
theorem dX3_rule_0 : decode cX3_rule 0 = .ok (.iload_n 1, 1) := by decide +kernel
theorem dX3_rule_1 : decode cX3_rule 1 = .ok (.tableswitch 138 0 8 #[51, 59, 67, 75, 83, 91, 99, 107, 115], 51) := by decide +kernel
theorem dX3_rule_52 : decode cX3_rule 52 = .ok (.aload_n 0, 1) := by decide +kernel
theorem dX3_rule_53 : decode cX3_rule 53 = .ok (.getfield 10, 3) := by decide +kernel
theorem dX3_rule_56 : decode cX3_rule 56 = .ok (.getfield 89, 3) := by decide +kernel
theorem dX3_rule_59 : decode cX3_rule 59 = .ok (.ireturn, 1) := by decide +kernel
theorem dX3_rule_60 : decode cX3_rule 60 = .ok (.aload_n 0, 1) := by decide +kernel
theorem dX3_rule_61 : decode cX3_rule 61 = .ok (.getfield 10, 3) := by decide +kernel
theorem dX3_rule_64 : decode cX3_rule 64 = .ok (.getfield 92, 3) := by decide +kernel
theorem dX3_rule_67 : decode cX3_rule 67 = .ok (.ireturn, 1) := by decide +kernel
theorem dX3_rule_68 : decode cX3_rule 68 = .ok (.aload_n 0, 1) := by decide +kernel
theorem dX3_rule_69 : decode cX3_rule 69 = .ok (.getfield 10, 3) := by decide +kernel
theorem dX3_rule_72 : decode cX3_rule 72 = .ok (.getfield 95, 3) := by decide +kernel
theorem dX3_rule_75 : decode cX3_rule 75 = .ok (.ireturn, 1) := by decide +kernel
theorem dX3_rule_76 : decode cX3_rule 76 = .ok (.aload_n 0, 1) := by decide +kernel
theorem dX3_rule_77 : decode cX3_rule 77 = .ok (.getfield 10, 3) := by decide +kernel
theorem dX3_rule_80 : decode cX3_rule 80 = .ok (.getfield 98, 3) := by decide +kernel
theorem dX3_rule_83 : decode cX3_rule 83 = .ok (.ireturn, 1) := by decide +kernel
theorem dX3_rule_84 : decode cX3_rule 84 = .ok (.aload_n 0, 1) := by decide +kernel
theorem dX3_rule_85 : decode cX3_rule 85 = .ok (.getfield 10, 3) := by decide +kernel
theorem dX3_rule_88 : decode cX3_rule 88 = .ok (.getfield 101, 3) := by decide +kernel
theorem dX3_rule_91 : decode cX3_rule 91 = .ok (.ireturn, 1) := by decide +kernel
theorem dX3_rule_92 : decode cX3_rule 92 = .ok (.aload_n 0, 1) := by decide +kernel
theorem dX3_rule_93 : decode cX3_rule 93 = .ok (.getfield 10, 3) := by decide +kernel
theorem dX3_rule_96 : decode cX3_rule 96 = .ok (.getfield 104, 3) := by decide +kernel
theorem dX3_rule_99 : decode cX3_rule 99 = .ok (.ireturn, 1) := by decide +kernel
theorem dX3_rule_100 : decode cX3_rule 100 = .ok (.aload_n 0, 1) := by decide +kernel
theorem dX3_rule_101 : decode cX3_rule 101 = .ok (.getfield 10, 3) := by decide +kernel
theorem dX3_rule_104 : decode cX3_rule 104 = .ok (.getfield 107, 3) := by decide +kernel
theorem dX3_rule_107 : decode cX3_rule 107 = .ok (.ireturn, 1) := by decide +kernel
theorem dX3_rule_108 : decode cX3_rule 108 = .ok (.aload_n 0, 1) := by decide +kernel
theorem dX3_rule_109 : decode cX3_rule 109 = .ok (.getfield 10, 3) := by decide +kernel
theorem dX3_rule_112 : decode cX3_rule 112 = .ok (.invokevirtual 110, 3) := by decide +kernel
theorem dX3_rule_115 : decode cX3_rule 115 = .ok (.ireturn, 1) := by decide +kernel
theorem dX3_rule_116 : decode cX3_rule 116 = .ok (.aload_n 0, 1) := by decide +kernel
theorem dX3_rule_117 : decode cX3_rule 117 = .ok (.getfield 10, 3) := by decide +kernel
theorem dX3_rule_120 : decode cX3_rule 120 = .ok (.getfield 92, 3) := by decide +kernel
theorem dX3_rule_123 : decode cX3_rule 123 = .ok (.ifCond .le 13, 3) := by decide +kernel
theorem dX3_rule_126 : decode cX3_rule 126 = .ok (.aload_n 0, 1) := by decide +kernel
theorem dX3_rule_127 : decode cX3_rule 127 = .ok (.getfield 10, 3) := by decide +kernel
theorem dX3_rule_130 : decode cX3_rule 130 = .ok (.invokevirtual 114, 3) := by decide +kernel
theorem dX3_rule_133 : decode cX3_rule 133 = .ok (.goto 5, 3) := by decide +kernel
theorem dX3_rule_136 : decode cX3_rule 136 = .ok (.bipush (-4), 2) := by decide +kernel
theorem dX3_rule_138 : decode cX3_rule 138 = .ok (.ireturn, 1) := by decide +kernel
theorem dX3_rule_139 : decode cX3_rule 139 = .ok (.iconst (-1), 1) := by decide +kernel
theorem dX3_rule_140 : decode cX3_rule 140 = .ok (.ireturn, 1) := by decide +kernel
theorem dX3_wheel_0 : decode cX3_wheel 0 = .ok (.aload_n 0, 1) := by decide +kernel
theorem dX3_wheel_1 : decode cX3_wheel 1 = .ok (.getfield 10, 3) := by decide +kernel
theorem dX3_wheel_4 : decode cX3_wheel 4 = .ok (.iload_n 1, 1) := by decide +kernel
theorem dX3_wheel_5 : decode cX3_wheel 5 = .ok (.invokevirtual 117, 3) := by decide +kernel
theorem dX3_wheel_8 : decode cX3_wheel 8 = .ok (.ifCond .ne 5, 3) := by decide +kernel
theorem dX3_wheel_11 : decode cX3_wheel 11 = .ok (.iconst (-1), 1) := by decide +kernel
theorem dX3_wheel_12 : decode cX3_wheel 12 = .ok (.ireturn, 1) := by decide +kernel
theorem dX3_wheel_13 : decode cX3_wheel 13 = .ok (.iload_n 2, 1) := by decide +kernel
theorem dX3_wheel_14 : decode cX3_wheel 14 = .ok (.tableswitch 109 0 5 #[38, 48, 58, 68, 78, 100], 38) := by decide +kernel
theorem dX3_wheel_52 : decode cX3_wheel 52 = .ok (.aload_n 0, 1) := by decide +kernel
theorem dX3_wheel_53 : decode cX3_wheel 53 = .ok (.getfield 10, 3) := by decide +kernel
theorem dX3_wheel_56 : decode cX3_wheel 56 = .ok (.getfield 121, 3) := by decide +kernel
theorem dX3_wheel_59 : decode cX3_wheel 59 = .ok (.iload_n 1, 1) := by decide +kernel
theorem dX3_wheel_60 : decode cX3_wheel 60 = .ok (.iaload, 1) := by decide +kernel
theorem dX3_wheel_61 : decode cX3_wheel 61 = .ok (.ireturn, 1) := by decide +kernel
theorem dX3_wheel_62 : decode cX3_wheel 62 = .ok (.aload_n 0, 1) := by decide +kernel
theorem dX3_wheel_63 : decode cX3_wheel 63 = .ok (.getfield 10, 3) := by decide +kernel
theorem dX3_wheel_66 : decode cX3_wheel 66 = .ok (.getfield 124, 3) := by decide +kernel
theorem dX3_wheel_69 : decode cX3_wheel 69 = .ok (.iload_n 1, 1) := by decide +kernel
theorem dX3_wheel_70 : decode cX3_wheel 70 = .ok (.iaload, 1) := by decide +kernel
theorem dX3_wheel_71 : decode cX3_wheel 71 = .ok (.ireturn, 1) := by decide +kernel
theorem dX3_wheel_72 : decode cX3_wheel 72 = .ok (.aload_n 0, 1) := by decide +kernel
theorem dX3_wheel_73 : decode cX3_wheel 73 = .ok (.getfield 10, 3) := by decide +kernel
theorem dX3_wheel_76 : decode cX3_wheel 76 = .ok (.getfield 127, 3) := by decide +kernel
theorem dX3_wheel_79 : decode cX3_wheel 79 = .ok (.iload_n 1, 1) := by decide +kernel
theorem dX3_wheel_80 : decode cX3_wheel 80 = .ok (.iaload, 1) := by decide +kernel
theorem dX3_wheel_81 : decode cX3_wheel 81 = .ok (.ireturn, 1) := by decide +kernel
theorem dX3_wheel_82 : decode cX3_wheel 82 = .ok (.aload_n 0, 1) := by decide +kernel
theorem dX3_wheel_83 : decode cX3_wheel 83 = .ok (.getfield 10, 3) := by decide +kernel
theorem dX3_wheel_86 : decode cX3_wheel 86 = .ok (.getfield 130, 3) := by decide +kernel
theorem dX3_wheel_89 : decode cX3_wheel 89 = .ok (.iload_n 1, 1) := by decide +kernel
theorem dX3_wheel_90 : decode cX3_wheel 90 = .ok (.iaload, 1) := by decide +kernel
theorem dX3_wheel_91 : decode cX3_wheel 91 = .ok (.ireturn, 1) := by decide +kernel
theorem dX3_wheel_92 : decode cX3_wheel 92 = .ok (.aload_n 0, 1) := by decide +kernel
theorem dX3_wheel_93 : decode cX3_wheel 93 = .ok (.getfield 10, 3) := by decide +kernel
theorem dX3_wheel_96 : decode cX3_wheel 96 = .ok (.getfield 130, 3) := by decide +kernel
theorem dX3_wheel_99 : decode cX3_wheel 99 = .ok (.iload_n 1, 1) := by decide +kernel
theorem dX3_wheel_100 : decode cX3_wheel 100 = .ok (.iaload, 1) := by decide +kernel
theorem dX3_wheel_101 : decode cX3_wheel 101 = .ok (.aload_n 0, 1) := by decide +kernel
theorem dX3_wheel_102 : decode cX3_wheel 102 = .ok (.getfield 10, 3) := by decide +kernel
theorem dX3_wheel_105 : decode cX3_wheel 105 = .ok (.getfield 124, 3) := by decide +kernel
theorem dX3_wheel_108 : decode cX3_wheel 108 = .ok (.iload_n 1, 1) := by decide +kernel
theorem dX3_wheel_109 : decode cX3_wheel 109 = .ok (.iaload, 1) := by decide +kernel
theorem dX3_wheel_110 : decode cX3_wheel 110 = .ok (.invokestatic 133, 3) := by decide +kernel
theorem dX3_wheel_113 : decode cX3_wheel 113 = .ok (.ireturn, 1) := by decide +kernel
theorem dX3_wheel_114 : decode cX3_wheel 114 = .ok (.aload_n 0, 1) := by decide +kernel
theorem dX3_wheel_115 : decode cX3_wheel 115 = .ok (.getfield 10, 3) := by decide +kernel
theorem dX3_wheel_118 : decode cX3_wheel 118 = .ok (.iload_n 1, 1) := by decide +kernel
theorem dX3_wheel_119 : decode cX3_wheel 119 = .ok (.invokevirtual 137, 3) := by decide +kernel
theorem dX3_wheel_122 : decode cX3_wheel 122 = .ok (.ireturn, 1) := by decide +kernel
theorem dX3_wheel_123 : decode cX3_wheel 123 = .ok (.iconst (-1), 1) := by decide +kernel
theorem dX3_wheel_124 : decode cX3_wheel 124 = .ok (.ireturn, 1) := by decide +kernel
theorem dX3_act_0 : decode cX3_act 0 = .ok (.aload_n 0, 1) := by decide +kernel
theorem dX3_act_1 : decode cX3_act 1 = .ok (.getfield 10, 3) := by decide +kernel
theorem dX3_act_4 : decode cX3_act 4 = .ok (.iload_n 1, 1) := by decide +kernel
theorem dX3_act_5 : decode cX3_act 5 = .ok (.invokevirtual 140, 3) := by decide +kernel
theorem dX3_act_8 : decode cX3_act 8 = .ok (.ifCond .eq 15, 3) := by decide +kernel
theorem dX3_act_11 : decode cX3_act 11 = .ok (.aload_n 0, 1) := by decide +kernel
theorem dX3_act_12 : decode cX3_act 12 = .ok (.getfield 10, 3) := by decide +kernel
theorem dX3_act_15 : decode cX3_act 15 = .ok (.getfield 143, 3) := by decide +kernel
theorem dX3_act_18 : decode cX3_act 18 = .ok (.iload_n 1, 1) := by decide +kernel
theorem dX3_act_19 : decode cX3_act 19 = .ok (.iaload, 1) := by decide +kernel
theorem dX3_act_20 : decode cX3_act 20 = .ok (.goto 4, 3) := by decide +kernel
theorem dX3_act_23 : decode cX3_act 23 = .ok (.iconst (-1), 1) := by decide +kernel
theorem dX3_act_24 : decode cX3_act 24 = .ok (.ireturn, 1) := by decide +kernel
theorem dX3_alter_0 : decode cX3_alter 0 = .ok (.aload_n 0, 1) := by decide +kernel
theorem dX3_alter_1 : decode cX3_alter 1 = .ok (.getfield 10, 3) := by decide +kernel
theorem dX3_alter_4 : decode cX3_alter 4 = .ok (.iload_n 1, 1) := by decide +kernel
theorem dX3_alter_5 : decode cX3_alter 5 = .ok (.invokevirtual 117, 3) := by decide +kernel
theorem dX3_alter_8 : decode cX3_alter 8 = .ok (.ifCond .ne 5, 3) := by decide +kernel
theorem dX3_alter_11 : decode cX3_alter 11 = .ok (.iconst (-1), 1) := by decide +kernel
theorem dX3_alter_12 : decode cX3_alter 12 = .ok (.ireturn, 1) := by decide +kernel
theorem dX3_alter_13 : decode cX3_alter 13 = .ok (.iload_n 2, 1) := by decide +kernel
theorem dX3_alter_14 : decode cX3_alter 14 = .ok (.tableswitch 138 0 3 #[30, 56, 83, 110], 30) := by decide +kernel
theorem dX3_alter_44 : decode cX3_alter 44 = .ok (.iload_n 3, 1) := by decide +kernel
theorem dX3_alter_45 : decode cX3_alter 45 = .ok (.iconst 0, 1) := by decide +kernel
theorem dX3_alter_46 : decode cX3_alter 46 = .ok (.iconst 3, 1) := by decide +kernel
theorem dX3_alter_47 : decode cX3_alter 47 = .ok (.invokestatic 67, 3) := by decide +kernel
theorem dX3_alter_50 : decode cX3_alter 50 = .ok (.ifCond .eq 18, 3) := by decide +kernel
theorem dX3_alter_53 : decode cX3_alter 53 = .ok (.aload_n 0, 1) := by decide +kernel
theorem dX3_alter_54 : decode cX3_alter 54 = .ok (.getfield 10, 3) := by decide +kernel
theorem dX3_alter_57 : decode cX3_alter 57 = .ok (.getfield 121, 3) := by decide +kernel
theorem dX3_alter_60 : decode cX3_alter 60 = .ok (.iload_n 1, 1) := by decide +kernel
theorem dX3_alter_61 : decode cX3_alter 61 = .ok (.iload_n 3, 1) := by decide +kernel
theorem dX3_alter_62 : decode cX3_alter 62 = .ok (.invokestatic 146, 3) := by decide +kernel
theorem dX3_alter_65 : decode cX3_alter 65 = .ok (.goto 4, 3) := by decide +kernel
theorem dX3_alter_68 : decode cX3_alter 68 = .ok (.iconst (-1), 1) := by decide +kernel
theorem dX3_alter_69 : decode cX3_alter 69 = .ok (.ireturn, 1) := by decide +kernel
theorem dX3_alter_70 : decode cX3_alter 70 = .ok (.iload_n 3, 1) := by decide +kernel
theorem dX3_alter_71 : decode cX3_alter 71 = .ok (.iconst 1, 1) := by decide +kernel
theorem dX3_alter_72 : decode cX3_alter 72 = .ok (.bipush 20, 2) := by decide +kernel
theorem dX3_alter_74 : decode cX3_alter 74 = .ok (.invokestatic 67, 3) := by decide +kernel
theorem dX3_alter_77 : decode cX3_alter 77 = .ok (.ifCond .eq 18, 3) := by decide +kernel
theorem dX3_alter_80 : decode cX3_alter 80 = .ok (.aload_n 0, 1) := by decide +kernel
theorem dX3_alter_81 : decode cX3_alter 81 = .ok (.getfield 10, 3) := by decide +kernel
theorem dX3_alter_84 : decode cX3_alter 84 = .ok (.getfield 124, 3) := by decide +kernel
theorem dX3_alter_87 : decode cX3_alter 87 = .ok (.iload_n 1, 1) := by decide +kernel
theorem dX3_alter_88 : decode cX3_alter 88 = .ok (.iload_n 3, 1) := by decide +kernel
theorem dX3_alter_89 : decode cX3_alter 89 = .ok (.invokestatic 146, 3) := by decide +kernel
theorem dX3_alter_92 : decode cX3_alter 92 = .ok (.goto 4, 3) := by decide +kernel
theorem dX3_alter_95 : decode cX3_alter 95 = .ok (.iconst (-1), 1) := by decide +kernel
theorem dX3_alter_96 : decode cX3_alter 96 = .ok (.ireturn, 1) := by decide +kernel
theorem dX3_alter_97 : decode cX3_alter 97 = .ok (.iload_n 3, 1) := by decide +kernel
theorem dX3_alter_98 : decode cX3_alter 98 = .ok (.iconst 0, 1) := by decide +kernel
theorem dX3_alter_99 : decode cX3_alter 99 = .ok (.bipush 9, 2) := by decide +kernel
theorem dX3_alter_101 : decode cX3_alter 101 = .ok (.invokestatic 67, 3) := by decide +kernel
theorem dX3_alter_104 : decode cX3_alter 104 = .ok (.ifCond .eq 18, 3) := by decide +kernel
theorem dX3_alter_107 : decode cX3_alter 107 = .ok (.aload_n 0, 1) := by decide +kernel
theorem dX3_alter_108 : decode cX3_alter 108 = .ok (.getfield 10, 3) := by decide +kernel
theorem dX3_alter_111 : decode cX3_alter 111 = .ok (.getfield 127, 3) := by decide +kernel
theorem dX3_alter_114 : decode cX3_alter 114 = .ok (.iload_n 1, 1) := by decide +kernel
theorem dX3_alter_115 : decode cX3_alter 115 = .ok (.iload_n 3, 1) := by decide +kernel
theorem dX3_alter_116 : decode cX3_alter 116 = .ok (.invokestatic 146, 3) := by decide +kernel
theorem dX3_alter_119 : decode cX3_alter 119 = .ok (.goto 4, 3) := by decide +kernel
theorem dX3_alter_122 : decode cX3_alter 122 = .ok (.iconst (-1), 1) := by decide +kernel
theorem dX3_alter_123 : decode cX3_alter 123 = .ok (.ireturn, 1) := by decide +kernel
theorem dX3_alter_124 : decode cX3_alter 124 = .ok (.iload_n 3, 1) := by decide +kernel
theorem dX3_alter_125 : decode cX3_alter 125 = .ok (.iconst 0, 1) := by decide +kernel
theorem dX3_alter_126 : decode cX3_alter 126 = .ok (.sipush 9999, 3) := by decide +kernel
theorem dX3_alter_129 : decode cX3_alter 129 = .ok (.invokestatic 67, 3) := by decide +kernel
theorem dX3_alter_132 : decode cX3_alter 132 = .ok (.ifCond .eq 18, 3) := by decide +kernel
theorem dX3_alter_135 : decode cX3_alter 135 = .ok (.aload_n 0, 1) := by decide +kernel
theorem dX3_alter_136 : decode cX3_alter 136 = .ok (.getfield 10, 3) := by decide +kernel
theorem dX3_alter_139 : decode cX3_alter 139 = .ok (.getfield 130, 3) := by decide +kernel
theorem dX3_alter_142 : decode cX3_alter 142 = .ok (.iload_n 1, 1) := by decide +kernel
theorem dX3_alter_143 : decode cX3_alter 143 = .ok (.iload_n 3, 1) := by decide +kernel
theorem dX3_alter_144 : decode cX3_alter 144 = .ok (.invokestatic 146, 3) := by decide +kernel
theorem dX3_alter_147 : decode cX3_alter 147 = .ok (.goto 4, 3) := by decide +kernel
theorem dX3_alter_150 : decode cX3_alter 150 = .ok (.iconst (-1), 1) := by decide +kernel
theorem dX3_alter_151 : decode cX3_alter 151 = .ok (.ireturn, 1) := by decide +kernel
theorem dX3_alter_152 : decode cX3_alter 152 = .ok (.iconst (-1), 1) := by decide +kernel
theorem dX3_alter_153 : decode cX3_alter 153 = .ok (.ireturn, 1) := by decide +kernel
theorem dX3_shaft_0 : decode cX3_shaft 0 = .ok (.iload_n 1, 1) := by decide +kernel
theorem dX3_shaft_1 : decode cX3_shaft 1 = .ok (.iconst 1, 1) := by decide +kernel
theorem dX3_shaft_2 : decode cX3_shaft 2 = .ok (.bipush 20, 2) := by decide +kernel
theorem dX3_shaft_4 : decode cX3_shaft 4 = .ok (.invokestatic 67, 3) := by decide +kernel
theorem dX3_shaft_7 : decode cX3_shaft 7 = .ok (.ifCond .ne 5, 3) := by decide +kernel
theorem dX3_shaft_10 : decode cX3_shaft 10 = .ok (.iconst (-1), 1) := by decide +kernel
theorem dX3_shaft_11 : decode cX3_shaft 11 = .ok (.ireturn, 1) := by decide +kernel
theorem dX3_shaft_12 : decode cX3_shaft 12 = .ok (.aload_n 0, 1) := by decide +kernel
theorem dX3_shaft_13 : decode cX3_shaft 13 = .ok (.getfield 10, 3) := by decide +kernel
theorem dX3_shaft_16 : decode cX3_shaft 16 = .ok (.getfield 104, 3) := by decide +kernel
theorem dX3_shaft_19 : decode cX3_shaft 19 = .ok (.istore_n 2, 1) := by decide +kernel
theorem dX3_shaft_20 : decode cX3_shaft 20 = .ok (.aload_n 0, 1) := by decide +kernel
theorem dX3_shaft_21 : decode cX3_shaft 21 = .ok (.getfield 10, 3) := by decide +kernel
theorem dX3_shaft_24 : decode cX3_shaft 24 = .ok (.iload_n 1, 1) := by decide +kernel
theorem dX3_shaft_25 : decode cX3_shaft 25 = .ok (.putfield 104, 3) := by decide +kernel
theorem dX3_shaft_28 : decode cX3_shaft 28 = .ok (.iload_n 2, 1) := by decide +kernel
theorem dX3_shaft_29 : decode cX3_shaft 29 = .ok (.ireturn, 1) := by decide +kernel
theorem dX3_put_0 : decode cX3_put 0 = .ok (.iload_n 1, 1) := by decide +kernel
theorem dX3_put_1 : decode cX3_put 1 = .ok (.iconst 0, 1) := by decide +kernel
theorem dX3_put_2 : decode cX3_put 2 = .ok (.iconst 3, 1) := by decide +kernel
theorem dX3_put_3 : decode cX3_put 3 = .ok (.invokestatic 67, 3) := by decide +kernel
theorem dX3_put_6 : decode cX3_put 6 = .ok (.ifCond .eq 23, 3) := by decide +kernel
theorem dX3_put_9 : decode cX3_put 9 = .ok (.iload_n 2, 1) := by decide +kernel
theorem dX3_put_10 : decode cX3_put 10 = .ok (.iconst 1, 1) := by decide +kernel
theorem dX3_put_11 : decode cX3_put 11 = .ok (.bipush 20, 2) := by decide +kernel
theorem dX3_put_13 : decode cX3_put 13 = .ok (.invokestatic 67, 3) := by decide +kernel
theorem dX3_put_16 : decode cX3_put 16 = .ok (.ifCond .eq 13, 3) := by decide +kernel
theorem dX3_put_19 : decode cX3_put 19 = .ok (.iload_n 3, 1) := by decide +kernel
theorem dX3_put_20 : decode cX3_put 20 = .ok (.iconst 0, 1) := by decide +kernel
theorem dX3_put_21 : decode cX3_put 21 = .ok (.bipush 9, 2) := by decide +kernel
theorem dX3_put_23 : decode cX3_put 23 = .ok (.invokestatic 67, 3) := by decide +kernel
theorem dX3_put_26 : decode cX3_put 26 = .ok (.ifCond .ne 5, 3) := by decide +kernel
theorem dX3_put_29 : decode cX3_put 29 = .ok (.iconst (-1), 1) := by decide +kernel
theorem dX3_put_30 : decode cX3_put 30 = .ok (.ireturn, 1) := by decide +kernel
theorem dX3_put_31 : decode cX3_put 31 = .ok (.aload_n 0, 1) := by decide +kernel
theorem dX3_put_32 : decode cX3_put 32 = .ok (.getfield 10, 3) := by decide +kernel
theorem dX3_put_35 : decode cX3_put 35 = .ok (.iload_n 1, 1) := by decide +kernel
theorem dX3_put_36 : decode cX3_put 36 = .ok (.iload_n 2, 1) := by decide +kernel
theorem dX3_put_37 : decode cX3_put 37 = .ok (.iload_n 3, 1) := by decide +kernel
theorem dX3_put_38 : decode cX3_put 38 = .ok (.invokevirtual 150, 3) := by decide +kernel
theorem dX3_put_41 : decode cX3_put 41 = .ok (.ireturn, 1) := by decide +kernel
theorem dX3_cut_0 : decode cX3_cut 0 = .ok (.iload_n 1, 1) := by decide +kernel
theorem dX3_cut_1 : decode cX3_cut 1 = .ok (.iconst 0, 1) := by decide +kernel
theorem dX3_cut_2 : decode cX3_cut 2 = .ok (.aload_n 0, 1) := by decide +kernel
theorem dX3_cut_3 : decode cX3_cut 3 = .ok (.getfield 10, 3) := by decide +kernel
theorem dX3_cut_6 : decode cX3_cut 6 = .ok (.getfield 89, 3) := by decide +kernel
theorem dX3_cut_9 : decode cX3_cut 9 = .ok (.invokestatic 67, 3) := by decide +kernel
theorem dX3_cut_12 : decode cX3_cut 12 = .ok (.ifCond .ne 5, 3) := by decide +kernel
theorem dX3_cut_15 : decode cX3_cut 15 = .ok (.iconst (-1), 1) := by decide +kernel
theorem dX3_cut_16 : decode cX3_cut 16 = .ok (.ireturn, 1) := by decide +kernel
theorem dX3_cut_17 : decode cX3_cut 17 = .ok (.aload_n 0, 1) := by decide +kernel
theorem dX3_cut_18 : decode cX3_cut 18 = .ok (.getfield 10, 3) := by decide +kernel
theorem dX3_cut_21 : decode cX3_cut 21 = .ok (.getfield 89, 3) := by decide +kernel
theorem dX3_cut_24 : decode cX3_cut 24 = .ok (.istore_n 2, 1) := by decide +kernel
theorem dX3_cut_25 : decode cX3_cut 25 = .ok (.aload_n 0, 1) := by decide +kernel
theorem dX3_cut_26 : decode cX3_cut 26 = .ok (.getfield 10, 3) := by decide +kernel
theorem dX3_cut_29 : decode cX3_cut 29 = .ok (.iload_n 1, 1) := by decide +kernel
theorem dX3_cut_30 : decode cX3_cut 30 = .ok (.putfield 89, 3) := by decide +kernel
theorem dX3_cut_33 : decode cX3_cut 33 = .ok (.iload_n 2, 1) := by decide +kernel
theorem dX3_cut_34 : decode cX3_cut 34 = .ok (.ireturn, 1) := by decide +kernel
theorem dX3_set_0 : decode cX3_set 0 = .ok (.aload_n 0, 1) := by decide +kernel
theorem dX3_set_1 : decode cX3_set 1 = .ok (.getfield 10, 3) := by decide +kernel
theorem dX3_set_4 : decode cX3_set 4 = .ok (.iload_n 1, 1) := by decide +kernel
theorem dX3_set_5 : decode cX3_set 5 = .ok (.invokevirtual 140, 3) := by decide +kernel
theorem dX3_set_8 : decode cX3_set 8 = .ok (.ifCond .eq 14, 3) := by decide +kernel
theorem dX3_set_11 : decode cX3_set 11 = .ok (.iload_n 2, 1) := by decide +kernel
theorem dX3_set_12 : decode cX3_set 12 = .ok (.iconst 0, 1) := by decide +kernel
theorem dX3_set_13 : decode cX3_set 13 = .ok (.sipush 203, 3) := by decide +kernel
theorem dX3_set_16 : decode cX3_set 16 = .ok (.invokestatic 67, 3) := by decide +kernel
theorem dX3_set_19 : decode cX3_set 19 = .ok (.ifCond .ne 5, 3) := by decide +kernel
theorem dX3_set_22 : decode cX3_set 22 = .ok (.iconst (-1), 1) := by decide +kernel
theorem dX3_set_23 : decode cX3_set 23 = .ok (.ireturn, 1) := by decide +kernel
theorem dX3_set_24 : decode cX3_set 24 = .ok (.aload_n 0, 1) := by decide +kernel
theorem dX3_set_25 : decode cX3_set 25 = .ok (.getfield 10, 3) := by decide +kernel
theorem dX3_set_28 : decode cX3_set 28 = .ok (.getfield 143, 3) := by decide +kernel
theorem dX3_set_31 : decode cX3_set 31 = .ok (.iload_n 1, 1) := by decide +kernel
theorem dX3_set_32 : decode cX3_set 32 = .ok (.iload_n 2, 1) := by decide +kernel
theorem dX3_set_33 : decode cX3_set 33 = .ok (.invokestatic 146, 3) := by decide +kernel
theorem dX3_set_36 : decode cX3_set 36 = .ok (.ireturn, 1) := by decide +kernel
theorem dX3_add_0 : decode cX3_add 0 = .ok (.aload_n 0, 1) := by decide +kernel
theorem dX3_add_1 : decode cX3_add 1 = .ok (.iload_n 1, 1) := by decide +kernel
theorem dX3_add_2 : decode cX3_add 2 = .ok (.invokevirtual 154, 3) := by decide +kernel
theorem dX3_add_5 : decode cX3_add 5 = .ok (.ireturn, 1) := by decide +kernel
theorem dX3_drop_0 : decode cX3_drop 0 = .ok (.iload_n 1, 1) := by decide +kernel
theorem dX3_drop_1 : decode cX3_drop 1 = .ok (.iconst 0, 1) := by decide +kernel
theorem dX3_drop_2 : decode cX3_drop 2 = .ok (.aload_n 0, 1) := by decide +kernel
theorem dX3_drop_3 : decode cX3_drop 3 = .ok (.getfield 10, 3) := by decide +kernel
theorem dX3_drop_6 : decode cX3_drop 6 = .ok (.getfield 92, 3) := by decide +kernel
theorem dX3_drop_9 : decode cX3_drop 9 = .ok (.invokestatic 67, 3) := by decide +kernel
theorem dX3_drop_12 : decode cX3_drop 12 = .ok (.ifCond .ne 5, 3) := by decide +kernel
theorem dX3_drop_15 : decode cX3_drop 15 = .ok (.iconst (-1), 1) := by decide +kernel
theorem dX3_drop_16 : decode cX3_drop 16 = .ok (.ireturn, 1) := by decide +kernel
theorem dX3_drop_17 : decode cX3_drop 17 = .ok (.aload_n 0, 1) := by decide +kernel
theorem dX3_drop_18 : decode cX3_drop 18 = .ok (.getfield 10, 3) := by decide +kernel
theorem dX3_drop_21 : decode cX3_drop 21 = .ok (.getfield 92, 3) := by decide +kernel
theorem dX3_drop_24 : decode cX3_drop 24 = .ok (.istore_n 2, 1) := by decide +kernel
theorem dX3_drop_25 : decode cX3_drop 25 = .ok (.aload_n 0, 1) := by decide +kernel
theorem dX3_drop_26 : decode cX3_drop 26 = .ok (.getfield 10, 3) := by decide +kernel
theorem dX3_drop_29 : decode cX3_drop 29 = .ok (.iload_n 1, 1) := by decide +kernel
theorem dX3_drop_30 : decode cX3_drop 30 = .ok (.putfield 92, 3) := by decide +kernel
theorem dX3_drop_33 : decode cX3_drop 33 = .ok (.iload_n 2, 1) := by decide +kernel
theorem dX3_drop_34 : decode cX3_drop 34 = .ok (.ireturn, 1) := by decide +kernel
theorem dX3_turn_0 : decode cX3_turn 0 = .ok (.iload_n 1, 1) := by decide +kernel
theorem dX3_turn_1 : decode cX3_turn 1 = .ok (.iconst 0, 1) := by decide +kernel
theorem dX3_turn_2 : decode cX3_turn 2 = .ok (.sipush 203, 3) := by decide +kernel
theorem dX3_turn_5 : decode cX3_turn 5 = .ok (.invokestatic 67, 3) := by decide +kernel
theorem dX3_turn_8 : decode cX3_turn 8 = .ok (.ifCond .ne 5, 3) := by decide +kernel
theorem dX3_turn_11 : decode cX3_turn 11 = .ok (.iconst (-1), 1) := by decide +kernel
theorem dX3_turn_12 : decode cX3_turn 12 = .ok (.ireturn, 1) := by decide +kernel
theorem dX3_turn_13 : decode cX3_turn 13 = .ok (.iload_n 1, 1) := by decide +kernel
theorem dX3_turn_14 : decode cX3_turn 14 = .ok (.sipush 200, 3) := by decide +kernel
theorem dX3_turn_17 : decode cX3_turn 17 = .ok (.if_icmp .lt 21, 3) := by decide +kernel
theorem dX3_turn_20 : decode cX3_turn 20 = .ok (.aload_n 0, 1) := by decide +kernel
theorem dX3_turn_21 : decode cX3_turn 21 = .ok (.getfield 10, 3) := by decide +kernel
theorem dX3_turn_24 : decode cX3_turn 24 = .ok (.iload_n 1, 1) := by decide +kernel
theorem dX3_turn_25 : decode cX3_turn 25 = .ok (.sipush 200, 3) := by decide +kernel
theorem dX3_turn_28 : decode cX3_turn 28 = .ok (.isub, 1) := by decide +kernel
theorem dX3_turn_29 : decode cX3_turn 29 = .ok (.invokevirtual 117, 3) := by decide +kernel
theorem dX3_turn_32 : decode cX3_turn 32 = .ok (.ifCond .ne 6, 3) := by decide +kernel
theorem dX3_turn_35 : decode cX3_turn 35 = .ok (.bipush (-2), 2) := by decide +kernel
theorem dX3_turn_37 : decode cX3_turn 37 = .ok (.ireturn, 1) := by decide +kernel
theorem dX3_turn_38 : decode cX3_turn 38 = .ok (.aload_n 0, 1) := by decide +kernel
theorem dX3_turn_39 : decode cX3_turn 39 = .ok (.getfield 10, 3) := by decide +kernel
theorem dX3_turn_42 : decode cX3_turn 42 = .ok (.iload_n 1, 1) := by decide +kernel
theorem dX3_turn_43 : decode cX3_turn 43 = .ok (.invokevirtual 157, 3) := by decide +kernel
theorem dX3_turn_46 : decode cX3_turn 46 = .ok (.aload_n 0, 1) := by decide +kernel
theorem dX3_turn_47 : decode cX3_turn 47 = .ok (.getfield 10, 3) := by decide +kernel
theorem dX3_turn_50 : decode cX3_turn 50 = .ok (.getfield 107, 3) := by decide +kernel
theorem dX3_turn_53 : decode cX3_turn 53 = .ok (.ireturn, 1) := by decide +kernel
theorem dX3_ticks_0 : decode cX3_ticks 0 = .ok (.iload_n 1, 1) := by decide +kernel
theorem dX3_ticks_1 : decode cX3_ticks 1 = .ok (.iconst 0, 1) := by decide +kernel
theorem dX3_ticks_2 : decode cX3_ticks 2 = .ok (.bipush 100, 2) := by decide +kernel
theorem dX3_ticks_4 : decode cX3_ticks 4 = .ok (.invokestatic 67, 3) := by decide +kernel
theorem dX3_ticks_7 : decode cX3_ticks 7 = .ok (.ifCond .ne 5, 3) := by decide +kernel
theorem dX3_ticks_10 : decode cX3_ticks 10 = .ok (.iconst (-1), 1) := by decide +kernel
theorem dX3_ticks_11 : decode cX3_ticks 11 = .ok (.ireturn, 1) := by decide +kernel
theorem dX3_ticks_12 : decode cX3_ticks 12 = .ok (.aload_n 0, 1) := by decide +kernel
theorem dX3_ticks_13 : decode cX3_ticks 13 = .ok (.getfield 10, 3) := by decide +kernel
theorem dX3_ticks_16 : decode cX3_ticks 16 = .ok (.getfield 95, 3) := by decide +kernel
theorem dX3_ticks_19 : decode cX3_ticks 19 = .ok (.iload_n 1, 1) := by decide +kernel
theorem dX3_ticks_20 : decode cX3_ticks 20 = .ok (.iadd, 1) := by decide +kernel
theorem dX3_ticks_21 : decode cX3_ticks 21 = .ok (.sipush 10000, 3) := by decide +kernel
theorem dX3_ticks_24 : decode cX3_ticks 24 = .ok (.if_icmp .lt 6, 3) := by decide +kernel
theorem dX3_ticks_27 : decode cX3_ticks 27 = .ok (.bipush (-3), 2) := by decide +kernel
theorem dX3_ticks_29 : decode cX3_ticks 29 = .ok (.ireturn, 1) := by decide +kernel
theorem dX3_ticks_30 : decode cX3_ticks 30 = .ok (.aload_n 0, 1) := by decide +kernel
theorem dX3_ticks_31 : decode cX3_ticks 31 = .ok (.getfield 10, 3) := by decide +kernel
theorem dX3_ticks_34 : decode cX3_ticks 34 = .ok (.getfield 98, 3) := by decide +kernel
theorem dX3_ticks_37 : decode cX3_ticks 37 = .ok (.istore_n 2, 1) := by decide +kernel
theorem dX3_ticks_38 : decode cX3_ticks 38 = .ok (.aload_n 0, 1) := by decide +kernel
theorem dX3_ticks_39 : decode cX3_ticks 39 = .ok (.getfield 10, 3) := by decide +kernel
theorem dX3_ticks_42 : decode cX3_ticks 42 = .ok (.iload_n 1, 1) := by decide +kernel
theorem dX3_ticks_43 : decode cX3_ticks 43 = .ok (.invokevirtual 161, 3) := by decide +kernel
theorem dX3_ticks_46 : decode cX3_ticks 46 = .ok (.aload_n 0, 1) := by decide +kernel
theorem dX3_ticks_47 : decode cX3_ticks 47 = .ok (.getfield 10, 3) := by decide +kernel
theorem dX3_ticks_50 : decode cX3_ticks 50 = .ok (.getfield 98, 3) := by decide +kernel
theorem dX3_ticks_53 : decode cX3_ticks 53 = .ok (.iload_n 2, 1) := by decide +kernel
theorem dX3_ticks_54 : decode cX3_ticks 54 = .ok (.isub, 1) := by decide +kernel
theorem dX3_ticks_55 : decode cX3_ticks 55 = .ok (.ireturn, 1) := by decide +kernel
theorem dX3_runs_0 : decode cX3_runs 0 = .ok (.iload_n 1, 1) := by decide +kernel
theorem dX3_runs_1 : decode cX3_runs 1 = .ok (.iconst 0, 1) := by decide +kernel
theorem dX3_runs_2 : decode cX3_runs 2 = .ok (.sipush 200, 3) := by decide +kernel
theorem dX3_runs_5 : decode cX3_runs 5 = .ok (.invokestatic 67, 3) := by decide +kernel
theorem dX3_runs_8 : decode cX3_runs 8 = .ok (.ifCond .eq 12, 3) := by decide +kernel
theorem dX3_runs_11 : decode cX3_runs 11 = .ok (.iload_n 2, 1) := by decide +kernel
theorem dX3_runs_12 : decode cX3_runs 12 = .ok (.iconst 0, 1) := by decide +kernel
theorem dX3_runs_13 : decode cX3_runs 13 = .ok (.iconst 4, 1) := by decide +kernel
theorem dX3_runs_14 : decode cX3_runs 14 = .ok (.invokestatic 67, 3) := by decide +kernel
theorem dX3_runs_17 : decode cX3_runs 17 = .ok (.ifCond .ne 5, 3) := by decide +kernel
theorem dX3_runs_20 : decode cX3_runs 20 = .ok (.iconst (-1), 1) := by decide +kernel
theorem dX3_runs_21 : decode cX3_runs 21 = .ok (.ireturn, 1) := by decide +kernel
theorem dX3_runs_22 : decode cX3_runs 22 = .ok (.aload_n 0, 1) := by decide +kernel
theorem dX3_runs_23 : decode cX3_runs 23 = .ok (.getfield 16, 3) := by decide +kernel
theorem dX3_runs_26 : decode cX3_runs 26 = .ok (.aload_n 0, 1) := by decide +kernel
theorem dX3_runs_27 : decode cX3_runs 27 = .ok (.getfield 10, 3) := by decide +kernel
theorem dX3_runs_30 : decode cX3_runs 30 = .ok (.invokevirtual 164, 3) := by decide +kernel
theorem dX3_runs_33 : decode cX3_runs 33 = .ok (.aload_n 0, 1) := by decide +kernel
theorem dX3_runs_34 : decode cX3_runs 34 = .ok (.getfield 16, 3) := by decide +kernel
theorem dX3_runs_37 : decode cX3_runs 37 = .ok (.invokevirtual 110, 3) := by decide +kernel
theorem dX3_runs_40 : decode cX3_runs 40 = .ok (.istore_n 3, 1) := by decide +kernel
theorem dX3_runs_41 : decode cX3_runs 41 = .ok (.iconst 0, 1) := by decide +kernel
theorem dX3_runs_42 : decode cX3_runs 42 = .ok (.istore 4, 2) := by decide +kernel
theorem dX3_runs_44 : decode cX3_runs 44 = .ok (.iload 4, 2) := by decide +kernel
theorem dX3_runs_46 : decode cX3_runs 46 = .ok (.iload_n 1, 1) := by decide +kernel
theorem dX3_runs_47 : decode cX3_runs 47 = .ok (.if_icmp .ge 35, 3) := by decide +kernel
theorem dX3_runs_50 : decode cX3_runs 50 = .ok (.aload_n 0, 1) := by decide +kernel
theorem dX3_runs_51 : decode cX3_runs 51 = .ok (.getfield 16, 3) := by decide +kernel
theorem dX3_runs_54 : decode cX3_runs 54 = .ok (.aload_n 0, 1) := by decide +kernel
theorem dX3_runs_55 : decode cX3_runs 55 = .ok (.getfield 16, 3) := by decide +kernel
theorem dX3_runs_58 : decode cX3_runs 58 = .ok (.invokevirtual 114, 3) := by decide +kernel
theorem dX3_runs_61 : decode cX3_runs 61 = .ok (.invokevirtual 167, 3) := by decide +kernel
theorem dX3_runs_64 : decode cX3_runs 64 = .ok (.iload_n 3, 1) := by decide +kernel
theorem dX3_runs_65 : decode cX3_runs 65 = .ok (.aload_n 0, 1) := by decide +kernel
theorem dX3_runs_66 : decode cX3_runs 66 = .ok (.getfield 16, 3) := by decide +kernel
theorem dX3_runs_69 : decode cX3_runs 69 = .ok (.invokevirtual 110, 3) := by decide +kernel
theorem dX3_runs_72 : decode cX3_runs 72 = .ok (.invokestatic 170, 3) := by decide +kernel
theorem dX3_runs_75 : decode cX3_runs 75 = .ok (.istore_n 3, 1) := by decide +kernel
theorem dX3_runs_76 : decode cX3_runs 76 = .ok (.iinc 4 1, 3) := by decide +kernel
theorem dX3_runs_79 : decode cX3_runs 79 = .ok (.goto (-35), 3) := by decide +kernel
theorem dX3_runs_82 : decode cX3_runs 82 = .ok (.iload_n 2, 1) := by decide +kernel
theorem dX3_runs_83 : decode cX3_runs 83 = .ok (.tableswitch 61 0 3 #[29, 37, 45, 53], 29) := by decide +kernel
theorem dX3_runs_112 : decode cX3_runs 112 = .ok (.aload_n 0, 1) := by decide +kernel
theorem dX3_runs_113 : decode cX3_runs 113 = .ok (.getfield 16, 3) := by decide +kernel
theorem dX3_runs_116 : decode cX3_runs 116 = .ok (.getfield 98, 3) := by decide +kernel
theorem dX3_runs_119 : decode cX3_runs 119 = .ok (.ireturn, 1) := by decide +kernel
theorem dX3_runs_120 : decode cX3_runs 120 = .ok (.aload_n 0, 1) := by decide +kernel
theorem dX3_runs_121 : decode cX3_runs 121 = .ok (.getfield 16, 3) := by decide +kernel
theorem dX3_runs_124 : decode cX3_runs 124 = .ok (.getfield 101, 3) := by decide +kernel
theorem dX3_runs_127 : decode cX3_runs 127 = .ok (.ireturn, 1) := by decide +kernel
theorem dX3_runs_128 : decode cX3_runs 128 = .ok (.aload_n 0, 1) := by decide +kernel
theorem dX3_runs_129 : decode cX3_runs 129 = .ok (.getfield 16, 3) := by decide +kernel
theorem dX3_runs_132 : decode cX3_runs 132 = .ok (.getfield 175, 3) := by decide +kernel
theorem dX3_runs_135 : decode cX3_runs 135 = .ok (.ireturn, 1) := by decide +kernel
theorem dX3_runs_136 : decode cX3_runs 136 = .ok (.aload_n 0, 1) := by decide +kernel
theorem dX3_runs_137 : decode cX3_runs 137 = .ok (.getfield 16, 3) := by decide +kernel
theorem dX3_runs_140 : decode cX3_runs 140 = .ok (.invokevirtual 178, 3) := by decide +kernel
theorem dX3_runs_143 : decode cX3_runs 143 = .ok (.ireturn, 1) := by decide +kernel
theorem dX3_runs_144 : decode cX3_runs 144 = .ok (.iload_n 3, 1) := by decide +kernel
theorem dX3_runs_145 : decode cX3_runs 145 = .ok (.ireturn, 1) := by decide +kernel
theorem dX3_ahead_0 : decode cX3_ahead 0 = .ok (.aload_n 0, 1) := by decide +kernel
theorem dX3_ahead_1 : decode cX3_ahead 1 = .ok (.getfield 10, 3) := by decide +kernel
theorem dX3_ahead_4 : decode cX3_ahead 4 = .ok (.iload_n 1, 1) := by decide +kernel
theorem dX3_ahead_5 : decode cX3_ahead 5 = .ok (.invokevirtual 117, 3) := by decide +kernel
theorem dX3_ahead_8 : decode cX3_ahead 8 = .ok (.ifCond .eq 14, 3) := by decide +kernel
theorem dX3_ahead_11 : decode cX3_ahead 11 = .ok (.iload_n 2, 1) := by decide +kernel
theorem dX3_ahead_12 : decode cX3_ahead 12 = .ok (.iconst 0, 1) := by decide +kernel
theorem dX3_ahead_13 : decode cX3_ahead 13 = .ok (.sipush 200, 3) := by decide +kernel
theorem dX3_ahead_16 : decode cX3_ahead 16 = .ok (.invokestatic 67, 3) := by decide +kernel
theorem dX3_ahead_19 : decode cX3_ahead 19 = .ok (.ifCond .ne 5, 3) := by decide +kernel
theorem dX3_ahead_22 : decode cX3_ahead 22 = .ok (.iconst (-1), 1) := by decide +kernel
theorem dX3_ahead_23 : decode cX3_ahead 23 = .ok (.ireturn, 1) := by decide +kernel
theorem dX3_ahead_24 : decode cX3_ahead 24 = .ok (.aload_n 0, 1) := by decide +kernel
theorem dX3_ahead_25 : decode cX3_ahead 25 = .ok (.getfield 16, 3) := by decide +kernel
theorem dX3_ahead_28 : decode cX3_ahead 28 = .ok (.aload_n 0, 1) := by decide +kernel
theorem dX3_ahead_29 : decode cX3_ahead 29 = .ok (.getfield 10, 3) := by decide +kernel
theorem dX3_ahead_32 : decode cX3_ahead 32 = .ok (.invokevirtual 164, 3) := by decide +kernel
theorem dX3_ahead_35 : decode cX3_ahead 35 = .ok (.aload_n 0, 1) := by decide +kernel
theorem dX3_ahead_36 : decode cX3_ahead 36 = .ok (.getfield 16, 3) := by decide +kernel
theorem dX3_ahead_39 : decode cX3_ahead 39 = .ok (.iload_n 2, 1) := by decide +kernel
theorem dX3_ahead_40 : decode cX3_ahead 40 = .ok (.invokevirtual 161, 3) := by decide +kernel
theorem dX3_ahead_43 : decode cX3_ahead 43 = .ok (.aload_n 0, 1) := by decide +kernel
theorem dX3_ahead_44 : decode cX3_ahead 44 = .ok (.getfield 16, 3) := by decide +kernel
theorem dX3_ahead_47 : decode cX3_ahead 47 = .ok (.getfield 130, 3) := by decide +kernel
theorem dX3_ahead_50 : decode cX3_ahead 50 = .ok (.iload_n 1, 1) := by decide +kernel
theorem dX3_ahead_51 : decode cX3_ahead 51 = .ok (.iaload, 1) := by decide +kernel
theorem dX3_ahead_52 : decode cX3_ahead 52 = .ok (.ireturn, 1) := by decide +kernel
theorem dX3_when_0 : decode cX3_when 0 = .ok (.aload_n 0, 1) := by decide +kernel
theorem dX3_when_1 : decode cX3_when 1 = .ok (.getfield 10, 3) := by decide +kernel
theorem dX3_when_4 : decode cX3_when 4 = .ok (.iload_n 1, 1) := by decide +kernel
theorem dX3_when_5 : decode cX3_when 5 = .ok (.invokevirtual 117, 3) := by decide +kernel
theorem dX3_when_8 : decode cX3_when 8 = .ok (.ifCond .ne 5, 3) := by decide +kernel
theorem dX3_when_11 : decode cX3_when 11 = .ok (.iconst (-1), 1) := by decide +kernel
theorem dX3_when_12 : decode cX3_when 12 = .ok (.ireturn, 1) := by decide +kernel
theorem dX3_when_13 : decode cX3_when 13 = .ok (.aload_n 0, 1) := by decide +kernel
theorem dX3_when_14 : decode cX3_when 14 = .ok (.getfield 16, 3) := by decide +kernel
theorem dX3_when_17 : decode cX3_when 17 = .ok (.aload_n 0, 1) := by decide +kernel
theorem dX3_when_18 : decode cX3_when 18 = .ok (.getfield 10, 3) := by decide +kernel
theorem dX3_when_21 : decode cX3_when 21 = .ok (.invokevirtual 164, 3) := by decide +kernel
theorem dX3_when_24 : decode cX3_when 24 = .ok (.iconst 0, 1) := by decide +kernel
theorem dX3_when_25 : decode cX3_when 25 = .ok (.istore_n 2, 1) := by decide +kernel
theorem dX3_when_26 : decode cX3_when 26 = .ok (.iload_n 2, 1) := by decide +kernel
theorem dX3_when_27 : decode cX3_when 27 = .ok (.sipush 200, 3) := by decide +kernel
theorem dX3_when_30 : decode cX3_when 30 = .ok (.if_icmp .gt 37, 3) := by decide +kernel
theorem dX3_when_33 : decode cX3_when 33 = .ok (.aload_n 0, 1) := by decide +kernel
theorem dX3_when_34 : decode cX3_when 34 = .ok (.getfield 16, 3) := by decide +kernel
theorem dX3_when_37 : decode cX3_when 37 = .ok (.getfield 130, 3) := by decide +kernel
theorem dX3_when_40 : decode cX3_when 40 = .ok (.iload_n 1, 1) := by decide +kernel
theorem dX3_when_41 : decode cX3_when 41 = .ok (.iaload, 1) := by decide +kernel
theorem dX3_when_42 : decode cX3_when 42 = .ok (.ifCond .ne 5, 3) := by decide +kernel
theorem dX3_when_45 : decode cX3_when 45 = .ok (.iload_n 2, 1) := by decide +kernel
theorem dX3_when_46 : decode cX3_when 46 = .ok (.ireturn, 1) := by decide +kernel
theorem dX3_when_47 : decode cX3_when 47 = .ok (.aload_n 0, 1) := by decide +kernel
theorem dX3_when_48 : decode cX3_when 48 = .ok (.getfield 16, 3) := by decide +kernel
theorem dX3_when_51 : decode cX3_when 51 = .ok (.aload_n 0, 1) := by decide +kernel
theorem dX3_when_52 : decode cX3_when 52 = .ok (.getfield 16, 3) := by decide +kernel
theorem dX3_when_55 : decode cX3_when 55 = .ok (.invokevirtual 114, 3) := by decide +kernel
theorem dX3_when_58 : decode cX3_when 58 = .ok (.invokevirtual 167, 3) := by decide +kernel
theorem dX3_when_61 : decode cX3_when 61 = .ok (.iinc 2 1, 3) := by decide +kernel
theorem dX3_when_64 : decode cX3_when 64 = .ok (.goto (-38), 3) := by decide +kernel
theorem dX3_when_67 : decode cX3_when 67 = .ok (.bipush (-4), 2) := by decide +kernel
theorem dX3_when_69 : decode cX3_when 69 = .ok (.ireturn, 1) := by decide +kernel
theorem dX3_again_0 : decode cX3_again 0 = .ok (.aload_n 0, 1) := by decide +kernel
theorem dX3_again_1 : decode cX3_again 1 = .ok (.getfield 16, 3) := by decide +kernel
theorem dX3_again_4 : decode cX3_again 4 = .ok (.aload_n 0, 1) := by decide +kernel
theorem dX3_again_5 : decode cX3_again 5 = .ok (.getfield 10, 3) := by decide +kernel
theorem dX3_again_8 : decode cX3_again 8 = .ok (.invokevirtual 164, 3) := by decide +kernel
theorem dX3_again_11 : decode cX3_again 11 = .ok (.iconst 1, 1) := by decide +kernel
theorem dX3_again_12 : decode cX3_again 12 = .ok (.istore_n 1, 1) := by decide +kernel
theorem dX3_again_13 : decode cX3_again 13 = .ok (.iload_n 1, 1) := by decide +kernel
theorem dX3_again_14 : decode cX3_again 14 = .ok (.sipush 200, 3) := by decide +kernel
theorem dX3_again_17 : decode cX3_again 17 = .ok (.if_icmp .gt 56, 3) := by decide +kernel
theorem dX3_again_20 : decode cX3_again 20 = .ok (.aload_n 0, 1) := by decide +kernel
theorem dX3_again_21 : decode cX3_again 21 = .ok (.getfield 16, 3) := by decide +kernel
theorem dX3_again_24 : decode cX3_again 24 = .ok (.aload_n 0, 1) := by decide +kernel
theorem dX3_again_25 : decode cX3_again 25 = .ok (.getfield 16, 3) := by decide +kernel
theorem dX3_again_28 : decode cX3_again 28 = .ok (.invokevirtual 114, 3) := by decide +kernel
theorem dX3_again_31 : decode cX3_again 31 = .ok (.invokevirtual 167, 3) := by decide +kernel
theorem dX3_again_34 : decode cX3_again 34 = .ok (.aload_n 0, 1) := by decide +kernel
theorem dX3_again_35 : decode cX3_again 35 = .ok (.getfield 16, 3) := by decide +kernel
theorem dX3_again_38 : decode cX3_again 38 = .ok (.invokevirtual 181, 3) := by decide +kernel
theorem dX3_again_41 : decode cX3_again 41 = .ok (.aload_n 0, 1) := by decide +kernel
theorem dX3_again_42 : decode cX3_again 42 = .ok (.getfield 10, 3) := by decide +kernel
theorem dX3_again_45 : decode cX3_again 45 = .ok (.invokevirtual 181, 3) := by decide +kernel
theorem dX3_again_48 : decode cX3_again 48 = .ok (.if_icmp .ne 19, 3) := by decide +kernel
theorem dX3_again_51 : decode cX3_again 51 = .ok (.aload_n 0, 1) := by decide +kernel
theorem dX3_again_52 : decode cX3_again 52 = .ok (.getfield 16, 3) := by decide +kernel
theorem dX3_again_55 : decode cX3_again 55 = .ok (.aload_n 0, 1) := by decide +kernel
theorem dX3_again_56 : decode cX3_again 56 = .ok (.getfield 10, 3) := by decide +kernel
theorem dX3_again_59 : decode cX3_again 59 = .ok (.invokevirtual 184, 3) := by decide +kernel
theorem dX3_again_62 : decode cX3_again 62 = .ok (.ifCond .eq 5, 3) := by decide +kernel
theorem dX3_again_65 : decode cX3_again 65 = .ok (.iload_n 1, 1) := by decide +kernel
theorem dX3_again_66 : decode cX3_again 66 = .ok (.ireturn, 1) := by decide +kernel
theorem dX3_again_67 : decode cX3_again 67 = .ok (.iinc 1 1, 3) := by decide +kernel
theorem dX3_again_70 : decode cX3_again 70 = .ok (.goto (-57), 3) := by decide +kernel
theorem dX3_again_73 : decode cX3_again 73 = .ok (.bipush (-4), 2) := by decide +kernel
theorem dX3_again_75 : decode cX3_again 75 = .ok (.ireturn, 1) := by decide +kernel
theorem dX3_mass_0 : decode cX3_mass 0 = .ok (.aload_n 0, 1) := by decide +kernel
theorem dX3_mass_1 : decode cX3_mass 1 = .ok (.getfield 10, 3) := by decide +kernel
theorem dX3_mass_4 : decode cX3_mass 4 = .ok (.iload_n 1, 1) := by decide +kernel
theorem dX3_mass_5 : decode cX3_mass 5 = .ok (.invokevirtual 117, 3) := by decide +kernel
theorem dX3_mass_8 : decode cX3_mass 8 = .ok (.ifCond .eq 11, 3) := by decide +kernel
theorem dX3_mass_11 : decode cX3_mass 11 = .ok (.iload_n 2, 1) := by decide +kernel
theorem dX3_mass_12 : decode cX3_mass 12 = .ok (.iload_n 3, 1) := by decide +kernel
theorem dX3_mass_13 : decode cX3_mass 13 = .ok (.invokestatic 188, 3) := by decide +kernel
theorem dX3_mass_16 : decode cX3_mass 16 = .ok (.ifCond .ne 5, 3) := by decide +kernel
theorem dX3_mass_19 : decode cX3_mass 19 = .ok (.iconst (-1), 1) := by decide +kernel
theorem dX3_mass_20 : decode cX3_mass 20 = .ok (.ireturn, 1) := by decide +kernel
theorem dX3_mass_21 : decode cX3_mass 21 = .ok (.iconst 0, 1) := by decide +kernel
theorem dX3_mass_22 : decode cX3_mass 22 = .ok (.istore 4, 2) := by decide +kernel
theorem dX3_mass_24 : decode cX3_mass 24 = .ok (.iconst (-1), 1) := by decide +kernel
theorem dX3_mass_25 : decode cX3_mass 25 = .ok (.istore 5, 2) := by decide +kernel
theorem dX3_mass_27 : decode cX3_mass 27 = .ok (.iconst 1, 1) := by decide +kernel
theorem dX3_mass_28 : decode cX3_mass 28 = .ok (.istore 6, 2) := by decide +kernel
theorem dX3_mass_30 : decode cX3_mass 30 = .ok (.iload 6, 2) := by decide +kernel
theorem dX3_mass_32 : decode cX3_mass 32 = .ok (.bipush 20, 2) := by decide +kernel
theorem dX3_mass_34 : decode cX3_mass 34 = .ok (.if_icmp .gt 64, 3) := by decide +kernel
theorem dX3_mass_37 : decode cX3_mass 37 = .ok (.aload_n 0, 1) := by decide +kernel
theorem dX3_mass_38 : decode cX3_mass 38 = .ok (.getfield 16, 3) := by decide +kernel
theorem dX3_mass_41 : decode cX3_mass 41 = .ok (.aload_n 0, 1) := by decide +kernel
theorem dX3_mass_42 : decode cX3_mass 42 = .ok (.getfield 10, 3) := by decide +kernel
theorem dX3_mass_45 : decode cX3_mass 45 = .ok (.invokevirtual 164, 3) := by decide +kernel
theorem dX3_mass_48 : decode cX3_mass 48 = .ok (.aload_n 0, 1) := by decide +kernel
theorem dX3_mass_49 : decode cX3_mass 49 = .ok (.getfield 16, 3) := by decide +kernel
theorem dX3_mass_52 : decode cX3_mass 52 = .ok (.getfield 124, 3) := by decide +kernel
theorem dX3_mass_55 : decode cX3_mass 55 = .ok (.iload_n 1, 1) := by decide +kernel
theorem dX3_mass_56 : decode cX3_mass 56 = .ok (.iload 6, 2) := by decide +kernel
theorem dX3_mass_58 : decode cX3_mass 58 = .ok (.iastore, 1) := by decide +kernel
theorem dX3_mass_59 : decode cX3_mass 59 = .ok (.aload_n 0, 1) := by decide +kernel
theorem dX3_mass_60 : decode cX3_mass 60 = .ok (.getfield 16, 3) := by decide +kernel
theorem dX3_mass_63 : decode cX3_mass 63 = .ok (.iload_n 2, 1) := by decide +kernel
theorem dX3_mass_64 : decode cX3_mass 64 = .ok (.invokevirtual 161, 3) := by decide +kernel
theorem dX3_mass_67 : decode cX3_mass 67 = .ok (.aload_n 0, 1) := by decide +kernel
theorem dX3_mass_68 : decode cX3_mass 68 = .ok (.getfield 16, 3) := by decide +kernel
theorem dX3_mass_71 : decode cX3_mass 71 = .ok (.getfield 98, 3) := by decide +kernel
theorem dX3_mass_74 : decode cX3_mass 74 = .ok (.iload 5, 2) := by decide +kernel
theorem dX3_mass_76 : decode cX3_mass 76 = .ok (.if_icmp .le 16, 3) := by decide +kernel
theorem dX3_mass_79 : decode cX3_mass 79 = .ok (.aload_n 0, 1) := by decide +kernel
theorem dX3_mass_80 : decode cX3_mass 80 = .ok (.getfield 16, 3) := by decide +kernel
theorem dX3_mass_83 : decode cX3_mass 83 = .ok (.getfield 98, 3) := by decide +kernel
theorem dX3_mass_86 : decode cX3_mass 86 = .ok (.istore 5, 2) := by decide +kernel
theorem dX3_mass_88 : decode cX3_mass 88 = .ok (.iload 6, 2) := by decide +kernel
theorem dX3_mass_90 : decode cX3_mass 90 = .ok (.istore 4, 2) := by decide +kernel
theorem dX3_mass_92 : decode cX3_mass 92 = .ok (.iinc 6 1, 3) := by decide +kernel
theorem dX3_mass_95 : decode cX3_mass 95 = .ok (.goto (-65), 3) := by decide +kernel
theorem dX3_mass_98 : decode cX3_mass 98 = .ok (.iload_n 3, 1) := by decide +kernel
theorem dX3_mass_99 : decode cX3_mass 99 = .ok (.ifCond .ne 8, 3) := by decide +kernel
theorem dX3_mass_102 : decode cX3_mass 102 = .ok (.iload 4, 2) := by decide +kernel
theorem dX3_mass_104 : decode cX3_mass 104 = .ok (.goto 5, 3) := by decide +kernel
theorem dX3_mass_107 : decode cX3_mass 107 = .ok (.iload 5, 2) := by decide +kernel
theorem dX3_mass_109 : decode cX3_mass 109 = .ok (.ireturn, 1) := by decide +kernel
theorem dX3_kind_0 : decode cX3_kind 0 = .ok (.aload_n 0, 1) := by decide +kernel
theorem dX3_kind_1 : decode cX3_kind 1 = .ok (.getfield 10, 3) := by decide +kernel
theorem dX3_kind_4 : decode cX3_kind 4 = .ok (.iload_n 1, 1) := by decide +kernel
theorem dX3_kind_5 : decode cX3_kind 5 = .ok (.invokevirtual 117, 3) := by decide +kernel
theorem dX3_kind_8 : decode cX3_kind 8 = .ok (.ifCond .eq 11, 3) := by decide +kernel
theorem dX3_kind_11 : decode cX3_kind 11 = .ok (.iload_n 2, 1) := by decide +kernel
theorem dX3_kind_12 : decode cX3_kind 12 = .ok (.iload_n 3, 1) := by decide +kernel
theorem dX3_kind_13 : decode cX3_kind 13 = .ok (.invokestatic 188, 3) := by decide +kernel
theorem dX3_kind_16 : decode cX3_kind 16 = .ok (.ifCond .ne 5, 3) := by decide +kernel
theorem dX3_kind_19 : decode cX3_kind 19 = .ok (.iconst (-1), 1) := by decide +kernel
theorem dX3_kind_20 : decode cX3_kind 20 = .ok (.ireturn, 1) := by decide +kernel
theorem dX3_kind_21 : decode cX3_kind 21 = .ok (.iconst 0, 1) := by decide +kernel
theorem dX3_kind_22 : decode cX3_kind 22 = .ok (.istore 4, 2) := by decide +kernel
theorem dX3_kind_24 : decode cX3_kind 24 = .ok (.iconst (-1), 1) := by decide +kernel
theorem dX3_kind_25 : decode cX3_kind 25 = .ok (.istore 5, 2) := by decide +kernel
theorem dX3_kind_27 : decode cX3_kind 27 = .ok (.iconst 0, 1) := by decide +kernel
theorem dX3_kind_28 : decode cX3_kind 28 = .ok (.istore 6, 2) := by decide +kernel
theorem dX3_kind_30 : decode cX3_kind 30 = .ok (.iload 6, 2) := by decide +kernel
theorem dX3_kind_32 : decode cX3_kind 32 = .ok (.iconst 3, 1) := by decide +kernel
theorem dX3_kind_33 : decode cX3_kind 33 = .ok (.if_icmp .gt 64, 3) := by decide +kernel
theorem dX3_kind_36 : decode cX3_kind 36 = .ok (.aload_n 0, 1) := by decide +kernel
theorem dX3_kind_37 : decode cX3_kind 37 = .ok (.getfield 16, 3) := by decide +kernel
theorem dX3_kind_40 : decode cX3_kind 40 = .ok (.aload_n 0, 1) := by decide +kernel
theorem dX3_kind_41 : decode cX3_kind 41 = .ok (.getfield 10, 3) := by decide +kernel
theorem dX3_kind_44 : decode cX3_kind 44 = .ok (.invokevirtual 164, 3) := by decide +kernel
theorem dX3_kind_47 : decode cX3_kind 47 = .ok (.aload_n 0, 1) := by decide +kernel
theorem dX3_kind_48 : decode cX3_kind 48 = .ok (.getfield 16, 3) := by decide +kernel
theorem dX3_kind_51 : decode cX3_kind 51 = .ok (.getfield 121, 3) := by decide +kernel
theorem dX3_kind_54 : decode cX3_kind 54 = .ok (.iload_n 1, 1) := by decide +kernel
theorem dX3_kind_55 : decode cX3_kind 55 = .ok (.iload 6, 2) := by decide +kernel
theorem dX3_kind_57 : decode cX3_kind 57 = .ok (.iastore, 1) := by decide +kernel
theorem dX3_kind_58 : decode cX3_kind 58 = .ok (.aload_n 0, 1) := by decide +kernel
theorem dX3_kind_59 : decode cX3_kind 59 = .ok (.getfield 16, 3) := by decide +kernel
theorem dX3_kind_62 : decode cX3_kind 62 = .ok (.iload_n 2, 1) := by decide +kernel
theorem dX3_kind_63 : decode cX3_kind 63 = .ok (.invokevirtual 161, 3) := by decide +kernel
theorem dX3_kind_66 : decode cX3_kind 66 = .ok (.aload_n 0, 1) := by decide +kernel
theorem dX3_kind_67 : decode cX3_kind 67 = .ok (.getfield 16, 3) := by decide +kernel
theorem dX3_kind_70 : decode cX3_kind 70 = .ok (.getfield 98, 3) := by decide +kernel
theorem dX3_kind_73 : decode cX3_kind 73 = .ok (.iload 5, 2) := by decide +kernel
theorem dX3_kind_75 : decode cX3_kind 75 = .ok (.if_icmp .le 16, 3) := by decide +kernel
theorem dX3_kind_78 : decode cX3_kind 78 = .ok (.aload_n 0, 1) := by decide +kernel
theorem dX3_kind_79 : decode cX3_kind 79 = .ok (.getfield 16, 3) := by decide +kernel
theorem dX3_kind_82 : decode cX3_kind 82 = .ok (.getfield 98, 3) := by decide +kernel
theorem dX3_kind_85 : decode cX3_kind 85 = .ok (.istore 5, 2) := by decide +kernel
theorem dX3_kind_87 : decode cX3_kind 87 = .ok (.iload 6, 2) := by decide +kernel
theorem dX3_kind_89 : decode cX3_kind 89 = .ok (.istore 4, 2) := by decide +kernel
theorem dX3_kind_91 : decode cX3_kind 91 = .ok (.iinc 6 1, 3) := by decide +kernel
theorem dX3_kind_94 : decode cX3_kind 94 = .ok (.goto (-64), 3) := by decide +kernel
theorem dX3_kind_97 : decode cX3_kind 97 = .ok (.iload_n 3, 1) := by decide +kernel
theorem dX3_kind_98 : decode cX3_kind 98 = .ok (.ifCond .ne 8, 3) := by decide +kernel
theorem dX3_kind_101 : decode cX3_kind 101 = .ok (.iload 4, 2) := by decide +kernel
theorem dX3_kind_103 : decode cX3_kind 103 = .ok (.goto 5, 3) := by decide +kernel
theorem dX3_kind_106 : decode cX3_kind 106 = .ok (.iload 5, 2) := by decide +kernel
theorem dX3_kind_108 : decode cX3_kind 108 = .ok (.ireturn, 1) := by decide +kernel
theorem dX3_bears_0 : decode cX3_bears 0 = .ok (.aload_n 0, 1) := by decide +kernel
theorem dX3_bears_1 : decode cX3_bears 1 = .ok (.getfield 10, 3) := by decide +kernel
theorem dX3_bears_4 : decode cX3_bears 4 = .ok (.iload_n 1, 1) := by decide +kernel
theorem dX3_bears_5 : decode cX3_bears 5 = .ok (.invokevirtual 117, 3) := by decide +kernel
theorem dX3_bears_8 : decode cX3_bears 8 = .ok (.ifCond .eq 14, 3) := by decide +kernel
theorem dX3_bears_11 : decode cX3_bears 11 = .ok (.iload_n 2, 1) := by decide +kernel
theorem dX3_bears_12 : decode cX3_bears 12 = .ok (.iconst 0, 1) := by decide +kernel
theorem dX3_bears_13 : decode cX3_bears 13 = .ok (.sipush 200, 3) := by decide +kernel
theorem dX3_bears_16 : decode cX3_bears 16 = .ok (.invokestatic 67, 3) := by decide +kernel
theorem dX3_bears_19 : decode cX3_bears 19 = .ok (.ifCond .ne 5, 3) := by decide +kernel
theorem dX3_bears_22 : decode cX3_bears 22 = .ok (.iconst (-1), 1) := by decide +kernel
theorem dX3_bears_23 : decode cX3_bears 23 = .ok (.ireturn, 1) := by decide +kernel
theorem dX3_bears_24 : decode cX3_bears 24 = .ok (.bipush 9, 2) := by decide +kernel
theorem dX3_bears_26 : decode cX3_bears 26 = .ok (.istore_n 3, 1) := by decide +kernel
theorem dX3_bears_27 : decode cX3_bears 27 = .ok (.iload_n 3, 1) := by decide +kernel
theorem dX3_bears_28 : decode cX3_bears 28 = .ok (.ifCond .lt 50, 3) := by decide +kernel
theorem dX3_bears_31 : decode cX3_bears 31 = .ok (.aload_n 0, 1) := by decide +kernel
theorem dX3_bears_32 : decode cX3_bears 32 = .ok (.getfield 16, 3) := by decide +kernel
theorem dX3_bears_35 : decode cX3_bears 35 = .ok (.aload_n 0, 1) := by decide +kernel
theorem dX3_bears_36 : decode cX3_bears 36 = .ok (.getfield 10, 3) := by decide +kernel
theorem dX3_bears_39 : decode cX3_bears 39 = .ok (.invokevirtual 164, 3) := by decide +kernel
theorem dX3_bears_42 : decode cX3_bears 42 = .ok (.aload_n 0, 1) := by decide +kernel
theorem dX3_bears_43 : decode cX3_bears 43 = .ok (.getfield 16, 3) := by decide +kernel
theorem dX3_bears_46 : decode cX3_bears 46 = .ok (.getfield 127, 3) := by decide +kernel
theorem dX3_bears_49 : decode cX3_bears 49 = .ok (.iload_n 1, 1) := by decide +kernel
theorem dX3_bears_50 : decode cX3_bears 50 = .ok (.iload_n 3, 1) := by decide +kernel
theorem dX3_bears_51 : decode cX3_bears 51 = .ok (.iastore, 1) := by decide +kernel
theorem dX3_bears_52 : decode cX3_bears 52 = .ok (.aload_n 0, 1) := by decide +kernel
theorem dX3_bears_53 : decode cX3_bears 53 = .ok (.getfield 16, 3) := by decide +kernel
theorem dX3_bears_56 : decode cX3_bears 56 = .ok (.iload_n 2, 1) := by decide +kernel
theorem dX3_bears_57 : decode cX3_bears 57 = .ok (.invokevirtual 161, 3) := by decide +kernel
theorem dX3_bears_60 : decode cX3_bears 60 = .ok (.aload_n 0, 1) := by decide +kernel
theorem dX3_bears_61 : decode cX3_bears 61 = .ok (.getfield 16, 3) := by decide +kernel
theorem dX3_bears_64 : decode cX3_bears 64 = .ok (.getfield 101, 3) := by decide +kernel
theorem dX3_bears_67 : decode cX3_bears 67 = .ok (.ifCond .ne 5, 3) := by decide +kernel
theorem dX3_bears_70 : decode cX3_bears 70 = .ok (.iload_n 3, 1) := by decide +kernel
theorem dX3_bears_71 : decode cX3_bears 71 = .ok (.ireturn, 1) := by decide +kernel
theorem dX3_bears_72 : decode cX3_bears 72 = .ok (.iinc 3 (-1), 3) := by decide +kernel
theorem dX3_bears_75 : decode cX3_bears 75 = .ok (.goto (-48), 3) := by decide +kernel
theorem dX3_bears_78 : decode cX3_bears 78 = .ok (.bipush (-4), 2) := by decide +kernel
theorem dX3_bears_80 : decode cX3_bears 80 = .ok (.ireturn, 1) := by decide +kernel
theorem dX3_swap_0 : decode cX3_swap 0 = .ok (.iload_n 1, 1) := by decide +kernel
theorem dX3_swap_1 : decode cX3_swap 1 = .ok (.iload_n 2, 1) := by decide +kernel
theorem dX3_swap_2 : decode cX3_swap 2 = .ok (.invokestatic 188, 3) := by decide +kernel
theorem dX3_swap_5 : decode cX3_swap 5 = .ok (.ifCond .ne 5, 3) := by decide +kernel
theorem dX3_swap_8 : decode cX3_swap 8 = .ok (.iconst (-1), 1) := by decide +kernel
theorem dX3_swap_9 : decode cX3_swap 9 = .ok (.ireturn, 1) := by decide +kernel
theorem dX3_swap_10 : decode cX3_swap 10 = .ok (.bipush (-4), 2) := by decide +kernel
theorem dX3_swap_12 : decode cX3_swap 12 = .ok (.istore_n 3, 1) := by decide +kernel
theorem dX3_swap_13 : decode cX3_swap 13 = .ok (.aload_n 0, 1) := by decide +kernel
theorem dX3_swap_14 : decode cX3_swap 14 = .ok (.iload_n 1, 1) := by decide +kernel
theorem dX3_swap_15 : decode cX3_swap 15 = .ok (.invokevirtual 192, 3) := by decide +kernel
theorem dX3_swap_18 : decode cX3_swap 18 = .ok (.istore 4, 2) := by decide +kernel
theorem dX3_swap_20 : decode cX3_swap 20 = .ok (.iconst 0, 1) := by decide +kernel
theorem dX3_swap_21 : decode cX3_swap 21 = .ok (.istore 5, 2) := by decide +kernel
theorem dX3_swap_23 : decode cX3_swap 23 = .ok (.iload 5, 2) := by decide +kernel
theorem dX3_swap_25 : decode cX3_swap 25 = .ok (.aload_n 0, 1) := by decide +kernel
theorem dX3_swap_26 : decode cX3_swap 26 = .ok (.getfield 10, 3) := by decide +kernel
theorem dX3_swap_29 : decode cX3_swap 29 = .ok (.getfield 92, 3) := by decide +kernel
theorem dX3_swap_32 : decode cX3_swap 32 = .ok (.if_icmp .ge 87, 3) := by decide +kernel
theorem dX3_swap_35 : decode cX3_swap 35 = .ok (.iload 5, 2) := by decide +kernel
theorem dX3_swap_37 : decode cX3_swap 37 = .ok (.iconst 1, 1) := by decide +kernel
theorem dX3_swap_38 : decode cX3_swap 38 = .ok (.iadd, 1) := by decide +kernel
theorem dX3_swap_39 : decode cX3_swap 39 = .ok (.istore 6, 2) := by decide +kernel
theorem dX3_swap_41 : decode cX3_swap 41 = .ok (.iload 6, 2) := by decide +kernel
theorem dX3_swap_43 : decode cX3_swap 43 = .ok (.aload_n 0, 1) := by decide +kernel
theorem dX3_swap_44 : decode cX3_swap 44 = .ok (.getfield 10, 3) := by decide +kernel
theorem dX3_swap_47 : decode cX3_swap 47 = .ok (.getfield 92, 3) := by decide +kernel
theorem dX3_swap_50 : decode cX3_swap 50 = .ok (.if_icmp .ge 63, 3) := by decide +kernel
theorem dX3_swap_53 : decode cX3_swap 53 = .ok (.aload_n 0, 1) := by decide +kernel
theorem dX3_swap_54 : decode cX3_swap 54 = .ok (.getfield 10, 3) := by decide +kernel
theorem dX3_swap_57 : decode cX3_swap 57 = .ok (.getfield 143, 3) := by decide +kernel
theorem dX3_swap_60 : decode cX3_swap 60 = .ok (.iload 5, 2) := by decide +kernel
theorem dX3_swap_62 : decode cX3_swap 62 = .ok (.iaload, 1) := by decide +kernel
theorem dX3_swap_63 : decode cX3_swap 63 = .ok (.aload_n 0, 1) := by decide +kernel
theorem dX3_swap_64 : decode cX3_swap 64 = .ok (.getfield 10, 3) := by decide +kernel
theorem dX3_swap_67 : decode cX3_swap 67 = .ok (.getfield 143, 3) := by decide +kernel
theorem dX3_swap_70 : decode cX3_swap 70 = .ok (.iload 6, 2) := by decide +kernel
theorem dX3_swap_72 : decode cX3_swap 72 = .ok (.iaload, 1) := by decide +kernel
theorem dX3_swap_73 : decode cX3_swap 73 = .ok (.if_icmp .eq 34, 3) := by decide +kernel
theorem dX3_swap_76 : decode cX3_swap 76 = .ok (.aload_n 0, 1) := by decide +kernel
theorem dX3_swap_77 : decode cX3_swap 77 = .ok (.iload 5, 2) := by decide +kernel
theorem dX3_swap_79 : decode cX3_swap 79 = .ok (.iload 6, 2) := by decide +kernel
theorem dX3_swap_81 : decode cX3_swap 81 = .ok (.iload_n 1, 1) := by decide +kernel
theorem dX3_swap_82 : decode cX3_swap 82 = .ok (.invokevirtual 195, 3) := by decide +kernel
theorem dX3_swap_85 : decode cX3_swap 85 = .ok (.istore 7, 2) := by decide +kernel
theorem dX3_swap_87 : decode cX3_swap 87 = .ok (.iload 7, 2) := by decide +kernel
theorem dX3_swap_89 : decode cX3_swap 89 = .ok (.iload 4, 2) := by decide +kernel
theorem dX3_swap_91 : decode cX3_swap 91 = .ok (.if_icmp .le 16, 3) := by decide +kernel
theorem dX3_swap_94 : decode cX3_swap 94 = .ok (.iload 7, 2) := by decide +kernel
theorem dX3_swap_96 : decode cX3_swap 96 = .ok (.istore 4, 2) := by decide +kernel
theorem dX3_swap_98 : decode cX3_swap 98 = .ok (.bipush 100, 2) := by decide +kernel
theorem dX3_swap_100 : decode cX3_swap 100 = .ok (.iload 5, 2) := by decide +kernel
theorem dX3_swap_102 : decode cX3_swap 102 = .ok (.imul, 1) := by decide +kernel
theorem dX3_swap_103 : decode cX3_swap 103 = .ok (.iload 6, 2) := by decide +kernel
theorem dX3_swap_105 : decode cX3_swap 105 = .ok (.iadd, 1) := by decide +kernel
theorem dX3_swap_106 : decode cX3_swap 106 = .ok (.istore_n 3, 1) := by decide +kernel
theorem dX3_swap_107 : decode cX3_swap 107 = .ok (.iinc 6 1, 3) := by decide +kernel
theorem dX3_swap_110 : decode cX3_swap 110 = .ok (.goto (-69), 3) := by decide +kernel
theorem dX3_swap_113 : decode cX3_swap 113 = .ok (.iinc 5 1, 3) := by decide +kernel
theorem dX3_swap_116 : decode cX3_swap 116 = .ok (.goto (-93), 3) := by decide +kernel
theorem dX3_swap_119 : decode cX3_swap 119 = .ok (.iload_n 3, 1) := by decide +kernel
theorem dX3_swap_120 : decode cX3_swap 120 = .ok (.bipush (-4), 2) := by decide +kernel
theorem dX3_swap_122 : decode cX3_swap 122 = .ok (.if_icmp .eq 7, 3) := by decide +kernel
theorem dX3_swap_125 : decode cX3_swap 125 = .ok (.iload_n 2, 1) := by decide +kernel
theorem dX3_swap_126 : decode cX3_swap 126 = .ok (.ifCond .ne 7, 3) := by decide +kernel
theorem dX3_swap_129 : decode cX3_swap 129 = .ok (.iload_n 3, 1) := by decide +kernel
theorem dX3_swap_130 : decode cX3_swap 130 = .ok (.goto 5, 3) := by decide +kernel
theorem dX3_swap_133 : decode cX3_swap 133 = .ok (.iload 4, 2) := by decide +kernel
theorem dX3_swap_135 : decode cX3_swap 135 = .ok (.ireturn, 1) := by decide +kernel
theorem dX3_omit_0 : decode cX3_omit 0 = .ok (.iload_n 1, 1) := by decide +kernel
theorem dX3_omit_1 : decode cX3_omit 1 = .ok (.iload_n 2, 1) := by decide +kernel
theorem dX3_omit_2 : decode cX3_omit 2 = .ok (.invokestatic 188, 3) := by decide +kernel
theorem dX3_omit_5 : decode cX3_omit 5 = .ok (.ifCond .ne 5, 3) := by decide +kernel
theorem dX3_omit_8 : decode cX3_omit 8 = .ok (.iconst (-1), 1) := by decide +kernel
theorem dX3_omit_9 : decode cX3_omit 9 = .ok (.ireturn, 1) := by decide +kernel
theorem dX3_omit_10 : decode cX3_omit 10 = .ok (.bipush (-4), 2) := by decide +kernel
theorem dX3_omit_12 : decode cX3_omit 12 = .ok (.istore_n 3, 1) := by decide +kernel
theorem dX3_omit_13 : decode cX3_omit 13 = .ok (.aload_n 0, 1) := by decide +kernel
theorem dX3_omit_14 : decode cX3_omit 14 = .ok (.iload_n 1, 1) := by decide +kernel
theorem dX3_omit_15 : decode cX3_omit 15 = .ok (.invokevirtual 192, 3) := by decide +kernel
theorem dX3_omit_18 : decode cX3_omit 18 = .ok (.istore 4, 2) := by decide +kernel
theorem dX3_omit_20 : decode cX3_omit 20 = .ok (.iconst 0, 1) := by decide +kernel
theorem dX3_omit_21 : decode cX3_omit 21 = .ok (.istore 5, 2) := by decide +kernel
theorem dX3_omit_23 : decode cX3_omit 23 = .ok (.iload 5, 2) := by decide +kernel
theorem dX3_omit_25 : decode cX3_omit 25 = .ok (.aload_n 0, 1) := by decide +kernel
theorem dX3_omit_26 : decode cX3_omit 26 = .ok (.getfield 10, 3) := by decide +kernel
theorem dX3_omit_29 : decode cX3_omit 29 = .ok (.getfield 92, 3) := by decide +kernel
theorem dX3_omit_32 : decode cX3_omit 32 = .ok (.if_icmp .ge 63, 3) := by decide +kernel
theorem dX3_omit_35 : decode cX3_omit 35 = .ok (.aload_n 0, 1) := by decide +kernel
theorem dX3_omit_36 : decode cX3_omit 36 = .ok (.getfield 16, 3) := by decide +kernel
theorem dX3_omit_39 : decode cX3_omit 39 = .ok (.aload_n 0, 1) := by decide +kernel
theorem dX3_omit_40 : decode cX3_omit 40 = .ok (.getfield 10, 3) := by decide +kernel
theorem dX3_omit_43 : decode cX3_omit 43 = .ok (.invokevirtual 164, 3) := by decide +kernel
theorem dX3_omit_46 : decode cX3_omit 46 = .ok (.aload_n 0, 1) := by decide +kernel
theorem dX3_omit_47 : decode cX3_omit 47 = .ok (.getfield 16, 3) := by decide +kernel
theorem dX3_omit_50 : decode cX3_omit 50 = .ok (.getfield 143, 3) := by decide +kernel
theorem dX3_omit_53 : decode cX3_omit 53 = .ok (.iload 5, 2) := by decide +kernel
theorem dX3_omit_55 : decode cX3_omit 55 = .ok (.iconst 0, 1) := by decide +kernel
theorem dX3_omit_56 : decode cX3_omit 56 = .ok (.iastore, 1) := by decide +kernel
theorem dX3_omit_57 : decode cX3_omit 57 = .ok (.aload_n 0, 1) := by decide +kernel
theorem dX3_omit_58 : decode cX3_omit 58 = .ok (.getfield 16, 3) := by decide +kernel
theorem dX3_omit_61 : decode cX3_omit 61 = .ok (.iload_n 1, 1) := by decide +kernel
theorem dX3_omit_62 : decode cX3_omit 62 = .ok (.invokevirtual 161, 3) := by decide +kernel
theorem dX3_omit_65 : decode cX3_omit 65 = .ok (.aload_n 0, 1) := by decide +kernel
theorem dX3_omit_66 : decode cX3_omit 66 = .ok (.getfield 16, 3) := by decide +kernel
theorem dX3_omit_69 : decode cX3_omit 69 = .ok (.getfield 98, 3) := by decide +kernel
theorem dX3_omit_72 : decode cX3_omit 72 = .ok (.iload 4, 2) := by decide +kernel
theorem dX3_omit_74 : decode cX3_omit 74 = .ok (.if_icmp .le 15, 3) := by decide +kernel
theorem dX3_omit_77 : decode cX3_omit 77 = .ok (.aload_n 0, 1) := by decide +kernel
theorem dX3_omit_78 : decode cX3_omit 78 = .ok (.getfield 16, 3) := by decide +kernel
theorem dX3_omit_81 : decode cX3_omit 81 = .ok (.getfield 98, 3) := by decide +kernel
theorem dX3_omit_84 : decode cX3_omit 84 = .ok (.istore 4, 2) := by decide +kernel
theorem dX3_omit_86 : decode cX3_omit 86 = .ok (.iload 5, 2) := by decide +kernel
theorem dX3_omit_88 : decode cX3_omit 88 = .ok (.istore_n 3, 1) := by decide +kernel
theorem dX3_omit_89 : decode cX3_omit 89 = .ok (.iinc 5 1, 3) := by decide +kernel
theorem dX3_omit_92 : decode cX3_omit 92 = .ok (.goto (-69), 3) := by decide +kernel
theorem dX3_omit_95 : decode cX3_omit 95 = .ok (.iload_n 3, 1) := by decide +kernel
theorem dX3_omit_96 : decode cX3_omit 96 = .ok (.bipush (-4), 2) := by decide +kernel
theorem dX3_omit_98 : decode cX3_omit 98 = .ok (.if_icmp .eq 7, 3) := by decide +kernel
theorem dX3_omit_101 : decode cX3_omit 101 = .ok (.iload_n 2, 1) := by decide +kernel
theorem dX3_omit_102 : decode cX3_omit 102 = .ok (.ifCond .ne 7, 3) := by decide +kernel
theorem dX3_omit_105 : decode cX3_omit 105 = .ok (.iload_n 3, 1) := by decide +kernel
theorem dX3_omit_106 : decode cX3_omit 106 = .ok (.goto 5, 3) := by decide +kernel
theorem dX3_omit_109 : decode cX3_omit 109 = .ok (.iload 4, 2) := by decide +kernel
theorem dX3_omit_111 : decode cX3_omit 111 = .ok (.ireturn, 1) := by decide +kernel
theorem dX3_off_0 : decode cX3_off 0 = .ok (.iload_n 1, 1) := by decide +kernel
theorem dX3_off_1 : decode cX3_off 1 = .ok (.iload_n 2, 1) := by decide +kernel
theorem dX3_off_2 : decode cX3_off 2 = .ok (.invokestatic 188, 3) := by decide +kernel
theorem dX3_off_5 : decode cX3_off 5 = .ok (.ifCond .ne 5, 3) := by decide +kernel
theorem dX3_off_8 : decode cX3_off 8 = .ok (.iconst (-1), 1) := by decide +kernel
theorem dX3_off_9 : decode cX3_off 9 = .ok (.ireturn, 1) := by decide +kernel
theorem dX3_off_10 : decode cX3_off 10 = .ok (.bipush (-4), 2) := by decide +kernel
theorem dX3_off_12 : decode cX3_off 12 = .ok (.istore_n 3, 1) := by decide +kernel
theorem dX3_off_13 : decode cX3_off 13 = .ok (.aload_n 0, 1) := by decide +kernel
theorem dX3_off_14 : decode cX3_off 14 = .ok (.iload_n 1, 1) := by decide +kernel
theorem dX3_off_15 : decode cX3_off 15 = .ok (.invokevirtual 192, 3) := by decide +kernel
theorem dX3_off_18 : decode cX3_off 18 = .ok (.istore 4, 2) := by decide +kernel
theorem dX3_off_20 : decode cX3_off 20 = .ok (.iconst 0, 1) := by decide +kernel
theorem dX3_off_21 : decode cX3_off 21 = .ok (.istore 5, 2) := by decide +kernel
theorem dX3_off_23 : decode cX3_off 23 = .ok (.iload 5, 2) := by decide +kernel
theorem dX3_off_25 : decode cX3_off 25 = .ok (.aload_n 0, 1) := by decide +kernel
theorem dX3_off_26 : decode cX3_off 26 = .ok (.getfield 10, 3) := by decide +kernel
theorem dX3_off_29 : decode cX3_off 29 = .ok (.getfield 89, 3) := by decide +kernel
theorem dX3_off_32 : decode cX3_off 32 = .ok (.if_icmp .ge 61, 3) := by decide +kernel
theorem dX3_off_35 : decode cX3_off 35 = .ok (.aload_n 0, 1) := by decide +kernel
theorem dX3_off_36 : decode cX3_off 36 = .ok (.getfield 16, 3) := by decide +kernel
theorem dX3_off_39 : decode cX3_off 39 = .ok (.aload_n 0, 1) := by decide +kernel
theorem dX3_off_40 : decode cX3_off 40 = .ok (.getfield 10, 3) := by decide +kernel
theorem dX3_off_43 : decode cX3_off 43 = .ok (.invokevirtual 164, 3) := by decide +kernel
theorem dX3_off_46 : decode cX3_off 46 = .ok (.aload_n 0, 1) := by decide +kernel
theorem dX3_off_47 : decode cX3_off 47 = .ok (.getfield 16, 3) := by decide +kernel
theorem dX3_off_50 : decode cX3_off 50 = .ok (.iload 5, 2) := by decide +kernel
theorem dX3_off_52 : decode cX3_off 52 = .ok (.invokevirtual 198, 3) := by decide +kernel
theorem dX3_off_55 : decode cX3_off 55 = .ok (.aload_n 0, 1) := by decide +kernel
theorem dX3_off_56 : decode cX3_off 56 = .ok (.getfield 16, 3) := by decide +kernel
theorem dX3_off_59 : decode cX3_off 59 = .ok (.iload_n 1, 1) := by decide +kernel
theorem dX3_off_60 : decode cX3_off 60 = .ok (.invokevirtual 161, 3) := by decide +kernel
theorem dX3_off_63 : decode cX3_off 63 = .ok (.aload_n 0, 1) := by decide +kernel
theorem dX3_off_64 : decode cX3_off 64 = .ok (.getfield 16, 3) := by decide +kernel
theorem dX3_off_67 : decode cX3_off 67 = .ok (.getfield 98, 3) := by decide +kernel
theorem dX3_off_70 : decode cX3_off 70 = .ok (.iload 4, 2) := by decide +kernel
theorem dX3_off_72 : decode cX3_off 72 = .ok (.if_icmp .le 15, 3) := by decide +kernel
theorem dX3_off_75 : decode cX3_off 75 = .ok (.aload_n 0, 1) := by decide +kernel
theorem dX3_off_76 : decode cX3_off 76 = .ok (.getfield 16, 3) := by decide +kernel
theorem dX3_off_79 : decode cX3_off 79 = .ok (.getfield 98, 3) := by decide +kernel
theorem dX3_off_82 : decode cX3_off 82 = .ok (.istore 4, 2) := by decide +kernel
theorem dX3_off_84 : decode cX3_off 84 = .ok (.iload 5, 2) := by decide +kernel
theorem dX3_off_86 : decode cX3_off 86 = .ok (.istore_n 3, 1) := by decide +kernel
theorem dX3_off_87 : decode cX3_off 87 = .ok (.iinc 5 1, 3) := by decide +kernel
theorem dX3_off_90 : decode cX3_off 90 = .ok (.goto (-67), 3) := by decide +kernel
theorem dX3_off_93 : decode cX3_off 93 = .ok (.iload_n 3, 1) := by decide +kernel
theorem dX3_off_94 : decode cX3_off 94 = .ok (.bipush (-4), 2) := by decide +kernel
theorem dX3_off_96 : decode cX3_off 96 = .ok (.if_icmp .eq 7, 3) := by decide +kernel
theorem dX3_off_99 : decode cX3_off 99 = .ok (.iload_n 2, 1) := by decide +kernel
theorem dX3_off_100 : decode cX3_off 100 = .ok (.ifCond .ne 7, 3) := by decide +kernel
theorem dX3_off_103 : decode cX3_off 103 = .ok (.iload_n 3, 1) := by decide +kernel
theorem dX3_off_104 : decode cX3_off 104 = .ok (.goto 5, 3) := by decide +kernel
theorem dX3_off_107 : decode cX3_off 107 = .ok (.iload 4, 2) := by decide +kernel
theorem dX3_off_109 : decode cX3_off 109 = .ok (.ireturn, 1) := by decide +kernel
theorem dX3_luck_0 : decode cX3_luck 0 = .ok (.iload_n 1, 1) := by decide +kernel
theorem dX3_luck_1 : decode cX3_luck 1 = .ok (.iload_n 2, 1) := by decide +kernel
theorem dX3_luck_2 : decode cX3_luck 2 = .ok (.iload_n 3, 1) := by decide +kernel
theorem dX3_luck_3 : decode cX3_luck 3 = .ok (.invokestatic 201, 3) := by decide +kernel
theorem dX3_luck_6 : decode cX3_luck 6 = .ok (.ifCond .ne 7, 3) := by decide +kernel
theorem dX3_luck_9 : decode cX3_luck 9 = .ok (.ldc2_w 204, 3) := by decide +kernel
theorem dX3_luck_12 : decode cX3_luck 12 = .ok (.lreturn, 1) := by decide +kernel
theorem dX3_luck_13 : decode cX3_luck 13 = .ok (.lconst 0, 1) := by decide +kernel
theorem dX3_luck_14 : decode cX3_luck 14 = .ok (.lstore 4, 2) := by decide +kernel
theorem dX3_luck_16 : decode cX3_luck 16 = .ok (.iconst 0, 1) := by decide +kernel
theorem dX3_luck_17 : decode cX3_luck 17 = .ok (.istore 6, 2) := by decide +kernel
theorem dX3_luck_19 : decode cX3_luck 19 = .ok (.iload 6, 2) := by decide +kernel
theorem dX3_luck_21 : decode cX3_luck 21 = .ok (.iconst 1, 1) := by decide +kernel
theorem dX3_luck_22 : decode cX3_luck 22 = .ok (.iload_n 2, 1) := by decide +kernel
theorem dX3_luck_23 : decode cX3_luck 23 = .ok (.ishl, 1) := by decide +kernel
theorem dX3_luck_24 : decode cX3_luck 24 = .ok (.if_icmp .ge 38, 3) := by decide +kernel
theorem dX3_luck_27 : decode cX3_luck 27 = .ok (.aload_n 0, 1) := by decide +kernel
theorem dX3_luck_28 : decode cX3_luck 28 = .ok (.iload 6, 2) := by decide +kernel
theorem dX3_luck_30 : decode cX3_luck 30 = .ok (.iload_n 2, 1) := by decide +kernel
theorem dX3_luck_31 : decode cX3_luck 31 = .ok (.invokevirtual 206, 3) := by decide +kernel
theorem dX3_luck_34 : decode cX3_luck 34 = .ok (.aload_n 0, 1) := by decide +kernel
theorem dX3_luck_35 : decode cX3_luck 35 = .ok (.getfield 16, 3) := by decide +kernel
theorem dX3_luck_38 : decode cX3_luck 38 = .ok (.getfield 101, 3) := by decide +kernel
theorem dX3_luck_41 : decode cX3_luck 41 = .ok (.ifCond .ne 15, 3) := by decide +kernel
theorem dX3_luck_44 : decode cX3_luck 44 = .ok (.lload 4, 2) := by decide +kernel
theorem dX3_luck_46 : decode cX3_luck 46 = .ok (.iload 6, 2) := by decide +kernel
theorem dX3_luck_48 : decode cX3_luck 48 = .ok (.iload_n 1, 1) := by decide +kernel
theorem dX3_luck_49 : decode cX3_luck 49 = .ok (.iload_n 2, 1) := by decide +kernel
theorem dX3_luck_50 : decode cX3_luck 50 = .ok (.invokestatic 210, 3) := by decide +kernel
theorem dX3_luck_53 : decode cX3_luck 53 = .ok (.ladd, 1) := by decide +kernel
theorem dX3_luck_54 : decode cX3_luck 54 = .ok (.lstore 4, 2) := by decide +kernel
theorem dX3_luck_56 : decode cX3_luck 56 = .ok (.iinc 6 1, 3) := by decide +kernel
theorem dX3_luck_59 : decode cX3_luck 59 = .ok (.goto (-40), 3) := by decide +kernel
theorem dX3_luck_62 : decode cX3_luck 62 = .ok (.lload 4, 2) := by decide +kernel
theorem dX3_luck_64 : decode cX3_luck 64 = .ok (.iload_n 2, 1) := by decide +kernel
theorem dX3_luck_65 : decode cX3_luck 65 = .ok (.invokestatic 214, 3) := by decide +kernel
theorem dX3_luck_68 : decode cX3_luck 68 = .ok (.iload_n 3, 1) := by decide +kernel
theorem dX3_luck_69 : decode cX3_luck 69 = .ok (.invokestatic 218, 3) := by decide +kernel
theorem dX3_luck_72 : decode cX3_luck 72 = .ok (.lreturn, 1) := by decide +kernel
theorem dX3_mean_0 : decode cX3_mean 0 = .ok (.iload_n 1, 1) := by decide +kernel
theorem dX3_mean_1 : decode cX3_mean 1 = .ok (.iload_n 2, 1) := by decide +kernel
theorem dX3_mean_2 : decode cX3_mean 2 = .ok (.iload_n 3, 1) := by decide +kernel
theorem dX3_mean_3 : decode cX3_mean 3 = .ok (.invokestatic 201, 3) := by decide +kernel
theorem dX3_mean_6 : decode cX3_mean 6 = .ok (.ifCond .ne 7, 3) := by decide +kernel
theorem dX3_mean_9 : decode cX3_mean 9 = .ok (.ldc2_w 204, 3) := by decide +kernel
theorem dX3_mean_12 : decode cX3_mean 12 = .ok (.lreturn, 1) := by decide +kernel
theorem dX3_mean_13 : decode cX3_mean 13 = .ok (.lconst 0, 1) := by decide +kernel
theorem dX3_mean_14 : decode cX3_mean 14 = .ok (.lstore 4, 2) := by decide +kernel
theorem dX3_mean_16 : decode cX3_mean 16 = .ok (.iconst 0, 1) := by decide +kernel
theorem dX3_mean_17 : decode cX3_mean 17 = .ok (.istore 6, 2) := by decide +kernel
theorem dX3_mean_19 : decode cX3_mean 19 = .ok (.iload 6, 2) := by decide +kernel
theorem dX3_mean_21 : decode cX3_mean 21 = .ok (.iconst 1, 1) := by decide +kernel
theorem dX3_mean_22 : decode cX3_mean 22 = .ok (.iload_n 2, 1) := by decide +kernel
theorem dX3_mean_23 : decode cX3_mean 23 = .ok (.ishl, 1) := by decide +kernel
theorem dX3_mean_24 : decode cX3_mean 24 = .ok (.if_icmp .ge 37, 3) := by decide +kernel
theorem dX3_mean_27 : decode cX3_mean 27 = .ok (.aload_n 0, 1) := by decide +kernel
theorem dX3_mean_28 : decode cX3_mean 28 = .ok (.iload 6, 2) := by decide +kernel
theorem dX3_mean_30 : decode cX3_mean 30 = .ok (.iload_n 2, 1) := by decide +kernel
theorem dX3_mean_31 : decode cX3_mean 31 = .ok (.invokevirtual 206, 3) := by decide +kernel
theorem dX3_mean_34 : decode cX3_mean 34 = .ok (.lload 4, 2) := by decide +kernel
theorem dX3_mean_36 : decode cX3_mean 36 = .ok (.aload_n 0, 1) := by decide +kernel
theorem dX3_mean_37 : decode cX3_mean 37 = .ok (.getfield 16, 3) := by decide +kernel
theorem dX3_mean_40 : decode cX3_mean 40 = .ok (.getfield 98, 3) := by decide +kernel
theorem dX3_mean_43 : decode cX3_mean 43 = .ok (.i2l, 1) := by decide +kernel
theorem dX3_mean_44 : decode cX3_mean 44 = .ok (.iload 6, 2) := by decide +kernel
theorem dX3_mean_46 : decode cX3_mean 46 = .ok (.iload_n 1, 1) := by decide +kernel
theorem dX3_mean_47 : decode cX3_mean 47 = .ok (.iload_n 2, 1) := by decide +kernel
theorem dX3_mean_48 : decode cX3_mean 48 = .ok (.invokestatic 210, 3) := by decide +kernel
theorem dX3_mean_51 : decode cX3_mean 51 = .ok (.lmul, 1) := by decide +kernel
theorem dX3_mean_52 : decode cX3_mean 52 = .ok (.ladd, 1) := by decide +kernel
theorem dX3_mean_53 : decode cX3_mean 53 = .ok (.lstore 4, 2) := by decide +kernel
theorem dX3_mean_55 : decode cX3_mean 55 = .ok (.iinc 6 1, 3) := by decide +kernel
theorem dX3_mean_58 : decode cX3_mean 58 = .ok (.goto (-39), 3) := by decide +kernel
theorem dX3_mean_61 : decode cX3_mean 61 = .ok (.lload 4, 2) := by decide +kernel
theorem dX3_mean_63 : decode cX3_mean 63 = .ok (.iload_n 2, 1) := by decide +kernel
theorem dX3_mean_64 : decode cX3_mean 64 = .ok (.invokestatic 214, 3) := by decide +kernel
theorem dX3_mean_67 : decode cX3_mean 67 = .ok (.iload_n 3, 1) := by decide +kernel
theorem dX3_mean_68 : decode cX3_mean 68 = .ok (.invokestatic 218, 3) := by decide +kernel
theorem dX3_mean_71 : decode cX3_mean 71 = .ok (.lreturn, 1) := by decide +kernel
theorem dX3_see_0 : decode cX3_see 0 = .ok (.iload_n 1, 1) := by decide +kernel
theorem dX3_see_1 : decode cX3_see 1 = .ok (.iconst 0, 1) := by decide +kernel
theorem dX3_see_2 : decode cX3_see 2 = .ok (.bipush 40, 2) := by decide +kernel
theorem dX3_see_4 : decode cX3_see 4 = .ok (.invokestatic 67, 3) := by decide +kernel
theorem dX3_see_7 : decode cX3_see 7 = .ok (.ifCond .eq 24, 3) := by decide +kernel
theorem dX3_see_10 : decode cX3_see 10 = .ok (.aload_n 0, 1) := by decide +kernel
theorem dX3_see_11 : decode cX3_see 11 = .ok (.getfield 10, 3) := by decide +kernel
theorem dX3_see_14 : decode cX3_see 14 = .ok (.iload_n 2, 1) := by decide +kernel
theorem dX3_see_15 : decode cX3_see 15 = .ok (.invokevirtual 117, 3) := by decide +kernel
theorem dX3_see_18 : decode cX3_see 18 = .ok (.ifCond .eq 13, 3) := by decide +kernel
theorem dX3_see_21 : decode cX3_see 21 = .ok (.iload_n 3, 1) := by decide +kernel
theorem dX3_see_22 : decode cX3_see 22 = .ok (.iconst 0, 1) := by decide +kernel
theorem dX3_see_23 : decode cX3_see 23 = .ok (.ldc 222, 2) := by decide +kernel
theorem dX3_see_25 : decode cX3_see 25 = .ok (.invokestatic 67, 3) := by decide +kernel
theorem dX3_see_28 : decode cX3_see 28 = .ok (.ifCond .ne 5, 3) := by decide +kernel
theorem dX3_see_31 : decode cX3_see 31 = .ok (.iconst (-1), 1) := by decide +kernel
theorem dX3_see_32 : decode cX3_see 32 = .ok (.ireturn, 1) := by decide +kernel
theorem dX3_see_33 : decode cX3_see 33 = .ok (.aload_n 0, 1) := by decide +kernel
theorem dX3_see_34 : decode cX3_see 34 = .ok (.getfield 53, 3) := by decide +kernel
theorem dX3_see_37 : decode cX3_see 37 = .ok (.bipush 6, 2) := by decide +kernel
theorem dX3_see_39 : decode cX3_see 39 = .ok (.if_icmp .lt 6, 3) := by decide +kernel
theorem dX3_see_42 : decode cX3_see 42 = .ok (.bipush (-3), 2) := by decide +kernel
theorem dX3_see_44 : decode cX3_see 44 = .ok (.ireturn, 1) := by decide +kernel
theorem dX3_see_45 : decode cX3_see 45 = .ok (.aload_n 0, 1) := by decide +kernel
theorem dX3_see_46 : decode cX3_see 46 = .ok (.getfield 43, 3) := by decide +kernel
theorem dX3_see_49 : decode cX3_see 49 = .ok (.aload_n 0, 1) := by decide +kernel
theorem dX3_see_50 : decode cX3_see 50 = .ok (.getfield 53, 3) := by decide +kernel
theorem dX3_see_53 : decode cX3_see 53 = .ok (.iload_n 1, 1) := by decide +kernel
theorem dX3_see_54 : decode cX3_see 54 = .ok (.iastore, 1) := by decide +kernel
theorem dX3_see_55 : decode cX3_see 55 = .ok (.aload_n 0, 1) := by decide +kernel
theorem dX3_see_56 : decode cX3_see 56 = .ok (.getfield 47, 3) := by decide +kernel
theorem dX3_see_59 : decode cX3_see 59 = .ok (.aload_n 0, 1) := by decide +kernel
theorem dX3_see_60 : decode cX3_see 60 = .ok (.getfield 53, 3) := by decide +kernel
theorem dX3_see_63 : decode cX3_see 63 = .ok (.iload_n 2, 1) := by decide +kernel
theorem dX3_see_64 : decode cX3_see 64 = .ok (.iastore, 1) := by decide +kernel
theorem dX3_see_65 : decode cX3_see 65 = .ok (.aload_n 0, 1) := by decide +kernel
theorem dX3_see_66 : decode cX3_see 66 = .ok (.getfield 50, 3) := by decide +kernel
theorem dX3_see_69 : decode cX3_see 69 = .ok (.aload_n 0, 1) := by decide +kernel
theorem dX3_see_70 : decode cX3_see 70 = .ok (.getfield 53, 3) := by decide +kernel
theorem dX3_see_73 : decode cX3_see 73 = .ok (.iload_n 3, 1) := by decide +kernel
theorem dX3_see_74 : decode cX3_see 74 = .ok (.iastore, 1) := by decide +kernel
theorem dX3_see_75 : decode cX3_see 75 = .ok (.aload_n 0, 1) := by decide +kernel
theorem dX3_see_76 : decode cX3_see 76 = .ok (.dup, 1) := by decide +kernel
theorem dX3_see_77 : decode cX3_see 77 = .ok (.getfield 53, 3) := by decide +kernel
theorem dX3_see_80 : decode cX3_see 80 = .ok (.iconst 1, 1) := by decide +kernel
theorem dX3_see_81 : decode cX3_see 81 = .ok (.iadd, 1) := by decide +kernel
theorem dX3_see_82 : decode cX3_see 82 = .ok (.putfield 53, 3) := by decide +kernel
theorem dX3_see_85 : decode cX3_see 85 = .ok (.aload_n 0, 1) := by decide +kernel
theorem dX3_see_86 : decode cX3_see 86 = .ok (.getfield 53, 3) := by decide +kernel
theorem dX3_see_89 : decode cX3_see 89 = .ok (.ireturn, 1) := by decide +kernel
theorem dX3_forget_0 : decode cX3_forget 0 = .ok (.iload_n 1, 1) := by decide +kernel
theorem dX3_forget_1 : decode cX3_forget 1 = .ok (.iconst 0, 1) := by decide +kernel
theorem dX3_forget_2 : decode cX3_forget 2 = .ok (.aload_n 0, 1) := by decide +kernel
theorem dX3_forget_3 : decode cX3_forget 3 = .ok (.getfield 53, 3) := by decide +kernel
theorem dX3_forget_6 : decode cX3_forget 6 = .ok (.invokestatic 67, 3) := by decide +kernel
theorem dX3_forget_9 : decode cX3_forget 9 = .ok (.ifCond .ne 5, 3) := by decide +kernel
theorem dX3_forget_12 : decode cX3_forget 12 = .ok (.iconst (-1), 1) := by decide +kernel
theorem dX3_forget_13 : decode cX3_forget 13 = .ok (.ireturn, 1) := by decide +kernel
theorem dX3_forget_14 : decode cX3_forget 14 = .ok (.aload_n 0, 1) := by decide +kernel
theorem dX3_forget_15 : decode cX3_forget 15 = .ok (.getfield 53, 3) := by decide +kernel
theorem dX3_forget_18 : decode cX3_forget 18 = .ok (.istore_n 2, 1) := by decide +kernel
theorem dX3_forget_19 : decode cX3_forget 19 = .ok (.aload_n 0, 1) := by decide +kernel
theorem dX3_forget_20 : decode cX3_forget 20 = .ok (.iload_n 1, 1) := by decide +kernel
theorem dX3_forget_21 : decode cX3_forget 21 = .ok (.putfield 53, 3) := by decide +kernel
theorem dX3_forget_24 : decode cX3_forget 24 = .ok (.iload_n 2, 1) := by decide +kernel
theorem dX3_forget_25 : decode cX3_forget 25 = .ok (.ireturn, 1) := by decide +kernel
theorem dX3_kinds_0 : decode cX3_kinds 0 = .ok (.aload_n 0, 1) := by decide +kernel
theorem dX3_kinds_1 : decode cX3_kinds 1 = .ok (.getfield 10, 3) := by decide +kernel
theorem dX3_kinds_4 : decode cX3_kinds 4 = .ok (.iload_n 1, 1) := by decide +kernel
theorem dX3_kinds_5 : decode cX3_kinds 5 = .ok (.invokevirtual 117, 3) := by decide +kernel
theorem dX3_kinds_8 : decode cX3_kinds 8 = .ok (.ifCond .ne 5, 3) := by decide +kernel
theorem dX3_kinds_11 : decode cX3_kinds 11 = .ok (.iconst (-1), 1) := by decide +kernel
theorem dX3_kinds_12 : decode cX3_kinds 12 = .ok (.ireturn, 1) := by decide +kernel
theorem dX3_kinds_13 : decode cX3_kinds 13 = .ok (.iconst 0, 1) := by decide +kernel
theorem dX3_kinds_14 : decode cX3_kinds 14 = .ok (.istore_n 2, 1) := by decide +kernel
theorem dX3_kinds_15 : decode cX3_kinds 15 = .ok (.iconst 0, 1) := by decide +kernel
theorem dX3_kinds_16 : decode cX3_kinds 16 = .ok (.istore_n 3, 1) := by decide +kernel
theorem dX3_kinds_17 : decode cX3_kinds 17 = .ok (.iload_n 3, 1) := by decide +kernel
theorem dX3_kinds_18 : decode cX3_kinds 18 = .ok (.iconst 3, 1) := by decide +kernel
theorem dX3_kinds_19 : decode cX3_kinds 19 = .ok (.if_icmp .gt 43, 3) := by decide +kernel
theorem dX3_kinds_22 : decode cX3_kinds 22 = .ok (.aload_n 0, 1) := by decide +kernel
theorem dX3_kinds_23 : decode cX3_kinds 23 = .ok (.getfield 16, 3) := by decide +kernel
theorem dX3_kinds_26 : decode cX3_kinds 26 = .ok (.aload_n 0, 1) := by decide +kernel
theorem dX3_kinds_27 : decode cX3_kinds 27 = .ok (.getfield 10, 3) := by decide +kernel
theorem dX3_kinds_30 : decode cX3_kinds 30 = .ok (.invokevirtual 164, 3) := by decide +kernel
theorem dX3_kinds_33 : decode cX3_kinds 33 = .ok (.aload_n 0, 1) := by decide +kernel
theorem dX3_kinds_34 : decode cX3_kinds 34 = .ok (.getfield 16, 3) := by decide +kernel
theorem dX3_kinds_37 : decode cX3_kinds 37 = .ok (.getfield 121, 3) := by decide +kernel
theorem dX3_kinds_40 : decode cX3_kinds 40 = .ok (.iload_n 1, 1) := by decide +kernel
theorem dX3_kinds_41 : decode cX3_kinds 41 = .ok (.iload_n 3, 1) := by decide +kernel
theorem dX3_kinds_42 : decode cX3_kinds 42 = .ok (.iastore, 1) := by decide +kernel
theorem dX3_kinds_43 : decode cX3_kinds 43 = .ok (.aload_n 0, 1) := by decide +kernel
theorem dX3_kinds_44 : decode cX3_kinds 44 = .ok (.invokevirtual 223, 3) := by decide +kernel
theorem dX3_kinds_47 : decode cX3_kinds 47 = .ok (.ifCond .eq 9, 3) := by decide +kernel
theorem dX3_kinds_50 : decode cX3_kinds 50 = .ok (.iload_n 2, 1) := by decide +kernel
theorem dX3_kinds_51 : decode cX3_kinds 51 = .ok (.iconst 1, 1) := by decide +kernel
theorem dX3_kinds_52 : decode cX3_kinds 52 = .ok (.iload_n 3, 1) := by decide +kernel
theorem dX3_kinds_53 : decode cX3_kinds 53 = .ok (.ishl, 1) := by decide +kernel
theorem dX3_kinds_54 : decode cX3_kinds 54 = .ok (.ior, 1) := by decide +kernel
theorem dX3_kinds_55 : decode cX3_kinds 55 = .ok (.istore_n 2, 1) := by decide +kernel
theorem dX3_kinds_56 : decode cX3_kinds 56 = .ok (.iinc 3 1, 3) := by decide +kernel
theorem dX3_kinds_59 : decode cX3_kinds 59 = .ok (.goto (-42), 3) := by decide +kernel
theorem dX3_kinds_62 : decode cX3_kinds 62 = .ok (.iload_n 2, 1) := by decide +kernel
theorem dX3_kinds_63 : decode cX3_kinds 63 = .ok (.ireturn, 1) := by decide +kernel
theorem dX3_losses_0 : decode cX3_losses 0 = .ok (.aload_n 0, 1) := by decide +kernel
theorem dX3_losses_1 : decode cX3_losses 1 = .ok (.getfield 10, 3) := by decide +kernel
theorem dX3_losses_4 : decode cX3_losses 4 = .ok (.iload_n 1, 1) := by decide +kernel
theorem dX3_losses_5 : decode cX3_losses 5 = .ok (.invokevirtual 117, 3) := by decide +kernel
theorem dX3_losses_8 : decode cX3_losses 8 = .ok (.ifCond .eq 11, 3) := by decide +kernel
theorem dX3_losses_11 : decode cX3_losses 11 = .ok (.aload_n 0, 1) := by decide +kernel
theorem dX3_losses_12 : decode cX3_losses 12 = .ok (.iload_n 1, 1) := by decide +kernel
theorem dX3_losses_13 : decode cX3_losses 13 = .ok (.invokevirtual 227, 3) := by decide +kernel
theorem dX3_losses_16 : decode cX3_losses 16 = .ok (.goto 4, 3) := by decide +kernel
theorem dX3_losses_19 : decode cX3_losses 19 = .ok (.iconst (-1), 1) := by decide +kernel
theorem dX3_losses_20 : decode cX3_losses 20 = .ok (.ireturn, 1) := by decide +kernel
theorem dX3_ask_0 : decode cX3_ask 0 = .ok (.aload_n 0, 1) := by decide +kernel
theorem dX3_ask_1 : decode cX3_ask 1 = .ok (.getfield 10, 3) := by decide +kernel
theorem dX3_ask_4 : decode cX3_ask 4 = .ok (.iload_n 1, 1) := by decide +kernel
theorem dX3_ask_5 : decode cX3_ask 5 = .ok (.invokevirtual 117, 3) := by decide +kernel
theorem dX3_ask_8 : decode cX3_ask 8 = .ok (.ifCond .eq 12, 3) := by decide +kernel
theorem dX3_ask_11 : decode cX3_ask 11 = .ok (.iload_n 2, 1) := by decide +kernel
theorem dX3_ask_12 : decode cX3_ask 12 = .ok (.iconst 0, 1) := by decide +kernel
theorem dX3_ask_13 : decode cX3_ask 13 = .ok (.iconst 1, 1) := by decide +kernel
theorem dX3_ask_14 : decode cX3_ask 14 = .ok (.invokestatic 67, 3) := by decide +kernel
theorem dX3_ask_17 : decode cX3_ask 17 = .ok (.ifCond .ne 5, 3) := by decide +kernel
theorem dX3_ask_20 : decode cX3_ask 20 = .ok (.iconst (-1), 1) := by decide +kernel
theorem dX3_ask_21 : decode cX3_ask 21 = .ok (.ireturn, 1) := by decide +kernel
theorem dX3_ask_22 : decode cX3_ask 22 = .ok (.aload_n 0, 1) := by decide +kernel
theorem dX3_ask_23 : decode cX3_ask 23 = .ok (.iload_n 1, 1) := by decide +kernel
theorem dX3_ask_24 : decode cX3_ask 24 = .ok (.invokevirtual 227, 3) := by decide +kernel
theorem dX3_ask_27 : decode cX3_ask 27 = .ok (.istore_n 3, 1) := by decide +kernel
theorem dX3_ask_28 : decode cX3_ask 28 = .ok (.aload_n 0, 1) := by decide +kernel
theorem dX3_ask_29 : decode cX3_ask 29 = .ok (.iload_n 1, 1) := by decide +kernel
theorem dX3_ask_30 : decode cX3_ask 30 = .ok (.iload_n 3, 1) := by decide +kernel
theorem dX3_ask_31 : decode cX3_ask 31 = .ok (.invokevirtual 230, 3) := by decide +kernel
theorem dX3_ask_34 : decode cX3_ask 34 = .ok (.bipush (-4), 2) := by decide +kernel
theorem dX3_ask_36 : decode cX3_ask 36 = .ok (.istore 4, 2) := by decide +kernel
theorem dX3_ask_38 : decode cX3_ask 38 = .ok (.iload_n 3, 1) := by decide +kernel
theorem dX3_ask_39 : decode cX3_ask 39 = .ok (.invokestatic 233, 3) := by decide +kernel
theorem dX3_ask_42 : decode cX3_ask 42 = .ok (.istore 5, 2) := by decide +kernel
theorem dX3_ask_44 : decode cX3_ask 44 = .ok (.iconst 0, 1) := by decide +kernel
theorem dX3_ask_45 : decode cX3_ask 45 = .ok (.istore 6, 2) := by decide +kernel
theorem dX3_ask_47 : decode cX3_ask 47 = .ok (.iload 6, 2) := by decide +kernel
theorem dX3_ask_49 : decode cX3_ask 49 = .ok (.bipush 40, 2) := by decide +kernel
theorem dX3_ask_51 : decode cX3_ask 51 = .ok (.if_icmp .gt 33, 3) := by decide +kernel
theorem dX3_ask_54 : decode cX3_ask 54 = .ok (.aload_n 0, 1) := by decide +kernel
theorem dX3_ask_55 : decode cX3_ask 55 = .ok (.iload 6, 2) := by decide +kernel
theorem dX3_ask_57 : decode cX3_ask 57 = .ok (.iload_n 3, 1) := by decide +kernel
theorem dX3_ask_58 : decode cX3_ask 58 = .ok (.invokevirtual 238, 3) := by decide +kernel
theorem dX3_ask_61 : decode cX3_ask 61 = .ok (.istore 7, 2) := by decide +kernel
theorem dX3_ask_63 : decode cX3_ask 63 = .ok (.iload 7, 2) := by decide +kernel
theorem dX3_ask_65 : decode cX3_ask 65 = .ok (.iload 5, 2) := by decide +kernel
theorem dX3_ask_67 : decode cX3_ask 67 = .ok (.if_icmp .ge 11, 3) := by decide +kernel
theorem dX3_ask_70 : decode cX3_ask 70 = .ok (.iload 7, 2) := by decide +kernel
theorem dX3_ask_72 : decode cX3_ask 72 = .ok (.istore 5, 2) := by decide +kernel
theorem dX3_ask_74 : decode cX3_ask 74 = .ok (.iload 6, 2) := by decide +kernel
theorem dX3_ask_76 : decode cX3_ask 76 = .ok (.istore 4, 2) := by decide +kernel
theorem dX3_ask_78 : decode cX3_ask 78 = .ok (.iinc 6 1, 3) := by decide +kernel
theorem dX3_ask_81 : decode cX3_ask 81 = .ok (.goto (-34), 3) := by decide +kernel
theorem dX3_ask_84 : decode cX3_ask 84 = .ok (.iload 4, 2) := by decide +kernel
theorem dX3_ask_86 : decode cX3_ask 86 = .ok (.bipush (-4), 2) := by decide +kernel
theorem dX3_ask_88 : decode cX3_ask 88 = .ok (.if_icmp .eq 7, 3) := by decide +kernel
theorem dX3_ask_91 : decode cX3_ask 91 = .ok (.iload_n 2, 1) := by decide +kernel
theorem dX3_ask_92 : decode cX3_ask 92 = .ok (.ifCond .ne 8, 3) := by decide +kernel
theorem dX3_ask_95 : decode cX3_ask 95 = .ok (.iload 4, 2) := by decide +kernel
theorem dX3_ask_97 : decode cX3_ask 97 = .ok (.goto 5, 3) := by decide +kernel
theorem dX3_ask_100 : decode cX3_ask 100 = .ok (.iload 5, 2) := by decide +kernel
theorem dX3_ask_102 : decode cX3_ask 102 = .ok (.ireturn, 1) := by decide +kernel
theorem dX3_drift_0 : decode cX3_drift 0 = .ok (.iload_n 2, 1) := by decide +kernel
theorem dX3_drift_1 : decode cX3_drift 1 = .ok (.iconst 1, 1) := by decide +kernel
theorem dX3_drift_2 : decode cX3_drift 2 = .ok (.sipush 200, 3) := by decide +kernel
theorem dX3_drift_5 : decode cX3_drift 5 = .ok (.invokestatic 67, 3) := by decide +kernel
theorem dX3_drift_8 : decode cX3_drift 8 = .ok (.ifCond .eq 12, 3) := by decide +kernel
theorem dX3_drift_11 : decode cX3_drift 11 = .ok (.iload_n 3, 1) := by decide +kernel
theorem dX3_drift_12 : decode cX3_drift 12 = .ok (.iconst 0, 1) := by decide +kernel
theorem dX3_drift_13 : decode cX3_drift 13 = .ok (.iconst 1, 1) := by decide +kernel
theorem dX3_drift_14 : decode cX3_drift 14 = .ok (.invokestatic 67, 3) := by decide +kernel
theorem dX3_drift_17 : decode cX3_drift 17 = .ok (.ifCond .ne 5, 3) := by decide +kernel
theorem dX3_drift_20 : decode cX3_drift 20 = .ok (.iconst (-1), 1) := by decide +kernel
theorem dX3_drift_21 : decode cX3_drift 21 = .ok (.ireturn, 1) := by decide +kernel
theorem dX3_drift_22 : decode cX3_drift 22 = .ok (.aload_n 0, 1) := by decide +kernel
theorem dX3_drift_23 : decode cX3_drift 23 = .ok (.getfield 10, 3) := by decide +kernel
theorem dX3_drift_26 : decode cX3_drift 26 = .ok (.getfield 89, 3) := by decide +kernel
theorem dX3_drift_29 : decode cX3_drift 29 = .ok (.ifCond .ne 6, 3) := by decide +kernel
theorem dX3_drift_32 : decode cX3_drift 32 = .ok (.bipush (-2), 2) := by decide +kernel
theorem dX3_drift_34 : decode cX3_drift 34 = .ok (.ireturn, 1) := by decide +kernel
theorem dX3_drift_35 : decode cX3_drift 35 = .ok (.aload_n 0, 1) := by decide +kernel
theorem dX3_drift_36 : decode cX3_drift 36 = .ok (.getfield 16, 3) := by decide +kernel
theorem dX3_drift_39 : decode cX3_drift 39 = .ok (.aload_n 0, 1) := by decide +kernel
theorem dX3_drift_40 : decode cX3_drift 40 = .ok (.getfield 10, 3) := by decide +kernel
theorem dX3_drift_43 : decode cX3_drift 43 = .ok (.invokevirtual 164, 3) := by decide +kernel
theorem dX3_drift_46 : decode cX3_drift 46 = .ok (.iload_n 1, 1) := by decide +kernel
theorem dX3_drift_47 : decode cX3_drift 47 = .ok (.istore 4, 2) := by decide +kernel
theorem dX3_drift_49 : decode cX3_drift 49 = .ok (.iconst 0, 1) := by decide +kernel
theorem dX3_drift_50 : decode cX3_drift 50 = .ok (.istore 5, 2) := by decide +kernel
theorem dX3_drift_52 : decode cX3_drift 52 = .ok (.iload 5, 2) := by decide +kernel
theorem dX3_drift_54 : decode cX3_drift 54 = .ok (.iload_n 2, 1) := by decide +kernel
theorem dX3_drift_55 : decode cX3_drift 55 = .ok (.if_icmp .ge 44, 3) := by decide +kernel
theorem dX3_drift_58 : decode cX3_drift 58 = .ok (.iload 4, 2) := by decide +kernel
theorem dX3_drift_60 : decode cX3_drift 60 = .ok (.ldc 241, 2) := by decide +kernel
theorem dX3_drift_62 : decode cX3_drift 62 = .ok (.imul, 1) := by decide +kernel
theorem dX3_drift_63 : decode cX3_drift 63 = .ok (.sipush 12345, 3) := by decide +kernel
theorem dX3_drift_66 : decode cX3_drift 66 = .ok (.iadd, 1) := by decide +kernel
theorem dX3_drift_67 : decode cX3_drift 67 = .ok (.istore 4, 2) := by decide +kernel
theorem dX3_drift_69 : decode cX3_drift 69 = .ok (.iload 4, 2) := by decide +kernel
theorem dX3_drift_71 : decode cX3_drift 71 = .ok (.bipush 16, 2) := by decide +kernel
theorem dX3_drift_73 : decode cX3_drift 73 = .ok (.iushr, 1) := by decide +kernel
theorem dX3_drift_74 : decode cX3_drift 74 = .ok (.sipush 32767, 3) := by decide +kernel
theorem dX3_drift_77 : decode cX3_drift 77 = .ok (.iand, 1) := by decide +kernel
theorem dX3_drift_78 : decode cX3_drift 78 = .ok (.istore 6, 2) := by decide +kernel
theorem dX3_drift_80 : decode cX3_drift 80 = .ok (.aload_n 0, 1) := by decide +kernel
theorem dX3_drift_81 : decode cX3_drift 81 = .ok (.getfield 16, 3) := by decide +kernel
theorem dX3_drift_84 : decode cX3_drift 84 = .ok (.iload 6, 2) := by decide +kernel
theorem dX3_drift_86 : decode cX3_drift 86 = .ok (.sipush 204, 3) := by decide +kernel
theorem dX3_drift_89 : decode cX3_drift 89 = .ok (.irem, 1) := by decide +kernel
theorem dX3_drift_90 : decode cX3_drift 90 = .ok (.invokevirtual 167, 3) := by decide +kernel
theorem dX3_drift_93 : decode cX3_drift 93 = .ok (.iinc 5 1, 3) := by decide +kernel
theorem dX3_drift_96 : decode cX3_drift 96 = .ok (.goto (-44), 3) := by decide +kernel
theorem dX3_drift_99 : decode cX3_drift 99 = .ok (.iload_n 3, 1) := by decide +kernel
theorem dX3_drift_100 : decode cX3_drift 100 = .ok (.ifCond .ne 13, 3) := by decide +kernel
theorem dX3_drift_103 : decode cX3_drift 103 = .ok (.aload_n 0, 1) := by decide +kernel
theorem dX3_drift_104 : decode cX3_drift 104 = .ok (.getfield 16, 3) := by decide +kernel
theorem dX3_drift_107 : decode cX3_drift 107 = .ok (.getfield 98, 3) := by decide +kernel
theorem dX3_drift_110 : decode cX3_drift 110 = .ok (.goto 10, 3) := by decide +kernel
theorem dX3_drift_113 : decode cX3_drift 113 = .ok (.aload_n 0, 1) := by decide +kernel
theorem dX3_drift_114 : decode cX3_drift 114 = .ok (.getfield 16, 3) := by decide +kernel
theorem dX3_drift_117 : decode cX3_drift 117 = .ok (.invokevirtual 178, 3) := by decide +kernel
theorem dX3_drift_120 : decode cX3_drift 120 = .ok (.ireturn, 1) := by decide +kernel
theorem dX3_keep_0 : decode cX3_keep 0 = .ok (.iload_n 1, 1) := by decide +kernel
theorem dX3_keep_1 : decode cX3_keep 1 = .ok (.iconst 0, 1) := by decide +kernel
theorem dX3_keep_2 : decode cX3_keep 2 = .ok (.iconst 1, 1) := by decide +kernel
theorem dX3_keep_3 : decode cX3_keep 3 = .ok (.invokestatic 67, 3) := by decide +kernel
theorem dX3_keep_6 : decode cX3_keep 6 = .ok (.ifCond .ne 5, 3) := by decide +kernel
theorem dX3_keep_9 : decode cX3_keep 9 = .ok (.iconst (-1), 1) := by decide +kernel
theorem dX3_keep_10 : decode cX3_keep 10 = .ok (.ireturn, 1) := by decide +kernel
theorem dX3_keep_11 : decode cX3_keep 11 = .ok (.aload_n 0, 1) := by decide +kernel
theorem dX3_keep_12 : decode cX3_keep 12 = .ok (.getfield 26, 3) := by decide +kernel
theorem dX3_keep_15 : decode cX3_keep 15 = .ok (.iload_n 1, 1) := by decide +kernel
theorem dX3_keep_16 : decode cX3_keep 16 = .ok (.baload, 1) := by decide +kernel
theorem dX3_keep_17 : decode cX3_keep 17 = .ok (.ifCond .eq 7, 3) := by decide +kernel
theorem dX3_keep_20 : decode cX3_keep 20 = .ok (.iconst 1, 1) := by decide +kernel
theorem dX3_keep_21 : decode cX3_keep 21 = .ok (.goto 4, 3) := by decide +kernel
theorem dX3_keep_24 : decode cX3_keep 24 = .ok (.iconst 0, 1) := by decide +kernel
theorem dX3_keep_25 : decode cX3_keep 25 = .ok (.istore_n 2, 1) := by decide +kernel
theorem dX3_keep_26 : decode cX3_keep 26 = .ok (.aload_n 0, 1) := by decide +kernel
theorem dX3_keep_27 : decode cX3_keep 27 = .ok (.getfield 22, 3) := by decide +kernel
theorem dX3_keep_30 : decode cX3_keep 30 = .ok (.iload_n 1, 1) := by decide +kernel
theorem dX3_keep_31 : decode cX3_keep 31 = .ok (.aaload, 1) := by decide +kernel
theorem dX3_keep_32 : decode cX3_keep 32 = .ok (.aload_n 0, 1) := by decide +kernel
theorem dX3_keep_33 : decode cX3_keep 33 = .ok (.getfield 10, 3) := by decide +kernel
theorem dX3_keep_36 : decode cX3_keep 36 = .ok (.invokevirtual 85, 3) := by decide +kernel
theorem dX3_keep_39 : decode cX3_keep 39 = .ok (.aload_n 0, 1) := by decide +kernel
theorem dX3_keep_40 : decode cX3_keep 40 = .ok (.getfield 26, 3) := by decide +kernel
theorem dX3_keep_43 : decode cX3_keep 43 = .ok (.iload_n 1, 1) := by decide +kernel
theorem dX3_keep_44 : decode cX3_keep 44 = .ok (.iconst 1, 1) := by decide +kernel
theorem dX3_keep_45 : decode cX3_keep 45 = .ok (.bastore, 1) := by decide +kernel
theorem dX3_keep_46 : decode cX3_keep 46 = .ok (.iload_n 2, 1) := by decide +kernel
theorem dX3_keep_47 : decode cX3_keep 47 = .ok (.ireturn, 1) := by decide +kernel
theorem dX3_back_0 : decode cX3_back 0 = .ok (.iload_n 1, 1) := by decide +kernel
theorem dX3_back_1 : decode cX3_back 1 = .ok (.iconst 0, 1) := by decide +kernel
theorem dX3_back_2 : decode cX3_back 2 = .ok (.iconst 1, 1) := by decide +kernel
theorem dX3_back_3 : decode cX3_back 3 = .ok (.invokestatic 67, 3) := by decide +kernel
theorem dX3_back_6 : decode cX3_back 6 = .ok (.ifCond .ne 5, 3) := by decide +kernel
theorem dX3_back_9 : decode cX3_back 9 = .ok (.iconst (-1), 1) := by decide +kernel
theorem dX3_back_10 : decode cX3_back 10 = .ok (.ireturn, 1) := by decide +kernel
theorem dX3_back_11 : decode cX3_back 11 = .ok (.aload_n 0, 1) := by decide +kernel
theorem dX3_back_12 : decode cX3_back 12 = .ok (.getfield 26, 3) := by decide +kernel
theorem dX3_back_15 : decode cX3_back 15 = .ok (.iload_n 1, 1) := by decide +kernel
theorem dX3_back_16 : decode cX3_back 16 = .ok (.baload, 1) := by decide +kernel
theorem dX3_back_17 : decode cX3_back 17 = .ok (.ifCond .ne 6, 3) := by decide +kernel
theorem dX3_back_20 : decode cX3_back 20 = .ok (.bipush (-2), 2) := by decide +kernel
theorem dX3_back_22 : decode cX3_back 22 = .ok (.ireturn, 1) := by decide +kernel
theorem dX3_back_23 : decode cX3_back 23 = .ok (.aload_n 0, 1) := by decide +kernel
theorem dX3_back_24 : decode cX3_back 24 = .ok (.getfield 10, 3) := by decide +kernel
theorem dX3_back_27 : decode cX3_back 27 = .ok (.aload_n 0, 1) := by decide +kernel
theorem dX3_back_28 : decode cX3_back 28 = .ok (.getfield 22, 3) := by decide +kernel
theorem dX3_back_31 : decode cX3_back 31 = .ok (.iload_n 1, 1) := by decide +kernel
theorem dX3_back_32 : decode cX3_back 32 = .ok (.aaload, 1) := by decide +kernel
theorem dX3_back_33 : decode cX3_back 33 = .ok (.invokevirtual 85, 3) := by decide +kernel
theorem dX3_back_36 : decode cX3_back 36 = .ok (.aload_n 0, 1) := by decide +kernel
theorem dX3_back_37 : decode cX3_back 37 = .ok (.getfield 10, 3) := by decide +kernel
theorem dX3_back_40 : decode cX3_back 40 = .ok (.getfield 95, 3) := by decide +kernel
theorem dX3_back_43 : decode cX3_back 43 = .ok (.ireturn, 1) := by decide +kernel
theorem dX3_sheet_0 : decode cX3_sheet 0 = .ok (.iload_n 1, 1) := by decide +kernel
theorem dX3_sheet_1 : decode cX3_sheet 1 = .ok (.iconst 0, 1) := by decide +kernel
theorem dX3_sheet_2 : decode cX3_sheet 2 = .ok (.iconst 3, 1) := by decide +kernel
theorem dX3_sheet_3 : decode cX3_sheet 3 = .ok (.invokestatic 67, 3) := by decide +kernel
theorem dX3_sheet_6 : decode cX3_sheet 6 = .ok (.ifCond .eq 18, 3) := by decide +kernel
theorem dX3_sheet_9 : decode cX3_sheet 9 = .ok (.iload_n 2, 1) := by decide +kernel
theorem dX3_sheet_10 : decode cX3_sheet 10 = .ok (.iconst 0, 1) := by decide +kernel
theorem dX3_sheet_11 : decode cX3_sheet 11 = .ok (.iconst 2, 1) := by decide +kernel
theorem dX3_sheet_12 : decode cX3_sheet 12 = .ok (.invokestatic 67, 3) := by decide +kernel
theorem dX3_sheet_15 : decode cX3_sheet 15 = .ok (.ifCond .eq 9, 3) := by decide +kernel
theorem dX3_sheet_18 : decode cX3_sheet 18 = .ok (.iload_n 3, 1) := by decide +kernel
theorem dX3_sheet_19 : decode cX3_sheet 19 = .ok (.bipush 40, 2) := by decide +kernel
theorem dX3_sheet_21 : decode cX3_sheet 21 = .ok (.if_icmp .le 5, 3) := by decide +kernel
theorem dX3_sheet_24 : decode cX3_sheet 24 = .ok (.iconst (-1), 1) := by decide +kernel
theorem dX3_sheet_25 : decode cX3_sheet 25 = .ok (.ireturn, 1) := by decide +kernel
theorem dX3_sheet_26 : decode cX3_sheet 26 = .ok (.iload_n 3, 1) := by decide +kernel
theorem dX3_sheet_27 : decode cX3_sheet 27 = .ok (.ifCond .ge 6, 3) := by decide +kernel
theorem dX3_sheet_30 : decode cX3_sheet 30 = .ok (.bipush (-14), 2) := by decide +kernel
theorem dX3_sheet_32 : decode cX3_sheet 32 = .ok (.ireturn, 1) := by decide +kernel
theorem dX3_sheet_33 : decode cX3_sheet 33 = .ok (.aload_n 0, 1) := by decide +kernel
theorem dX3_sheet_34 : decode cX3_sheet 34 = .ok (.getfield 39, 3) := by decide +kernel
theorem dX3_sheet_37 : decode cX3_sheet 37 = .ok (.iload_n 1, 1) := by decide +kernel
theorem dX3_sheet_38 : decode cX3_sheet 38 = .ok (.aaload, 1) := by decide +kernel
theorem dX3_sheet_39 : decode cX3_sheet 39 = .ok (.iload_n 2, 1) := by decide +kernel
theorem dX3_sheet_40 : decode cX3_sheet 40 = .ok (.iload_n 3, 1) := by decide +kernel
theorem dX3_sheet_41 : decode cX3_sheet 41 = .ok (.invokevirtual 242, 3) := by decide +kernel
theorem dX3_sheet_44 : decode cX3_sheet 44 = .ok (.iconst 1, 1) := by decide +kernel
theorem dX3_sheet_45 : decode cX3_sheet 45 = .ok (.ireturn, 1) := by decide +kernel
theorem dX3_lay_0 : decode cX3_lay 0 = .ok (.iload_n 1, 1) := by decide +kernel
theorem dX3_lay_1 : decode cX3_lay 1 = .ok (.iconst 0, 1) := by decide +kernel
theorem dX3_lay_2 : decode cX3_lay 2 = .ok (.iconst 3, 1) := by decide +kernel
theorem dX3_lay_3 : decode cX3_lay 3 = .ok (.invokestatic 67, 3) := by decide +kernel
theorem dX3_lay_6 : decode cX3_lay 6 = .ok (.ifCond .ne 5, 3) := by decide +kernel
theorem dX3_lay_9 : decode cX3_lay 9 = .ok (.iconst (-1), 1) := by decide +kernel
theorem dX3_lay_10 : decode cX3_lay 10 = .ok (.ireturn, 1) := by decide +kernel
theorem dX3_lay_11 : decode cX3_lay 11 = .ok (.aload_n 0, 1) := by decide +kernel
theorem dX3_lay_12 : decode cX3_lay 12 = .ok (.getfield 39, 3) := by decide +kernel
theorem dX3_lay_15 : decode cX3_lay 15 = .ok (.iload_n 1, 1) := by decide +kernel
theorem dX3_lay_16 : decode cX3_lay 16 = .ok (.aaload, 1) := by decide +kernel
theorem dX3_lay_17 : decode cX3_lay 17 = .ok (.astore 4, 2) := by decide +kernel
theorem dX3_lay_19 : decode cX3_lay 19 = .ok (.aload 4, 2) := by decide +kernel
theorem dX3_lay_21 : decode cX3_lay 21 = .ok (.aload 4, 2) := by decide +kernel
theorem dX3_lay_23 : decode cX3_lay 23 = .ok (.getfield 245, 3) := by decide +kernel
