theorem dX3_readAct_22 : decode cX3_readAct 22 = .ok (.getfield 27, 3) := by decide +kernel
theorem dX3_readAct_25 : decode cX3_readAct 25 = .ok (.invokevirtual 81, 3) := by decide +kernel
theorem dX3_readAct_28 : decode cX3_readAct 28 = .ok (.iconst 0, 1) := by decide +kernel
theorem dX3_readAct_29 : decode cX3_readAct 29 = .ok (.ireturn, 1) := by decide +kernel
theorem dX3_readAct_30 : decode cX3_readAct 30 = .ok (.aload_n 1, 1) := by decide +kernel
theorem dX3_readAct_31 : decode cX3_readAct 31 = .ok (.getfield 100, 3) := by decide +kernel
theorem dX3_readAct_34 : decode cX3_readAct 34 = .ok (.iload_n 2, 1) := by decide +kernel
theorem dX3_readAct_35 : decode cX3_readAct 35 = .ok (.aload_n 0, 1) := by decide +kernel
theorem dX3_readAct_36 : decode cX3_readAct 36 = .ok (.getfield 30, 3) := by decide +kernel
theorem dX3_readAct_39 : decode cX3_readAct 39 = .ok (.iastore, 1) := by decide +kernel
theorem dX3_readAct_40 : decode cX3_readAct 40 = .ok (.aload_n 0, 1) := by decide +kernel
theorem dX3_readAct_41 : decode cX3_readAct 41 = .ok (.bipush 8, 2) := by decide +kernel
theorem dX3_readAct_43 : decode cX3_readAct 43 = .ok (.invokevirtual 62, 3) := by decide +kernel
theorem dX3_readAct_46 : decode cX3_readAct 46 = .ok (.ifCond .ne 5, 3) := by decide +kernel
theorem dX3_readAct_49 : decode cX3_readAct 49 = .ok (.iconst 0, 1) := by decide +kernel
theorem dX3_readAct_50 : decode cX3_readAct 50 = .ok (.ireturn, 1) := by decide +kernel
theorem dX3_readAct_51 : decode cX3_readAct 51 = .ok (.aload_n 1, 1) := by decide +kernel
theorem dX3_readAct_52 : decode cX3_readAct 52 = .ok (.getfield 103, 3) := by decide +kernel
theorem dX3_readAct_55 : decode cX3_readAct 55 = .ok (.iload_n 2, 1) := by decide +kernel
theorem dX3_readAct_56 : decode cX3_readAct 56 = .ok (.aload_n 0, 1) := by decide +kernel
theorem dX3_readAct_57 : decode cX3_readAct 57 = .ok (.getfield 30, 3) := by decide +kernel
theorem dX3_readAct_60 : decode cX3_readAct 60 = .ok (.iastore, 1) := by decide +kernel
theorem dX3_readAct_61 : decode cX3_readAct 61 = .ok (.aload_n 0, 1) := by decide +kernel
theorem dX3_readAct_62 : decode cX3_readAct 62 = .ok (.iconst 2, 1) := by decide +kernel
theorem dX3_readAct_63 : decode cX3_readAct 63 = .ok (.invokevirtual 62, 3) := by decide +kernel
theorem dX3_readAct_66 : decode cX3_readAct 66 = .ok (.ifCond .ne 5, 3) := by decide +kernel
theorem dX3_readAct_69 : decode cX3_readAct 69 = .ok (.iconst 0, 1) := by decide +kernel
theorem dX3_readAct_70 : decode cX3_readAct 70 = .ok (.ireturn, 1) := by decide +kernel
theorem dX3_readAct_71 : decode cX3_readAct 71 = .ok (.aload_n 1, 1) := by decide +kernel
theorem dX3_readAct_72 : decode cX3_readAct 72 = .ok (.getfield 106, 3) := by decide +kernel
theorem dX3_readAct_75 : decode cX3_readAct 75 = .ok (.iload_n 2, 1) := by decide +kernel
theorem dX3_readAct_76 : decode cX3_readAct 76 = .ok (.aload_n 0, 1) := by decide +kernel
theorem dX3_readAct_77 : decode cX3_readAct 77 = .ok (.getfield 30, 3) := by decide +kernel
theorem dX3_readAct_80 : decode cX3_readAct 80 = .ok (.iastore, 1) := by decide +kernel
theorem dX3_readAct_81 : decode cX3_readAct 81 = .ok (.aload_n 0, 1) := by decide +kernel
theorem dX3_readAct_82 : decode cX3_readAct 82 = .ok (.getfield 42, 3) := by decide +kernel
theorem dX3_readAct_85 : decode cX3_readAct 85 = .ok (.bipush 8, 2) := by decide +kernel
theorem dX3_readAct_87 : decode cX3_readAct 87 = .ok (.if_icmp .ge 39, 3) := by decide +kernel
theorem dX3_readAct_90 : decode cX3_readAct 90 = .ok (.aload_n 0, 1) := by decide +kernel
theorem dX3_readAct_91 : decode cX3_readAct 91 = .ok (.getfield 35, 3) := by decide +kernel
theorem dX3_readAct_94 : decode cX3_readAct 94 = .ok (.aload_n 0, 1) := by decide +kernel
theorem dX3_readAct_95 : decode cX3_readAct 95 = .ok (.getfield 42, 3) := by decide +kernel
theorem dX3_readAct_98 : decode cX3_readAct 98 = .ok (.aload_n 0, 1) := by decide +kernel
theorem dX3_readAct_99 : decode cX3_readAct 99 = .ok (.getfield 30, 3) := by decide +kernel
theorem dX3_readAct_102 : decode cX3_readAct 102 = .ok (.iastore, 1) := by decide +kernel
theorem dX3_readAct_103 : decode cX3_readAct 103 = .ok (.aload_n 0, 1) := by decide +kernel
theorem dX3_readAct_104 : decode cX3_readAct 104 = .ok (.getfield 39, 3) := by decide +kernel
theorem dX3_readAct_107 : decode cX3_readAct 107 = .ok (.aload_n 0, 1) := by decide +kernel
theorem dX3_readAct_108 : decode cX3_readAct 108 = .ok (.getfield 42, 3) := by decide +kernel
theorem dX3_readAct_111 : decode cX3_readAct 111 = .ok (.aload_n 0, 1) := by decide +kernel
theorem dX3_readAct_112 : decode cX3_readAct 112 = .ok (.getfield 27, 3) := by decide +kernel
theorem dX3_readAct_115 : decode cX3_readAct 115 = .ok (.iastore, 1) := by decide +kernel
theorem dX3_readAct_116 : decode cX3_readAct 116 = .ok (.aload_n 0, 1) := by decide +kernel
theorem dX3_readAct_117 : decode cX3_readAct 117 = .ok (.dup, 1) := by decide +kernel
theorem dX3_readAct_118 : decode cX3_readAct 118 = .ok (.getfield 42, 3) := by decide +kernel
theorem dX3_readAct_121 : decode cX3_readAct 121 = .ok (.iconst 1, 1) := by decide +kernel
theorem dX3_readAct_122 : decode cX3_readAct 122 = .ok (.iadd, 1) := by decide +kernel
theorem dX3_readAct_123 : decode cX3_readAct 123 = .ok (.putfield 42, 3) := by decide +kernel
theorem dX3_readAct_126 : decode cX3_readAct 126 = .ok (.iconst 1, 1) := by decide +kernel
theorem dX3_readAct_127 : decode cX3_readAct 127 = .ok (.ireturn, 1) := by decide +kernel
theorem dX3_findNotTold_0 : decode cX3_findNotTold 0 = .ok (.iconst 0, 1) := by decide +kernel
theorem dX3_findNotTold_1 : decode cX3_findNotTold 1 = .ok (.istore_n 2, 1) := by decide +kernel
theorem dX3_findNotTold_2 : decode cX3_findNotTold 2 = .ok (.iload_n 2, 1) := by decide +kernel
theorem dX3_findNotTold_3 : decode cX3_findNotTold 3 = .ok (.aload_n 0, 1) := by decide +kernel
theorem dX3_findNotTold_4 : decode cX3_findNotTold 4 = .ok (.getfield 42, 3) := by decide +kernel
theorem dX3_findNotTold_7 : decode cX3_findNotTold 7 = .ok (.if_icmp .ge 37, 3) := by decide +kernel
theorem dX3_findNotTold_10 : decode cX3_findNotTold 10 = .ok (.aload_n 1, 1) := by decide +kernel
theorem dX3_findNotTold_11 : decode cX3_findNotTold 11 = .ok (.getfield 74, 3) := by decide +kernel
theorem dX3_findNotTold_14 : decode cX3_findNotTold 14 = .ok (.aload_n 0, 1) := by decide +kernel
theorem dX3_findNotTold_15 : decode cX3_findNotTold 15 = .ok (.getfield 35, 3) := by decide +kernel
theorem dX3_findNotTold_18 : decode cX3_findNotTold 18 = .ok (.iload_n 2, 1) := by decide +kernel
theorem dX3_findNotTold_19 : decode cX3_findNotTold 19 = .ok (.iaload, 1) := by decide +kernel
theorem dX3_findNotTold_20 : decode cX3_findNotTold 20 = .ok (.invokestatic 77, 3) := by decide +kernel
theorem dX3_findNotTold_23 : decode cX3_findNotTold 23 = .ok (.ifCond .ne 15, 3) := by decide +kernel
theorem dX3_findNotTold_26 : decode cX3_findNotTold 26 = .ok (.aload_n 0, 1) := by decide +kernel
theorem dX3_findNotTold_27 : decode cX3_findNotTold 27 = .ok (.iconst 4, 1) := by decide +kernel
theorem dX3_findNotTold_28 : decode cX3_findNotTold 28 = .ok (.aload_n 0, 1) := by decide +kernel
theorem dX3_findNotTold_29 : decode cX3_findNotTold 29 = .ok (.getfield 39, 3) := by decide +kernel
theorem dX3_findNotTold_32 : decode cX3_findNotTold 32 = .ok (.iload_n 2, 1) := by decide +kernel
theorem dX3_findNotTold_33 : decode cX3_findNotTold 33 = .ok (.iaload, 1) := by decide +kernel
theorem dX3_findNotTold_34 : decode cX3_findNotTold 34 = .ok (.invokevirtual 81, 3) := by decide +kernel
theorem dX3_findNotTold_37 : decode cX3_findNotTold 37 = .ok (.return_, 1) := by decide +kernel
theorem dX3_findNotTold_38 : decode cX3_findNotTold 38 = .ok (.iinc 2 1, 3) := by decide +kernel
theorem dX3_findNotTold_41 : decode cX3_findNotTold 41 = .ok (.goto (-39), 3) := by decide +kernel
theorem dX3_findNotTold_44 : decode cX3_findNotTold 44 = .ok (.return_, 1) := by decide +kernel
theorem dX3_fail_0 : decode cX3_fail 0 = .ok (.aload_n 0, 1) := by decide +kernel
theorem dX3_fail_1 : decode cX3_fail 1 = .ok (.iload_n 1, 1) := by decide +kernel
theorem dX3_fail_2 : decode cX3_fail 2 = .ok (.putfield 11, 3) := by decide +kernel
theorem dX3_fail_5 : decode cX3_fail 5 = .ok (.aload_n 0, 1) := by decide +kernel
theorem dX3_fail_6 : decode cX3_fail 6 = .ok (.iload_n 2, 1) := by decide +kernel
theorem dX3_fail_7 : decode cX3_fail 7 = .ok (.putfield 15, 3) := by decide +kernel
theorem dX3_fail_10 : decode cX3_fail 10 = .ok (.return_, 1) := by decide +kernel
theorem dX3_takes_0 : decode cX3_takes 0 = .ok (.aload_n 0, 1) := by decide +kernel
theorem dX3_takes_1 : decode cX3_takes 1 = .ok (.getfield 21, 3) := by decide +kernel
theorem dX3_takes_4 : decode cX3_takes 4 = .ok (.aload_n 0, 1) := by decide +kernel
theorem dX3_takes_5 : decode cX3_takes 5 = .ok (.getfield 18, 3) := by decide +kernel
theorem dX3_takes_8 : decode cX3_takes 8 = .ok (.if_icmp .ge 31, 3) := by decide +kernel
theorem dX3_takes_11 : decode cX3_takes 11 = .ok (.aload_n 0, 1) := by decide +kernel
theorem dX3_takes_12 : decode cX3_takes 12 = .ok (.getfield 50, 3) := by decide +kernel
theorem dX3_takes_15 : decode cX3_takes 15 = .ok (.aload_n 0, 1) := by decide +kernel
theorem dX3_takes_16 : decode cX3_takes 16 = .ok (.getfield 21, 3) := by decide +kernel
theorem dX3_takes_19 : decode cX3_takes 19 = .ok (.iaload, 1) := by decide +kernel
theorem dX3_takes_20 : decode cX3_takes 20 = .ok (.invokestatic 109, 3) := by decide +kernel
theorem dX3_takes_23 : decode cX3_takes 23 = .ok (.ifCond .eq 16, 3) := by decide +kernel
theorem dX3_takes_26 : decode cX3_takes 26 = .ok (.aload_n 0, 1) := by decide +kernel
theorem dX3_takes_27 : decode cX3_takes 27 = .ok (.dup, 1) := by decide +kernel
theorem dX3_takes_28 : decode cX3_takes 28 = .ok (.getfield 21, 3) := by decide +kernel
theorem dX3_takes_31 : decode cX3_takes 31 = .ok (.iconst 1, 1) := by decide +kernel
theorem dX3_takes_32 : decode cX3_takes 32 = .ok (.iadd, 1) := by decide +kernel
theorem dX3_takes_33 : decode cX3_takes 33 = .ok (.putfield 21, 3) := by decide +kernel
theorem dX3_takes_36 : decode cX3_takes 36 = .ok (.goto (-36), 3) := by decide +kernel
theorem dX3_takes_39 : decode cX3_takes 39 = .ok (.aload_n 0, 1) := by decide +kernel
theorem dX3_takes_40 : decode cX3_takes 40 = .ok (.aload_n 0, 1) := by decide +kernel
theorem dX3_takes_41 : decode cX3_takes 41 = .ok (.getfield 21, 3) := by decide +kernel
theorem dX3_takes_44 : decode cX3_takes 44 = .ok (.putfield 27, 3) := by decide +kernel
theorem dX3_takes_47 : decode cX3_takes 47 = .ok (.aload_n 0, 1) := by decide +kernel
theorem dX3_takes_48 : decode cX3_takes 48 = .ok (.getfield 21, 3) := by decide +kernel
theorem dX3_takes_51 : decode cX3_takes 51 = .ok (.aload_n 0, 1) := by decide +kernel
theorem dX3_takes_52 : decode cX3_takes 52 = .ok (.getfield 18, 3) := by decide +kernel
theorem dX3_takes_55 : decode cX3_takes 55 = .ok (.if_icmp .lt 11, 3) := by decide +kernel
theorem dX3_takes_58 : decode cX3_takes 58 = .ok (.aload_n 0, 1) := by decide +kernel
theorem dX3_takes_59 : decode cX3_takes 59 = .ok (.iconst 1, 1) := by decide +kernel
theorem dX3_takes_60 : decode cX3_takes 60 = .ok (.putfield 24, 3) := by decide +kernel
theorem dX3_takes_63 : decode cX3_takes 63 = .ok (.goto 73, 3) := by decide +kernel
theorem dX3_takes_66 : decode cX3_takes 66 = .ok (.aload_n 0, 1) := by decide +kernel
theorem dX3_takes_67 : decode cX3_takes 67 = .ok (.getfield 50, 3) := by decide +kernel
theorem dX3_takes_70 : decode cX3_takes 70 = .ok (.aload_n 0, 1) := by decide +kernel
theorem dX3_takes_71 : decode cX3_takes 71 = .ok (.getfield 21, 3) := by decide +kernel
theorem dX3_takes_74 : decode cX3_takes 74 = .ok (.iaload, 1) := by decide +kernel
theorem dX3_takes_75 : decode cX3_takes 75 = .ok (.invokestatic 112, 3) := by decide +kernel
theorem dX3_takes_78 : decode cX3_takes 78 = .ok (.ifCond .eq 10, 3) := by decide +kernel
theorem dX3_takes_81 : decode cX3_takes 81 = .ok (.aload_n 0, 1) := by decide +kernel
theorem dX3_takes_82 : decode cX3_takes 82 = .ok (.invokevirtual 115, 3) := by decide +kernel
theorem dX3_takes_85 : decode cX3_takes 85 = .ok (.goto 51, 3) := by decide +kernel
theorem dX3_takes_88 : decode cX3_takes 88 = .ok (.aload_n 0, 1) := by decide +kernel
theorem dX3_takes_89 : decode cX3_takes 89 = .ok (.getfield 50, 3) := by decide +kernel
theorem dX3_takes_92 : decode cX3_takes 92 = .ok (.aload_n 0, 1) := by decide +kernel
theorem dX3_takes_93 : decode cX3_takes 93 = .ok (.getfield 21, 3) := by decide +kernel
theorem dX3_takes_96 : decode cX3_takes 96 = .ok (.iaload, 1) := by decide +kernel
theorem dX3_takes_97 : decode cX3_takes 97 = .ok (.invokestatic 118, 3) := by decide +kernel
theorem dX3_takes_100 : decode cX3_takes 100 = .ok (.ifCond .eq 10, 3) := by decide +kernel
theorem dX3_takes_103 : decode cX3_takes 103 = .ok (.aload_n 0, 1) := by decide +kernel
theorem dX3_takes_104 : decode cX3_takes 104 = .ok (.invokevirtual 121, 3) := by decide +kernel
theorem dX3_takes_107 : decode cX3_takes 107 = .ok (.goto 29, 3) := by decide +kernel
theorem dX3_takes_110 : decode cX3_takes 110 = .ok (.aload_n 0, 1) := by decide +kernel
theorem dX3_takes_111 : decode cX3_takes 111 = .ok (.aload_n 0, 1) := by decide +kernel
theorem dX3_takes_112 : decode cX3_takes 112 = .ok (.getfield 50, 3) := by decide +kernel
theorem dX3_takes_115 : decode cX3_takes 115 = .ok (.aload_n 0, 1) := by decide +kernel
theorem dX3_takes_116 : decode cX3_takes 116 = .ok (.getfield 21, 3) := by decide +kernel
theorem dX3_takes_119 : decode cX3_takes 119 = .ok (.iaload, 1) := by decide +kernel
theorem dX3_takes_120 : decode cX3_takes 120 = .ok (.invokestatic 124, 3) := by decide +kernel
theorem dX3_takes_123 : decode cX3_takes 123 = .ok (.putfield 24, 3) := by decide +kernel
theorem dX3_takes_126 : decode cX3_takes 126 = .ok (.aload_n 0, 1) := by decide +kernel
theorem dX3_takes_127 : decode cX3_takes 127 = .ok (.dup, 1) := by decide +kernel
theorem dX3_takes_128 : decode cX3_takes 128 = .ok (.getfield 21, 3) := by decide +kernel
theorem dX3_takes_131 : decode cX3_takes 131 = .ok (.iconst 1, 1) := by decide +kernel
theorem dX3_takes_132 : decode cX3_takes 132 = .ok (.iadd, 1) := by decide +kernel
theorem dX3_takes_133 : decode cX3_takes 133 = .ok (.putfield 21, 3) := by decide +kernel
theorem dX3_takes_136 : decode cX3_takes 136 = .ok (.aload_n 0, 1) := by decide +kernel
theorem dX3_takes_137 : decode cX3_takes 137 = .ok (.getfield 24, 3) := by decide +kernel
theorem dX3_takes_140 : decode cX3_takes 140 = .ok (.iload_n 1, 1) := by decide +kernel
theorem dX3_takes_141 : decode cX3_takes 141 = .ok (.iand, 1) := by decide +kernel
theorem dX3_takes_142 : decode cX3_takes 142 = .ok (.ifCond .ne 14, 3) := by decide +kernel
theorem dX3_takes_145 : decode cX3_takes 145 = .ok (.aload_n 0, 1) := by decide +kernel
theorem dX3_takes_146 : decode cX3_takes 146 = .ok (.iconst 1, 1) := by decide +kernel
theorem dX3_takes_147 : decode cX3_takes 147 = .ok (.aload_n 0, 1) := by decide +kernel
theorem dX3_takes_148 : decode cX3_takes 148 = .ok (.getfield 27, 3) := by decide +kernel
theorem dX3_takes_151 : decode cX3_takes 151 = .ok (.invokevirtual 81, 3) := by decide +kernel
theorem dX3_takes_154 : decode cX3_takes 154 = .ok (.iconst 0, 1) := by decide +kernel
theorem dX3_takes_155 : decode cX3_takes 155 = .ok (.ireturn, 1) := by decide +kernel
theorem dX3_takes_156 : decode cX3_takes 156 = .ok (.iconst 1, 1) := by decide +kernel
theorem dX3_takes_157 : decode cX3_takes 157 = .ok (.ireturn, 1) := by decide +kernel
theorem dX3_takeNumber_0 : decode cX3_takeNumber 0 = .ok (.aload_n 0, 1) := by decide +kernel
theorem dX3_takeNumber_1 : decode cX3_takeNumber 1 = .ok (.iconst 4, 1) := by decide +kernel
theorem dX3_takeNumber_2 : decode cX3_takeNumber 2 = .ok (.putfield 24, 3) := by decide +kernel
theorem dX3_takeNumber_5 : decode cX3_takeNumber 5 = .ok (.aload_n 0, 1) := by decide +kernel
theorem dX3_takeNumber_6 : decode cX3_takeNumber 6 = .ok (.iconst 0, 1) := by decide +kernel
theorem dX3_takeNumber_7 : decode cX3_takeNumber 7 = .ok (.putfield 30, 3) := by decide +kernel
theorem dX3_takeNumber_10 : decode cX3_takeNumber 10 = .ok (.aload_n 0, 1) := by decide +kernel
theorem dX3_takeNumber_11 : decode cX3_takeNumber 11 = .ok (.getfield 21, 3) := by decide +kernel
theorem dX3_takeNumber_14 : decode cX3_takeNumber 14 = .ok (.aload_n 0, 1) := by decide +kernel
theorem dX3_takeNumber_15 : decode cX3_takeNumber 15 = .ok (.getfield 18, 3) := by decide +kernel
theorem dX3_takeNumber_18 : decode cX3_takeNumber 18 = .ok (.if_icmp .ge 64, 3) := by decide +kernel
theorem dX3_takeNumber_21 : decode cX3_takeNumber 21 = .ok (.aload_n 0, 1) := by decide +kernel
theorem dX3_takeNumber_22 : decode cX3_takeNumber 22 = .ok (.getfield 50, 3) := by decide +kernel
theorem dX3_takeNumber_25 : decode cX3_takeNumber 25 = .ok (.aload_n 0, 1) := by decide +kernel
theorem dX3_takeNumber_26 : decode cX3_takeNumber 26 = .ok (.getfield 21, 3) := by decide +kernel
theorem dX3_takeNumber_29 : decode cX3_takeNumber 29 = .ok (.iaload, 1) := by decide +kernel
theorem dX3_takeNumber_30 : decode cX3_takeNumber 30 = .ok (.invokestatic 112, 3) := by decide +kernel
theorem dX3_takeNumber_33 : decode cX3_takeNumber 33 = .ok (.ifCond .eq 49, 3) := by decide +kernel
theorem dX3_takeNumber_36 : decode cX3_takeNumber 36 = .ok (.aload_n 0, 1) := by decide +kernel
theorem dX3_takeNumber_37 : decode cX3_takeNumber 37 = .ok (.getfield 30, 3) := by decide +kernel
theorem dX3_takeNumber_40 : decode cX3_takeNumber 40 = .ok (.bipush 9, 2) := by decide +kernel
theorem dX3_takeNumber_42 : decode cX3_takeNumber 42 = .ok (.if_icmp .gt 27, 3) := by decide +kernel
theorem dX3_takeNumber_45 : decode cX3_takeNumber 45 = .ok (.aload_n 0, 1) := by decide +kernel
theorem dX3_takeNumber_46 : decode cX3_takeNumber 46 = .ok (.bipush 10, 2) := by decide +kernel
theorem dX3_takeNumber_48 : decode cX3_takeNumber 48 = .ok (.aload_n 0, 1) := by decide +kernel
theorem dX3_takeNumber_49 : decode cX3_takeNumber 49 = .ok (.getfield 30, 3) := by decide +kernel
theorem dX3_takeNumber_52 : decode cX3_takeNumber 52 = .ok (.imul, 1) := by decide +kernel
theorem dX3_takeNumber_53 : decode cX3_takeNumber 53 = .ok (.aload_n 0, 1) := by decide +kernel
theorem dX3_takeNumber_54 : decode cX3_takeNumber 54 = .ok (.getfield 50, 3) := by decide +kernel
theorem dX3_takeNumber_57 : decode cX3_takeNumber 57 = .ok (.aload_n 0, 1) := by decide +kernel
theorem dX3_takeNumber_58 : decode cX3_takeNumber 58 = .ok (.getfield 21, 3) := by decide +kernel
theorem dX3_takeNumber_61 : decode cX3_takeNumber 61 = .ok (.iaload, 1) := by decide +kernel
theorem dX3_takeNumber_62 : decode cX3_takeNumber 62 = .ok (.iadd, 1) := by decide +kernel
theorem dX3_takeNumber_63 : decode cX3_takeNumber 63 = .ok (.bipush 48, 2) := by decide +kernel
theorem dX3_takeNumber_65 : decode cX3_takeNumber 65 = .ok (.isub, 1) := by decide +kernel
theorem dX3_takeNumber_66 : decode cX3_takeNumber 66 = .ok (.putfield 30, 3) := by decide +kernel
theorem dX3_takeNumber_69 : decode cX3_takeNumber 69 = .ok (.aload_n 0, 1) := by decide +kernel
theorem dX3_takeNumber_70 : decode cX3_takeNumber 70 = .ok (.dup, 1) := by decide +kernel
theorem dX3_takeNumber_71 : decode cX3_takeNumber 71 = .ok (.getfield 21, 3) := by decide +kernel
theorem dX3_takeNumber_74 : decode cX3_takeNumber 74 = .ok (.iconst 1, 1) := by decide +kernel
theorem dX3_takeNumber_75 : decode cX3_takeNumber 75 = .ok (.iadd, 1) := by decide +kernel
theorem dX3_takeNumber_76 : decode cX3_takeNumber 76 = .ok (.putfield 21, 3) := by decide +kernel
theorem dX3_takeNumber_79 : decode cX3_takeNumber 79 = .ok (.goto (-69), 3) := by decide +kernel
theorem dX3_takeNumber_82 : decode cX3_takeNumber 82 = .ok (.return_, 1) := by decide +kernel
theorem dX3_takeLetters_0 : decode cX3_takeLetters 0 = .ok (.iconst 0, 1) := by decide +kernel
theorem dX3_takeLetters_1 : decode cX3_takeLetters 1 = .ok (.istore_n 1, 1) := by decide +kernel
theorem dX3_takeLetters_2 : decode cX3_takeLetters 2 = .ok (.aload_n 0, 1) := by decide +kernel
theorem dX3_takeLetters_3 : decode cX3_takeLetters 3 = .ok (.getfield 21, 3) := by decide +kernel
theorem dX3_takeLetters_6 : decode cX3_takeLetters 6 = .ok (.aload_n 0, 1) := by decide +kernel
theorem dX3_takeLetters_7 : decode cX3_takeLetters 7 = .ok (.getfield 18, 3) := by decide +kernel
theorem dX3_takeLetters_10 : decode cX3_takeLetters 10 = .ok (.if_icmp .ge 46, 3) := by decide +kernel
theorem dX3_takeLetters_13 : decode cX3_takeLetters 13 = .ok (.aload_n 0, 1) := by decide +kernel
theorem dX3_takeLetters_14 : decode cX3_takeLetters 14 = .ok (.getfield 50, 3) := by decide +kernel
theorem dX3_takeLetters_17 : decode cX3_takeLetters 17 = .ok (.aload_n 0, 1) := by decide +kernel
theorem dX3_takeLetters_18 : decode cX3_takeLetters 18 = .ok (.getfield 21, 3) := by decide +kernel
theorem dX3_takeLetters_21 : decode cX3_takeLetters 21 = .ok (.iaload, 1) := by decide +kernel
theorem dX3_takeLetters_22 : decode cX3_takeLetters 22 = .ok (.invokestatic 118, 3) := by decide +kernel
theorem dX3_takeLetters_25 : decode cX3_takeLetters 25 = .ok (.ifCond .eq 31, 3) := by decide +kernel
theorem dX3_takeLetters_28 : decode cX3_takeLetters 28 = .ok (.iload_n 1, 1) := by decide +kernel
theorem dX3_takeLetters_29 : decode cX3_takeLetters 29 = .ok (.bipush 8, 2) := by decide +kernel
theorem dX3_takeLetters_31 : decode cX3_takeLetters 31 = .ok (.ishl, 1) := by decide +kernel
theorem dX3_takeLetters_32 : decode cX3_takeLetters 32 = .ok (.aload_n 0, 1) := by decide +kernel
theorem dX3_takeLetters_33 : decode cX3_takeLetters 33 = .ok (.getfield 50, 3) := by decide +kernel
theorem dX3_takeLetters_36 : decode cX3_takeLetters 36 = .ok (.aload_n 0, 1) := by decide +kernel
theorem dX3_takeLetters_37 : decode cX3_takeLetters 37 = .ok (.getfield 21, 3) := by decide +kernel
theorem dX3_takeLetters_40 : decode cX3_takeLetters 40 = .ok (.iaload, 1) := by decide +kernel
theorem dX3_takeLetters_41 : decode cX3_takeLetters 41 = .ok (.ior, 1) := by decide +kernel
theorem dX3_takeLetters_42 : decode cX3_takeLetters 42 = .ok (.istore_n 1, 1) := by decide +kernel
theorem dX3_takeLetters_43 : decode cX3_takeLetters 43 = .ok (.aload_n 0, 1) := by decide +kernel
theorem dX3_takeLetters_44 : decode cX3_takeLetters 44 = .ok (.dup, 1) := by decide +kernel
theorem dX3_takeLetters_45 : decode cX3_takeLetters 45 = .ok (.getfield 21, 3) := by decide +kernel
theorem dX3_takeLetters_48 : decode cX3_takeLetters 48 = .ok (.iconst 1, 1) := by decide +kernel
theorem dX3_takeLetters_49 : decode cX3_takeLetters 49 = .ok (.iadd, 1) := by decide +kernel
theorem dX3_takeLetters_50 : decode cX3_takeLetters 50 = .ok (.putfield 21, 3) := by decide +kernel
theorem dX3_takeLetters_53 : decode cX3_takeLetters 53 = .ok (.goto (-51), 3) := by decide +kernel
theorem dX3_takeLetters_56 : decode cX3_takeLetters 56 = .ok (.aload_n 0, 1) := by decide +kernel
theorem dX3_takeLetters_57 : decode cX3_takeLetters 57 = .ok (.getfield 21, 3) := by decide +kernel
theorem dX3_takeLetters_60 : decode cX3_takeLetters 60 = .ok (.aload_n 0, 1) := by decide +kernel
theorem dX3_takeLetters_61 : decode cX3_takeLetters 61 = .ok (.getfield 27, 3) := by decide +kernel
theorem dX3_takeLetters_64 : decode cX3_takeLetters 64 = .ok (.isub, 1) := by decide +kernel
theorem dX3_takeLetters_65 : decode cX3_takeLetters 65 = .ok (.istore_n 2, 1) := by decide +kernel
theorem dX3_takeLetters_66 : decode cX3_takeLetters 66 = .ok (.aload_n 0, 1) := by decide +kernel
theorem dX3_takeLetters_67 : decode cX3_takeLetters 67 = .ok (.iconst 0, 1) := by decide +kernel
theorem dX3_takeLetters_68 : decode cX3_takeLetters 68 = .ok (.putfield 24, 3) := by decide +kernel
theorem dX3_takeLetters_71 : decode cX3_takeLetters 71 = .ok (.iload_n 2, 1) := by decide +kernel
theorem dX3_takeLetters_72 : decode cX3_takeLetters 72 = .ok (.iconst 1, 1) := by decide +kernel
theorem dX3_takeLetters_73 : decode cX3_takeLetters 73 = .ok (.if_icmp .ne 27, 3) := by decide +kernel
theorem dX3_takeLetters_76 : decode cX3_takeLetters 76 = .ok (.iload_n 1, 1) := by decide +kernel
theorem dX3_takeLetters_77 : decode cX3_takeLetters 77 = .ok (.bipush 97, 2) := by decide +kernel
theorem dX3_takeLetters_79 : decode cX3_takeLetters 79 = .ok (.isub, 1) := by decide +kernel
theorem dX3_takeLetters_80 : decode cX3_takeLetters 80 = .ok (.iconst 4, 1) := by decide +kernel
theorem dX3_takeLetters_81 : decode cX3_takeLetters 81 = .ok (.if_icmp .ge 19, 3) := by decide +kernel
theorem dX3_takeLetters_84 : decode cX3_takeLetters 84 = .ok (.aload_n 0, 1) := by decide +kernel
theorem dX3_takeLetters_85 : decode cX3_takeLetters 85 = .ok (.iconst 2, 1) := by decide +kernel
theorem dX3_takeLetters_86 : decode cX3_takeLetters 86 = .ok (.putfield 24, 3) := by decide +kernel
theorem dX3_takeLetters_89 : decode cX3_takeLetters 89 = .ok (.aload_n 0, 1) := by decide +kernel
theorem dX3_takeLetters_90 : decode cX3_takeLetters 90 = .ok (.iload_n 1, 1) := by decide +kernel
theorem dX3_takeLetters_91 : decode cX3_takeLetters 91 = .ok (.bipush 97, 2) := by decide +kernel
theorem dX3_takeLetters_93 : decode cX3_takeLetters 93 = .ok (.isub, 1) := by decide +kernel
theorem dX3_takeLetters_94 : decode cX3_takeLetters 94 = .ok (.putfield 30, 3) := by decide +kernel
theorem dX3_takeLetters_97 : decode cX3_takeLetters 97 = .ok (.goto 13, 3) := by decide +kernel
theorem dX3_takeLetters_100 : decode cX3_takeLetters 100 = .ok (.iload_n 2, 1) := by decide +kernel
theorem dX3_takeLetters_101 : decode cX3_takeLetters 101 = .ok (.iconst 4, 1) := by decide +kernel
theorem dX3_takeLetters_102 : decode cX3_takeLetters 102 = .ok (.if_icmp .ne 8, 3) := by decide +kernel
theorem dX3_takeLetters_105 : decode cX3_takeLetters 105 = .ok (.aload_n 0, 1) := by decide +kernel
theorem dX3_takeLetters_106 : decode cX3_takeLetters 106 = .ok (.iload_n 1, 1) := by decide +kernel
theorem dX3_takeLetters_107 : decode cX3_takeLetters 107 = .ok (.invokevirtual 128, 3) := by decide +kernel
theorem dX3_takeLetters_110 : decode cX3_takeLetters 110 = .ok (.return_, 1) := by decide +kernel
theorem dX3_takeDeed_0 : decode cX3_takeDeed 0 = .ok (.aload_n 0, 1) := by decide +kernel
theorem dX3_takeDeed_1 : decode cX3_takeDeed 1 = .ok (.bipush 8, 2) := by decide +kernel
theorem dX3_takeDeed_3 : decode cX3_takeDeed 3 = .ok (.putfield 24, 3) := by decide +kernel
theorem dX3_takeDeed_6 : decode cX3_takeDeed 6 = .ok (.iload_n 1, 1) := by decide +kernel
theorem dX3_takeDeed_7 : decode cX3_takeDeed 7 = .ok (.lookupswitch 57 #[(1685221232, 49), (1937006969, 33), (1952541541, 41)], 33) := by decide +kernel
theorem dX3_takeDeed_40 : decode cX3_takeDeed 40 = .ok (.aload_n 0, 1) := by decide +kernel
theorem dX3_takeDeed_41 : decode cX3_takeDeed 41 = .ok (.iconst 0, 1) := by decide +kernel
theorem dX3_takeDeed_42 : decode cX3_takeDeed 42 = .ok (.putfield 30, 3) := by decide +kernel
theorem dX3_takeDeed_45 : decode cX3_takeDeed 45 = .ok (.goto 24, 3) := by decide +kernel
theorem dX3_takeDeed_48 : decode cX3_takeDeed 48 = .ok (.aload_n 0, 1) := by decide +kernel
theorem dX3_takeDeed_49 : decode cX3_takeDeed 49 = .ok (.iconst 1, 1) := by decide +kernel
theorem dX3_takeDeed_50 : decode cX3_takeDeed 50 = .ok (.putfield 30, 3) := by decide +kernel
theorem dX3_takeDeed_53 : decode cX3_takeDeed 53 = .ok (.goto 16, 3) := by decide +kernel
theorem dX3_takeDeed_56 : decode cX3_takeDeed 56 = .ok (.aload_n 0, 1) := by decide +kernel
theorem dX3_takeDeed_57 : decode cX3_takeDeed 57 = .ok (.iconst 2, 1) := by decide +kernel
theorem dX3_takeDeed_58 : decode cX3_takeDeed 58 = .ok (.putfield 30, 3) := by decide +kernel
theorem dX3_takeDeed_61 : decode cX3_takeDeed 61 = .ok (.goto 8, 3) := by decide +kernel
theorem dX3_takeDeed_64 : decode cX3_takeDeed 64 = .ok (.aload_n 0, 1) := by decide +kernel
theorem dX3_takeDeed_65 : decode cX3_takeDeed 65 = .ok (.iconst 0, 1) := by decide +kernel
theorem dX3_takeDeed_66 : decode cX3_takeDeed 66 = .ok (.putfield 24, 3) := by decide +kernel
theorem dX3_takeDeed_69 : decode cX3_takeDeed 69 = .ok (.return_, 1) := by decide +kernel
theorem dX3_signOf_0 : decode cX3_signOf 0 = .ok (.iload_n 0, 1) := by decide +kernel
theorem dX3_signOf_1 : decode cX3_signOf 1 = .ok (.lookupswitch 44 #[(58, 35), (59, 41), (124, 38)], 35) := by decide +kernel
theorem dX3_signOf_36 : decode cX3_signOf 36 = .ok (.bipush 16, 2) := by decide +kernel
theorem dX3_signOf_38 : decode cX3_signOf 38 = .ok (.ireturn, 1) := by decide +kernel
theorem dX3_signOf_39 : decode cX3_signOf 39 = .ok (.bipush 32, 2) := by decide +kernel
theorem dX3_signOf_41 : decode cX3_signOf 41 = .ok (.ireturn, 1) := by decide +kernel
theorem dX3_signOf_42 : decode cX3_signOf 42 = .ok (.bipush 64, 2) := by decide +kernel
theorem dX3_signOf_44 : decode cX3_signOf 44 = .ok (.ireturn, 1) := by decide +kernel
theorem dX3_signOf_45 : decode cX3_signOf 45 = .ok (.iconst 0, 1) := by decide +kernel
theorem dX3_signOf_46 : decode cX3_signOf 46 = .ok (.ireturn, 1) := by decide +kernel
theorem dX3_isBlank_0 : decode cX3_isBlank 0 = .ok (.iload_n 0, 1) := by decide +kernel
theorem dX3_isBlank_1 : decode cX3_isBlank 1 = .ok (.bipush 10, 2) := by decide +kernel
theorem dX3_isBlank_3 : decode cX3_isBlank 3 = .ok (.if_icmp .eq 9, 3) := by decide +kernel
theorem dX3_isBlank_6 : decode cX3_isBlank 6 = .ok (.iload_n 0, 1) := by decide +kernel
theorem dX3_isBlank_7 : decode cX3_isBlank 7 = .ok (.bipush 32, 2) := by decide +kernel
theorem dX3_isBlank_9 : decode cX3_isBlank 9 = .ok (.if_icmp .ne 7, 3) := by decide +kernel
theorem dX3_isBlank_12 : decode cX3_isBlank 12 = .ok (.iconst 1, 1) := by decide +kernel
theorem dX3_isBlank_13 : decode cX3_isBlank 13 = .ok (.goto 4, 3) := by decide +kernel
theorem dX3_isBlank_16 : decode cX3_isBlank 16 = .ok (.iconst 0, 1) := by decide +kernel
theorem dX3_isBlank_17 : decode cX3_isBlank 17 = .ok (.ireturn, 1) := by decide +kernel
theorem dX3_isDigit_0 : decode cX3_isDigit 0 = .ok (.iload_n 0, 1) := by decide +kernel
theorem dX3_isDigit_1 : decode cX3_isDigit 1 = .ok (.bipush 48, 2) := by decide +kernel
theorem dX3_isDigit_3 : decode cX3_isDigit 3 = .ok (.if_icmp .lt 13, 3) := by decide +kernel
theorem dX3_isDigit_6 : decode cX3_isDigit 6 = .ok (.iload_n 0, 1) := by decide +kernel
theorem dX3_isDigit_7 : decode cX3_isDigit 7 = .ok (.bipush 57, 2) := by decide +kernel
theorem dX3_isDigit_9 : decode cX3_isDigit 9 = .ok (.if_icmp .gt 7, 3) := by decide +kernel
theorem dX3_isDigit_12 : decode cX3_isDigit 12 = .ok (.iconst 1, 1) := by decide +kernel
theorem dX3_isDigit_13 : decode cX3_isDigit 13 = .ok (.goto 4, 3) := by decide +kernel
theorem dX3_isDigit_16 : decode cX3_isDigit 16 = .ok (.iconst 0, 1) := by decide +kernel
theorem dX3_isDigit_17 : decode cX3_isDigit 17 = .ok (.ireturn, 1) := by decide +kernel
theorem dX3_isLetter_0 : decode cX3_isLetter 0 = .ok (.iload_n 0, 1) := by decide +kernel
theorem dX3_isLetter_1 : decode cX3_isLetter 1 = .ok (.bipush 97, 2) := by decide +kernel
theorem dX3_isLetter_3 : decode cX3_isLetter 3 = .ok (.if_icmp .lt 13, 3) := by decide +kernel
theorem dX3_isLetter_6 : decode cX3_isLetter 6 = .ok (.iload_n 0, 1) := by decide +kernel
theorem dX3_isLetter_7 : decode cX3_isLetter 7 = .ok (.bipush 122, 2) := by decide +kernel
theorem dX3_isLetter_9 : decode cX3_isLetter 9 = .ok (.if_icmp .gt 7, 3) := by decide +kernel
theorem dX3_isLetter_12 : decode cX3_isLetter 12 = .ok (.iconst 1, 1) := by decide +kernel
theorem dX3_isLetter_13 : decode cX3_isLetter 13 = .ok (.goto 4, 3) := by decide +kernel
theorem dX3_isLetter_16 : decode cX3_isLetter 16 = .ok (.iconst 0, 1) := by decide +kernel
theorem dX3_isLetter_17 : decode cX3_isLetter 17 = .ok (.ireturn, 1) := by decide +kernel
theorem dX4_init_0 : decode cX4_init 0 = .ok (.aload_n 0, 1) := by decide +kernel
theorem dX4_init_1 : decode cX4_init 1 = .ok (.invokespecial 3, 3) := by decide +kernel
theorem dX4_init_4 : decode cX4_init 4 = .ok (.aload_n 0, 1) := by decide +kernel
theorem dX4_init_5 : decode cX4_init 5 = .ok (.bipush 6, 2) := by decide +kernel
theorem dX4_init_7 : decode cX4_init 7 = .ok (.newarray .int, 2) := by decide +kernel
theorem dX4_init_9 : decode cX4_init 9 = .ok (.dup, 1) := by decide +kernel
theorem dX4_init_10 : decode cX4_init 10 = .ok (.iconst 0, 1) := by decide +kernel
theorem dX4_init_11 : decode cX4_init 11 = .ok (.iconst (-1), 1) := by decide +kernel
theorem dX4_init_12 : decode cX4_init 12 = .ok (.iastore, 1) := by decide +kernel
theorem dX4_init_13 : decode cX4_init 13 = .ok (.dup, 1) := by decide +kernel
theorem dX4_init_14 : decode cX4_init 14 = .ok (.iconst 1, 1) := by decide +kernel
theorem dX4_init_15 : decode cX4_init 15 = .ok (.iconst (-1), 1) := by decide +kernel
theorem dX4_init_16 : decode cX4_init 16 = .ok (.iastore, 1) := by decide +kernel
theorem dX4_init_17 : decode cX4_init 17 = .ok (.dup, 1) := by decide +kernel
theorem dX4_init_18 : decode cX4_init 18 = .ok (.iconst 2, 1) := by decide +kernel
theorem dX4_init_19 : decode cX4_init 19 = .ok (.iconst (-1), 1) := by decide +kernel
theorem dX4_init_20 : decode cX4_init 20 = .ok (.iastore, 1) := by decide +kernel
theorem dX4_init_21 : decode cX4_init 21 = .ok (.dup, 1) := by decide +kernel
theorem dX4_init_22 : decode cX4_init 22 = .ok (.iconst 3, 1) := by decide +kernel
theorem dX4_init_23 : decode cX4_init 23 = .ok (.iconst (-1), 1) := by decide +kernel
theorem dX4_init_24 : decode cX4_init 24 = .ok (.iastore, 1) := by decide +kernel
theorem dX4_init_25 : decode cX4_init 25 = .ok (.dup, 1) := by decide +kernel
theorem dX4_init_26 : decode cX4_init 26 = .ok (.iconst 4, 1) := by decide +kernel
theorem dX4_init_27 : decode cX4_init 27 = .ok (.iconst (-1), 1) := by decide +kernel
theorem dX4_init_28 : decode cX4_init 28 = .ok (.iastore, 1) := by decide +kernel
theorem dX4_init_29 : decode cX4_init 29 = .ok (.dup, 1) := by decide +kernel
theorem dX4_init_30 : decode cX4_init 30 = .ok (.iconst 5, 1) := by decide +kernel
theorem dX4_init_31 : decode cX4_init 31 = .ok (.iconst (-1), 1) := by decide +kernel
theorem dX4_init_32 : decode cX4_init 32 = .ok (.iastore, 1) := by decide +kernel
theorem dX4_init_33 : decode cX4_init 33 = .ok (.putfield 9, 3) := by decide +kernel
theorem dX4_init_36 : decode cX4_init 36 = .ok (.return_, 1) := by decide +kernel
theorem dX4_take_0 : decode cX4_take 0 = .ok (.iload_n 2, 1) := by decide +kernel
theorem dX4_take_1 : decode cX4_take 1 = .ok (.ifCond .eq 7, 3) := by decide +kernel
theorem dX4_take_4 : decode cX4_take 4 = .ok (.iconst (-1), 1) := by decide +kernel
theorem dX4_take_5 : decode cX4_take 5 = .ok (.goto 7, 3) := by decide +kernel
theorem dX4_take_8 : decode cX4_take 8 = .ok (.aload_n 1, 1) := by decide +kernel
theorem dX4_take_9 : decode cX4_take 9 = .ok (.invokevirtual 15, 3) := by decide +kernel
theorem dX4_take_12 : decode cX4_take 12 = .ok (.istore_n 3, 1) := by decide +kernel
theorem dX4_take_13 : decode cX4_take 13 = .ok (.iload_n 3, 1) := by decide +kernel
theorem dX4_take_14 : decode cX4_take 14 = .ok (.iconst (-1), 1) := by decide +kernel
theorem dX4_take_15 : decode cX4_take 15 = .ok (.if_icmp .ne 7, 3) := by decide +kernel
theorem dX4_take_18 : decode cX4_take 18 = .ok (.iconst (-1), 1) := by decide +kernel
theorem dX4_take_19 : decode cX4_take 19 = .ok (.goto 8, 3) := by decide +kernel
theorem dX4_take_22 : decode cX4_take 22 = .ok (.aload_n 1, 1) := by decide +kernel
theorem dX4_take_23 : decode cX4_take 23 = .ok (.iload_n 3, 1) := by decide +kernel
theorem dX4_take_24 : decode cX4_take 24 = .ok (.invokevirtual 21, 3) := by decide +kernel
theorem dX4_take_27 : decode cX4_take 27 = .ok (.istore 4, 2) := by decide +kernel
theorem dX4_take_29 : decode cX4_take 29 = .ok (.iload 4, 2) := by decide +kernel
theorem dX4_take_31 : decode cX4_take 31 = .ok (.iconst (-1), 1) := by decide +kernel
theorem dX4_take_32 : decode cX4_take 32 = .ok (.if_icmp .ne 10, 3) := by decide +kernel
theorem dX4_take_35 : decode cX4_take 35 = .ok (.aload_n 1, 1) := by decide +kernel
theorem dX4_take_36 : decode cX4_take 36 = .ok (.getfield 25, 3) := by decide +kernel
theorem dX4_take_39 : decode cX4_take 39 = .ok (.goto 5, 3) := by decide +kernel
theorem dX4_take_42 : decode cX4_take 42 = .ok (.iload 4, 2) := by decide +kernel
theorem dX4_take_44 : decode cX4_take 44 = .ok (.istore 5, 2) := by decide +kernel
theorem dX4_take_46 : decode cX4_take 46 = .ok (.aload_n 1, 1) := by decide +kernel
theorem dX4_take_47 : decode cX4_take 47 = .ok (.getfield 29, 3) := by decide +kernel
theorem dX4_take_50 : decode cX4_take 50 = .ok (.iload 5, 2) := by decide +kernel
theorem dX4_take_52 : decode cX4_take 52 = .ok (.iaload, 1) := by decide +kernel
theorem dX4_take_53 : decode cX4_take 53 = .ok (.istore 6, 2) := by decide +kernel
theorem dX4_take_55 : decode cX4_take 55 = .ok (.aload_n 0, 1) := by decide +kernel
theorem dX4_take_56 : decode cX4_take 56 = .ok (.getfield 9, 3) := by decide +kernel
theorem dX4_take_59 : decode cX4_take 59 = .ok (.iconst 0, 1) := by decide +kernel
theorem dX4_take_60 : decode cX4_take 60 = .ok (.iload_n 2, 1) := by decide +kernel
theorem dX4_take_61 : decode cX4_take 61 = .ok (.ifCond .eq 8, 3) := by decide +kernel
theorem dX4_take_64 : decode cX4_take 64 = .ok (.iload 5, 2) := by decide +kernel
theorem dX4_take_66 : decode cX4_take 66 = .ok (.goto 4, 3) := by decide +kernel
theorem dX4_take_69 : decode cX4_take 69 = .ok (.iconst (-1), 1) := by decide +kernel
theorem dX4_take_70 : decode cX4_take 70 = .ok (.iastore, 1) := by decide +kernel
theorem dX4_take_71 : decode cX4_take 71 = .ok (.aload_n 0, 1) := by decide +kernel
theorem dX4_take_72 : decode cX4_take 72 = .ok (.getfield 9, 3) := by decide +kernel
theorem dX4_take_75 : decode cX4_take 75 = .ok (.iconst 1, 1) := by decide +kernel
theorem dX4_take_76 : decode cX4_take 76 = .ok (.iload 4, 2) := by decide +kernel
theorem dX4_take_78 : decode cX4_take 78 = .ok (.iastore, 1) := by decide +kernel
theorem dX4_take_79 : decode cX4_take 79 = .ok (.aload_n 0, 1) := by decide +kernel
theorem dX4_take_80 : decode cX4_take 80 = .ok (.getfield 9, 3) := by decide +kernel
theorem dX4_take_83 : decode cX4_take 83 = .ok (.iconst 2, 1) := by decide +kernel
theorem dX4_take_84 : decode cX4_take 84 = .ok (.iload_n 3, 1) := by decide +kernel
theorem dX4_take_85 : decode cX4_take 85 = .ok (.iastore, 1) := by decide +kernel
theorem dX4_take_86 : decode cX4_take 86 = .ok (.aload_n 0, 1) := by decide +kernel
theorem dX4_take_87 : decode cX4_take 87 = .ok (.getfield 9, 3) := by decide +kernel
theorem dX4_take_90 : decode cX4_take 90 = .ok (.iconst 3, 1) := by decide +kernel
theorem dX4_take_91 : decode cX4_take 91 = .ok (.iload 6, 2) := by decide +kernel
theorem dX4_take_93 : decode cX4_take 93 = .ok (.bipush 13, 2) := by decide +kernel
theorem dX4_take_95 : decode cX4_take 95 = .ok (.iushr, 1) := by decide +kernel
theorem dX4_take_96 : decode cX4_take 96 = .ok (.iastore, 1) := by decide +kernel
theorem dX4_take_97 : decode cX4_take 97 = .ok (.aload_n 0, 1) := by decide +kernel
theorem dX4_take_98 : decode cX4_take 98 = .ok (.getfield 9, 3) := by decide +kernel
theorem dX4_take_101 : decode cX4_take 101 = .ok (.iconst 4, 1) := by decide +kernel
theorem dX4_take_102 : decode cX4_take 102 = .ok (.iload 6, 2) := by decide +kernel
theorem dX4_take_104 : decode cX4_take 104 = .ok (.bipush 11, 2) := by decide +kernel
theorem dX4_take_106 : decode cX4_take 106 = .ok (.iushr, 1) := by decide +kernel
theorem dX4_take_107 : decode cX4_take 107 = .ok (.iconst 3, 1) := by decide +kernel
theorem dX4_take_108 : decode cX4_take 108 = .ok (.iand, 1) := by decide +kernel
theorem dX4_take_109 : decode cX4_take 109 = .ok (.iastore, 1) := by decide +kernel
theorem dX4_take_110 : decode cX4_take 110 = .ok (.aload_n 0, 1) := by decide +kernel
theorem dX4_take_111 : decode cX4_take 111 = .ok (.getfield 9, 3) := by decide +kernel
theorem dX4_take_114 : decode cX4_take 114 = .ok (.iconst 5, 1) := by decide +kernel
theorem dX4_take_115 : decode cX4_take 115 = .ok (.iload 6, 2) := by decide +kernel
theorem dX4_take_117 : decode cX4_take 117 = .ok (.iconst 3, 1) := by decide +kernel
theorem dX4_take_118 : decode cX4_take 118 = .ok (.iushr, 1) := by decide +kernel
theorem dX4_take_119 : decode cX4_take 119 = .ok (.sipush 255, 3) := by decide +kernel
theorem dX4_take_122 : decode cX4_take 122 = .ok (.iand, 1) := by decide +kernel
theorem dX4_take_123 : decode cX4_take 123 = .ok (.invokestatic 32, 3) := by decide +kernel
theorem dX4_take_126 : decode cX4_take 126 = .ok (.iastore, 1) := by decide +kernel
theorem dX4_take_127 : decode cX4_take 127 = .ok (.iload_n 2, 1) := by decide +kernel
theorem dX4_take_128 : decode cX4_take 128 = .ok (.ifCond .eq 5, 3) := by decide +kernel
theorem dX4_take_131 : decode cX4_take 131 = .ok (.iconst 0, 1) := by decide +kernel
theorem dX4_take_132 : decode cX4_take 132 = .ok (.ireturn, 1) := by decide +kernel
theorem dX4_take_133 : decode cX4_take 133 = .ok (.iload_n 3, 1) := by decide +kernel
theorem dX4_take_134 : decode cX4_take 134 = .ok (.iconst (-1), 1) := by decide +kernel
theorem dX4_take_135 : decode cX4_take 135 = .ok (.if_icmp .ne 7, 3) := by decide +kernel
theorem dX4_take_138 : decode cX4_take 138 = .ok (.iconst 2, 1) := by decide +kernel
theorem dX4_take_139 : decode cX4_take 139 = .ok (.goto 4, 3) := by decide +kernel
theorem dX4_take_142 : decode cX4_take 142 = .ok (.iconst 1, 1) := by decide +kernel
theorem dX4_take_143 : decode cX4_take 143 = .ok (.ireturn, 1) := by decide +kernel
theorem dX5_init_0 : decode cX5_init 0 = .ok (.aload_n 0, 1) := by decide +kernel
theorem dX5_init_1 : decode cX5_init 1 = .ok (.invokespecial 3, 3) := by decide +kernel
theorem dX5_init_4 : decode cX5_init 4 = .ok (.aload_n 0, 1) := by decide +kernel
theorem dX5_init_5 : decode cX5_init 5 = .ok (.bipush 8, 2) := by decide +kernel
theorem dX5_init_7 : decode cX5_init 7 = .ok (.newarray .int, 2) := by decide +kernel
theorem dX5_init_9 : decode cX5_init 9 = .ok (.putfield 9, 3) := by decide +kernel
theorem dX5_init_12 : decode cX5_init 12 = .ok (.aload_n 0, 1) := by decide +kernel
theorem dX5_init_13 : decode cX5_init 13 = .ok (.bipush 8, 2) := by decide +kernel
theorem dX5_init_15 : decode cX5_init 15 = .ok (.newarray .int, 2) := by decide +kernel
theorem dX5_init_17 : decode cX5_init 17 = .ok (.putfield 13, 3) := by decide +kernel
theorem dX5_init_20 : decode cX5_init 20 = .ok (.aload_n 0, 1) := by decide +kernel
theorem dX5_init_21 : decode cX5_init 21 = .ok (.bipush 8, 2) := by decide +kernel
theorem dX5_init_23 : decode cX5_init 23 = .ok (.newarray .int, 2) := by decide +kernel
theorem dX5_init_25 : decode cX5_init 25 = .ok (.putfield 16, 3) := by decide +kernel
theorem dX5_init_28 : decode cX5_init 28 = .ok (.aload_n 0, 1) := by decide +kernel
theorem dX5_init_29 : decode cX5_init 29 = .ok (.iconst 0, 1) := by decide +kernel
theorem dX5_init_30 : decode cX5_init 30 = .ok (.putfield 19, 3) := by decide +kernel
theorem dX5_init_33 : decode cX5_init 33 = .ok (.aload_n 0, 1) := by decide +kernel
theorem dX5_init_34 : decode cX5_init 34 = .ok (.iconst 0, 1) := by decide +kernel
theorem dX5_init_35 : decode cX5_init 35 = .ok (.putfield 23, 3) := by decide +kernel
theorem dX5_init_38 : decode cX5_init 38 = .ok (.aload_n 0, 1) := by decide +kernel
theorem dX5_init_39 : decode cX5_init 39 = .ok (.iconst 0, 1) := by decide +kernel
theorem dX5_init_40 : decode cX5_init 40 = .ok (.putfield 26, 3) := by decide +kernel
theorem dX5_init_43 : decode cX5_init 43 = .ok (.aload_n 0, 1) := by decide +kernel
theorem dX5_init_44 : decode cX5_init 44 = .ok (.iconst 0, 1) := by decide +kernel
theorem dX5_init_45 : decode cX5_init 45 = .ok (.putfield 29, 3) := by decide +kernel
theorem dX5_init_48 : decode cX5_init 48 = .ok (.return_, 1) := by decide +kernel
theorem dX5_clear_0 : decode cX5_clear 0 = .ok (.aload_n 0, 1) := by decide +kernel
theorem dX5_clear_1 : decode cX5_clear 1 = .ok (.iconst 0, 1) := by decide +kernel
theorem dX5_clear_2 : decode cX5_clear 2 = .ok (.putfield 19, 3) := by decide +kernel
theorem dX5_clear_5 : decode cX5_clear 5 = .ok (.aload_n 0, 1) := by decide +kernel
theorem dX5_clear_6 : decode cX5_clear 6 = .ok (.iconst 0, 1) := by decide +kernel
theorem dX5_clear_7 : decode cX5_clear 7 = .ok (.putfield 23, 3) := by decide +kernel
theorem dX5_clear_10 : decode cX5_clear 10 = .ok (.aload_n 0, 1) := by decide +kernel
theorem dX5_clear_11 : decode cX5_clear 11 = .ok (.iconst 0, 1) := by decide +kernel
theorem dX5_clear_12 : decode cX5_clear 12 = .ok (.putfield 26, 3) := by decide +kernel
theorem dX5_clear_15 : decode cX5_clear 15 = .ok (.aload_n 0, 1) := by decide +kernel
theorem dX5_clear_16 : decode cX5_clear 16 = .ok (.iconst 0, 1) := by decide +kernel
theorem dX5_clear_17 : decode cX5_clear 17 = .ok (.putfield 29, 3) := by decide +kernel
theorem dX5_clear_20 : decode cX5_clear 20 = .ok (.return_, 1) := by decide +kernel
theorem dX5_addLine_0 : decode cX5_addLine 0 = .ok (.aload_n 0, 1) := by decide +kernel
theorem dX5_addLine_1 : decode cX5_addLine 1 = .ok (.getfield 19, 3) := by decide +kernel
theorem dX5_addLine_4 : decode cX5_addLine 4 = .ok (.ifCond .ne 8, 3) := by decide +kernel
theorem dX5_addLine_7 : decode cX5_addLine 7 = .ok (.aload_n 0, 1) := by decide +kernel
theorem dX5_addLine_8 : decode cX5_addLine 8 = .ok (.iload_n 1, 1) := by decide +kernel
theorem dX5_addLine_9 : decode cX5_addLine 9 = .ok (.putfield 23, 3) := by decide +kernel
theorem dX5_addLine_12 : decode cX5_addLine 12 = .ok (.aload_n 0, 1) := by decide +kernel
theorem dX5_addLine_13 : decode cX5_addLine 13 = .ok (.dup, 1) := by decide +kernel
theorem dX5_addLine_14 : decode cX5_addLine 14 = .ok (.getfield 19, 3) := by decide +kernel
theorem dX5_addLine_17 : decode cX5_addLine 17 = .ok (.iconst 1, 1) := by decide +kernel
theorem dX5_addLine_18 : decode cX5_addLine 18 = .ok (.iadd, 1) := by decide +kernel
theorem dX5_addLine_19 : decode cX5_addLine 19 = .ok (.putfield 19, 3) := by decide +kernel
theorem dX5_addLine_22 : decode cX5_addLine 22 = .ok (.aload_n 0, 1) := by decide +kernel
theorem dX5_addLine_23 : decode cX5_addLine 23 = .ok (.aload_n 0, 1) := by decide +kernel
theorem dX5_addLine_24 : decode cX5_addLine 24 = .ok (.getfield 26, 3) := by decide +kernel
theorem dX5_addLine_27 : decode cX5_addLine 27 = .ok (.iload_n 1, 1) := by decide +kernel
theorem dX5_addLine_28 : decode cX5_addLine 28 = .ok (.iconst 1, 1) := by decide +kernel
theorem dX5_addLine_29 : decode cX5_addLine 29 = .ok (.invokestatic 32, 3) := by decide +kernel
theorem dX5_addLine_32 : decode cX5_addLine 32 = .ok (.putfield 26, 3) := by decide +kernel
theorem dX5_addLine_35 : decode cX5_addLine 35 = .ok (.return_, 1) := by decide +kernel
theorem dX5_actOf_0 : decode cX5_actOf 0 = .ok (.iload_n 2, 1) := by decide +kernel
theorem dX5_actOf_1 : decode cX5_actOf 1 = .ok (.ifCond .ne 14, 3) := by decide +kernel
theorem dX5_actOf_4 : decode cX5_actOf 4 = .ok (.aload_n 0, 1) := by decide +kernel
theorem dX5_actOf_5 : decode cX5_actOf 5 = .ok (.getfield 29, 3) := by decide +kernel
theorem dX5_actOf_8 : decode cX5_actOf 8 = .ok (.iload_n 1, 1) := by decide +kernel
theorem dX5_actOf_9 : decode cX5_actOf 9 = .ok (.invokestatic 38, 3) := by decide +kernel
theorem dX5_actOf_12 : decode cX5_actOf 12 = .ok (.ifCond .ne 9, 3) := by decide +kernel
theorem dX5_actOf_15 : decode cX5_actOf 15 = .ok (.iconst 2, 1) := by decide +kernel
theorem dX5_actOf_16 : decode cX5_actOf 16 = .ok (.iload_n 1, 1) := by decide +kernel
theorem dX5_actOf_17 : decode cX5_actOf 17 = .ok (.imul, 1) := by decide +kernel
theorem dX5_actOf_18 : decode cX5_actOf 18 = .ok (.goto 8, 3) := by decide +kernel
theorem dX5_actOf_21 : decode cX5_actOf 21 = .ok (.iconst 2, 1) := by decide +kernel
theorem dX5_actOf_22 : decode cX5_actOf 22 = .ok (.iload_n 1, 1) := by decide +kernel
theorem dX5_actOf_23 : decode cX5_actOf 23 = .ok (.imul, 1) := by decide +kernel
theorem dX5_actOf_24 : decode cX5_actOf 24 = .ok (.iconst 1, 1) := by decide +kernel
theorem dX5_actOf_25 : decode cX5_actOf 25 = .ok (.iadd, 1) := by decide +kernel
theorem dX5_actOf_26 : decode cX5_actOf 26 = .ok (.ireturn, 1) := by decide +kernel
theorem dX5_marksAfter_0 : decode cX5_marksAfter 0 = .ok (.aload_n 0, 1) := by decide +kernel
theorem dX5_marksAfter_1 : decode cX5_marksAfter 1 = .ok (.getfield 13, 3) := by decide +kernel
theorem dX5_marksAfter_4 : decode cX5_marksAfter 4 = .ok (.iload_n 1, 1) := by decide +kernel
theorem dX5_marksAfter_5 : decode cX5_marksAfter 5 = .ok (.iaload, 1) := by decide +kernel
theorem dX5_marksAfter_6 : decode cX5_marksAfter 6 = .ok (.lookupswitch 40 #[(1, 26), (2, 33)], 26) := by decide +kernel
theorem dX5_marksAfter_32 : decode cX5_marksAfter 32 = .ok (.iload_n 2, 1) := by decide +kernel
theorem dX5_marksAfter_33 : decode cX5_marksAfter 33 = .ok (.iload_n 3, 1) := by decide +kernel
theorem dX5_marksAfter_34 : decode cX5_marksAfter 34 = .ok (.iconst 0, 1) := by decide +kernel
theorem dX5_marksAfter_35 : decode cX5_marksAfter 35 = .ok (.invokestatic 32, 3) := by decide +kernel
theorem dX5_marksAfter_38 : decode cX5_marksAfter 38 = .ok (.ireturn, 1) := by decide +kernel
theorem dX5_marksAfter_39 : decode cX5_marksAfter 39 = .ok (.iload_n 2, 1) := by decide +kernel
theorem dX5_marksAfter_40 : decode cX5_marksAfter 40 = .ok (.iload_n 3, 1) := by decide +kernel
theorem dX5_marksAfter_41 : decode cX5_marksAfter 41 = .ok (.iconst 1, 1) := by decide +kernel
theorem dX5_marksAfter_42 : decode cX5_marksAfter 42 = .ok (.invokestatic 32, 3) := by decide +kernel
theorem dX5_marksAfter_45 : decode cX5_marksAfter 45 = .ok (.ireturn, 1) := by decide +kernel
theorem dX5_marksAfter_46 : decode cX5_marksAfter 46 = .ok (.iload_n 2, 1) := by decide +kernel
theorem dX5_marksAfter_47 : decode cX5_marksAfter 47 = .ok (.ireturn, 1) := by decide +kernel
theorem dX6_init_0 : decode cX6_init 0 = .ok (.aload_n 0, 1) := by decide +kernel
theorem dX6_init_1 : decode cX6_init 1 = .ok (.invokespecial 3, 3) := by decide +kernel
theorem dX6_init_4 : decode cX6_init 4 = .ok (.aload_n 0, 1) := by decide +kernel
theorem dX6_init_5 : decode cX6_init 5 = .ok (.iconst 0, 1) := by decide +kernel
theorem dX6_init_6 : decode cX6_init 6 = .ok (.putfield 9, 3) := by decide +kernel
theorem dX6_init_9 : decode cX6_init 9 = .ok (.aload_n 0, 1) := by decide +kernel
theorem dX6_init_10 : decode cX6_init 10 = .ok (.iconst (-1), 1) := by decide +kernel
theorem dX6_init_11 : decode cX6_init 11 = .ok (.putfield 15, 3) := by decide +kernel
theorem dX6_init_14 : decode cX6_init 14 = .ok (.aload_n 0, 1) := by decide +kernel
theorem dX6_init_15 : decode cX6_init 15 = .ok (.aload_n 1, 1) := by decide +kernel
theorem dX6_init_16 : decode cX6_init 16 = .ok (.putfield 18, 3) := by decide +kernel
theorem dX6_init_19 : decode cX6_init 19 = .ok (.return_, 1) := by decide +kernel
theorem dX6_forget_0 : decode cX6_forget 0 = .ok (.aload_n 0, 1) := by decide +kernel
theorem dX6_forget_1 : decode cX6_forget 1 = .ok (.iconst (-1), 1) := by decide +kernel
theorem dX6_forget_2 : decode cX6_forget 2 = .ok (.putfield 15, 3) := by decide +kernel
theorem dX6_forget_5 : decode cX6_forget 5 = .ok (.return_, 1) := by decide +kernel
theorem dX6_canGoOn_0 : decode cX6_canGoOn 0 = .ok (.aload_n 0, 1) := by decide +kernel
theorem dX6_canGoOn_1 : decode cX6_canGoOn 1 = .ok (.getfield 15, 3) := by decide +kernel
theorem dX6_canGoOn_4 : decode cX6_canGoOn 4 = .ok (.iconst (-1), 1) := by decide +kernel
theorem dX6_canGoOn_5 : decode cX6_canGoOn 5 = .ok (.if_icmp .eq 16, 3) := by decide +kernel
theorem dX6_canGoOn_8 : decode cX6_canGoOn 8 = .ok (.aload_n 0, 1) := by decide +kernel
theorem dX6_canGoOn_9 : decode cX6_canGoOn 9 = .ok (.getfield 15, 3) := by decide +kernel
theorem dX6_canGoOn_12 : decode cX6_canGoOn 12 = .ok (.bipush 8, 2) := by decide +kernel
theorem dX6_canGoOn_14 : decode cX6_canGoOn 14 = .ok (.if_icmp .ge 7, 3) := by decide +kernel
theorem dX6_canGoOn_17 : decode cX6_canGoOn 17 = .ok (.iconst 1, 1) := by decide +kernel
theorem dX6_canGoOn_18 : decode cX6_canGoOn 18 = .ok (.goto 4, 3) := by decide +kernel
theorem dX6_canGoOn_21 : decode cX6_canGoOn 21 = .ok (.iconst 0, 1) := by decide +kernel
theorem dX6_canGoOn_22 : decode cX6_canGoOn 22 = .ok (.ireturn, 1) := by decide +kernel
theorem dX6_begin_0 : decode cX6_begin 0 = .ok (.aload_n 0, 1) := by decide +kernel
theorem dX6_begin_1 : decode cX6_begin 1 = .ok (.iconst 0, 1) := by decide +kernel
theorem dX6_begin_2 : decode cX6_begin 2 = .ok (.putfield 15, 3) := by decide +kernel
theorem dX6_begin_5 : decode cX6_begin 5 = .ok (.aload_n 0, 1) := by decide +kernel
theorem dX6_begin_6 : decode cX6_begin 6 = .ok (.aload_n 0, 1) := by decide +kernel
theorem dX6_begin_7 : decode cX6_begin 7 = .ok (.getfield 18, 3) := by decide +kernel
theorem dX6_begin_10 : decode cX6_begin 10 = .ok (.iload_n 1, 1) := by decide +kernel
theorem dX6_begin_11 : decode cX6_begin 11 = .ok (.invokevirtual 22, 3) := by decide +kernel
theorem dX6_begin_14 : decode cX6_begin 14 = .ok (.putfield 9, 3) := by decide +kernel
theorem dX6_begin_17 : decode cX6_begin 17 = .ok (.return_, 1) := by decide +kernel
theorem dX6_goOn_0 : decode cX6_goOn 0 = .ok (.iconst 0, 1) := by decide +kernel
theorem dX6_goOn_1 : decode cX6_goOn 1 = .ok (.istore_n 3, 1) := by decide +kernel
theorem dX6_goOn_2 : decode cX6_goOn 2 = .ok (.iconst 0, 1) := by decide +kernel
theorem dX6_goOn_3 : decode cX6_goOn 3 = .ok (.istore 4, 2) := by decide +kernel
theorem dX6_goOn_5 : decode cX6_goOn 5 = .ok (.iload 4, 2) := by decide +kernel
theorem dX6_goOn_7 : decode cX6_goOn 7 = .ok (.aload_n 0, 1) := by decide +kernel
theorem dX6_goOn_8 : decode cX6_goOn 8 = .ok (.getfield 18, 3) := by decide +kernel
theorem dX6_goOn_11 : decode cX6_goOn 11 = .ok (.getfield 28, 3) := by decide +kernel
theorem dX6_goOn_14 : decode cX6_goOn 14 = .ok (.if_icmp .ge 37, 3) := by decide +kernel
theorem dX6_goOn_17 : decode cX6_goOn 17 = .ok (.aload_n 0, 1) := by decide +kernel
theorem dX6_goOn_18 : decode cX6_goOn 18 = .ok (.getfield 9, 3) := by decide +kernel
theorem dX6_goOn_21 : decode cX6_goOn 21 = .ok (.iload 4, 2) := by decide +kernel
theorem dX6_goOn_23 : decode cX6_goOn 23 = .ok (.invokestatic 31, 3) := by decide +kernel
theorem dX6_goOn_26 : decode cX6_goOn 26 = .ok (.ifCond .eq 19, 3) := by decide +kernel
theorem dX6_goOn_29 : decode cX6_goOn 29 = .ok (.iload_n 3, 1) := by decide +kernel
theorem dX6_goOn_30 : decode cX6_goOn 30 = .ok (.aload_n 0, 1) := by decide +kernel
theorem dX6_goOn_31 : decode cX6_goOn 31 = .ok (.getfield 18, 3) := by decide +kernel
theorem dX6_goOn_34 : decode cX6_goOn 34 = .ok (.iload 4, 2) := by decide +kernel
theorem dX6_goOn_36 : decode cX6_goOn 36 = .ok (.iload_n 1, 1) := by decide +kernel
theorem dX6_goOn_37 : decode cX6_goOn 37 = .ok (.invokevirtual 35, 3) := by decide +kernel
theorem dX6_goOn_40 : decode cX6_goOn 40 = .ok (.iconst 1, 1) := by decide +kernel
theorem dX6_goOn_41 : decode cX6_goOn 41 = .ok (.invokestatic 39, 3) := by decide +kernel
theorem dX6_goOn_44 : decode cX6_goOn 44 = .ok (.istore_n 3, 1) := by decide +kernel
theorem dX6_goOn_45 : decode cX6_goOn 45 = .ok (.iinc 4 1, 3) := by decide +kernel
theorem dX6_goOn_48 : decode cX6_goOn 48 = .ok (.goto (-43), 3) := by decide +kernel
theorem dX6_goOn_51 : decode cX6_goOn 51 = .ok (.aload_n 0, 1) := by decide +kernel
theorem dX6_goOn_52 : decode cX6_goOn 52 = .ok (.dup, 1) := by decide +kernel
theorem dX6_goOn_53 : decode cX6_goOn 53 = .ok (.getfield 15, 3) := by decide +kernel
theorem dX6_goOn_56 : decode cX6_goOn 56 = .ok (.iconst 1, 1) := by decide +kernel
theorem dX6_goOn_57 : decode cX6_goOn 57 = .ok (.iadd, 1) := by decide +kernel
theorem dX6_goOn_58 : decode cX6_goOn 58 = .ok (.putfield 15, 3) := by decide +kernel
theorem dX6_goOn_61 : decode cX6_goOn 61 = .ok (.aload_n 0, 1) := by decide +kernel
theorem dX6_goOn_62 : decode cX6_goOn 62 = .ok (.iload_n 3, 1) := by decide +kernel
theorem dX6_goOn_63 : decode cX6_goOn 63 = .ok (.aload_n 0, 1) := by decide +kernel
theorem dX6_goOn_64 : decode cX6_goOn 64 = .ok (.getfield 18, 3) := by decide +kernel
theorem dX6_goOn_67 : decode cX6_goOn 67 = .ok (.iload_n 2, 1) := by decide +kernel
theorem dX6_goOn_68 : decode cX6_goOn 68 = .ok (.invokevirtual 22, 3) := by decide +kernel
theorem dX6_goOn_71 : decode cX6_goOn 71 = .ok (.iand, 1) := by decide +kernel
theorem dX6_goOn_72 : decode cX6_goOn 72 = .ok (.putfield 9, 3) := by decide +kernel
theorem dX6_goOn_75 : decode cX6_goOn 75 = .ok (.return_, 1) := by decide +kernel
theorem dX7_init_0 : decode cX7_init 0 = .ok (.aload_n 0, 1) := by decide +kernel
theorem dX7_init_1 : decode cX7_init 1 = .ok (.invokespecial 1, 3) := by decide +kernel
theorem dX7_init_4 : decode cX7_init 4 = .ok (.aload_n 0, 1) := by decide +kernel
theorem dX7_init_5 : decode cX7_init 5 = .ok (.sipush 300, 3) := by decide +kernel
theorem dX7_init_8 : decode cX7_init 8 = .ok (.newarray .int, 2) := by decide +kernel
theorem dX7_init_10 : decode cX7_init 10 = .ok (.putfield 9, 3) := by decide +kernel
theorem dX7_init_13 : decode cX7_init 13 = .ok (.aload_n 0, 1) := by decide +kernel
theorem dX7_init_14 : decode cX7_init 14 = .ok (.iconst 0, 1) := by decide +kernel
theorem dX7_init_15 : decode cX7_init 15 = .ok (.putfield 13, 3) := by decide +kernel
theorem dX7_init_18 : decode cX7_init 18 = .ok (.return_, 1) := by decide +kernel
theorem dX7_hasRoom_0 : decode cX7_hasRoom 0 = .ok (.aload_n 0, 1) := by decide +kernel
theorem dX7_hasRoom_1 : decode cX7_hasRoom 1 = .ok (.getfield 13, 3) := by decide +kernel
theorem dX7_hasRoom_4 : decode cX7_hasRoom 4 = .ok (.bipush 20, 2) := by decide +kernel
theorem dX7_hasRoom_6 : decode cX7_hasRoom 6 = .ok (.iadd, 1) := by decide +kernel
theorem dX7_hasRoom_7 : decode cX7_hasRoom 7 = .ok (.sipush 300, 3) := by decide +kernel
theorem dX7_hasRoom_10 : decode cX7_hasRoom 10 = .ok (.if_icmp .gt 7, 3) := by decide +kernel
theorem dX7_hasRoom_13 : decode cX7_hasRoom 13 = .ok (.iconst 1, 1) := by decide +kernel
theorem dX7_hasRoom_14 : decode cX7_hasRoom 14 = .ok (.goto 4, 3) := by decide +kernel
theorem dX7_hasRoom_17 : decode cX7_hasRoom 17 = .ok (.iconst 0, 1) := by decide +kernel
theorem dX7_hasRoom_18 : decode cX7_hasRoom 18 = .ok (.ireturn, 1) := by decide +kernel
theorem dX7_add_0 : decode cX7_add 0 = .ok (.bipush 24, 2) := by decide +kernel
theorem dX7_add_2 : decode cX7_add 2 = .ok (.istore_n 2, 1) := by decide +kernel
theorem dX7_add_3 : decode cX7_add 3 = .ok (.iload_n 2, 1) := by decide +kernel
theorem dX7_add_4 : decode cX7_add 4 = .ok (.ifCond .lt 45, 3) := by decide +kernel
theorem dX7_add_7 : decode cX7_add 7 = .ok (.aload_n 0, 1) := by decide +kernel
theorem dX7_add_8 : decode cX7_add 8 = .ok (.getfield 13, 3) := by decide +kernel
theorem dX7_add_11 : decode cX7_add 11 = .ok (.sipush 300, 3) := by decide +kernel
theorem dX7_add_14 : decode cX7_add 14 = .ok (.if_icmp .ge 35, 3) := by decide +kernel
theorem dX7_add_17 : decode cX7_add 17 = .ok (.aload_n 0, 1) := by decide +kernel
theorem dX7_add_18 : decode cX7_add 18 = .ok (.getfield 9, 3) := by decide +kernel
theorem dX7_add_21 : decode cX7_add 21 = .ok (.aload_n 0, 1) := by decide +kernel
theorem dX7_add_22 : decode cX7_add 22 = .ok (.getfield 13, 3) := by decide +kernel
theorem dX7_add_25 : decode cX7_add 25 = .ok (.iload_n 1, 1) := by decide +kernel
theorem dX7_add_26 : decode cX7_add 26 = .ok (.iload_n 2, 1) := by decide +kernel
theorem dX7_add_27 : decode cX7_add 27 = .ok (.iushr, 1) := by decide +kernel
theorem dX7_add_28 : decode cX7_add 28 = .ok (.sipush 255, 3) := by decide +kernel
theorem dX7_add_31 : decode cX7_add 31 = .ok (.iand, 1) := by decide +kernel
theorem dX7_add_32 : decode cX7_add 32 = .ok (.iastore, 1) := by decide +kernel
theorem dX7_add_33 : decode cX7_add 33 = .ok (.aload_n 0, 1) := by decide +kernel
theorem dX7_add_34 : decode cX7_add 34 = .ok (.dup, 1) := by decide +kernel
theorem dX7_add_35 : decode cX7_add 35 = .ok (.getfield 13, 3) := by decide +kernel
theorem dX7_add_38 : decode cX7_add 38 = .ok (.iconst 1, 1) := by decide +kernel
theorem dX7_add_39 : decode cX7_add 39 = .ok (.iadd, 1) := by decide +kernel
theorem dX7_add_40 : decode cX7_add 40 = .ok (.putfield 13, 3) := by decide +kernel
theorem dX7_add_43 : decode cX7_add 43 = .ok (.iinc 2 (-8), 3) := by decide +kernel
theorem dX7_add_46 : decode cX7_add 46 = .ok (.goto (-43), 3) := by decide +kernel
theorem dX7_add_49 : decode cX7_add 49 = .ok (.return_, 1) := by decide +kernel
theorem dX8_init_0 : decode cX8_init 0 = .ok (.aload_n 0, 1) := by decide +kernel
theorem dX8_init_1 : decode cX8_init 1 = .ok (.invokespecial 3, 3) := by decide +kernel
theorem dX8_init_4 : decode cX8_init 4 = .ok (.aload_n 0, 1) := by decide +kernel
theorem dX8_init_5 : decode cX8_init 5 = .ok (.sipush 1501, 3) := by decide +kernel
theorem dX8_init_8 : decode cX8_init 8 = .ok (.newarray .int, 2) := by decide +kernel
theorem dX8_init_10 : decode cX8_init 10 = .ok (.putfield 11, 3) := by decide +kernel
theorem dX8_init_13 : decode cX8_init 13 = .ok (.aload_n 0, 1) := by decide +kernel
theorem dX8_init_14 : decode cX8_init 14 = .ok (.iconst 0, 1) := by decide +kernel
theorem dX8_init_15 : decode cX8_init 15 = .ok (.putfield 15, 3) := by decide +kernel
theorem dX8_init_18 : decode cX8_init 18 = .ok (.aload_n 0, 1) := by decide +kernel
theorem dX8_init_19 : decode cX8_init 19 = .ok (.bipush 8, 2) := by decide +kernel
theorem dX8_init_21 : decode cX8_init 21 = .ok (.newarray .int, 2) := by decide +kernel
theorem dX8_init_23 : decode cX8_init 23 = .ok (.putfield 21, 3) := by decide +kernel
theorem dX8_init_26 : decode cX8_init 26 = .ok (.aload_n 0, 1) := by decide +kernel
theorem dX8_init_27 : decode cX8_init 27 = .ok (.aload_n 1, 1) := by decide +kernel
theorem dX8_init_28 : decode cX8_init 28 = .ok (.putfield 24, 3) := by decide +kernel
theorem dX8_init_31 : decode cX8_init 31 = .ok (.aload_n 0, 1) := by decide +kernel
theorem dX8_init_32 : decode cX8_init 32 = .ok (.aload_n 2, 1) := by decide +kernel
theorem dX8_init_33 : decode cX8_init 33 = .ok (.putfield 28, 3) := by decide +kernel
theorem dX8_init_36 : decode cX8_init 36 = .ok (.return_, 1) := by decide +kernel
theorem dX8_prepare_0 : decode cX8_prepare 0 = .ok (.aload_n 0, 1) := by decide +kernel
theorem dX8_prepare_1 : decode cX8_prepare 1 = .ok (.aload_n 1, 1) := by decide +kernel
theorem dX8_prepare_2 : decode cX8_prepare 2 = .ok (.putfield 28, 3) := by decide +kernel
theorem dX8_prepare_5 : decode cX8_prepare 5 = .ok (.iconst 0, 1) := by decide +kernel
theorem dX8_prepare_6 : decode cX8_prepare 6 = .ok (.istore_n 2, 1) := by decide +kernel
theorem dX8_prepare_7 : decode cX8_prepare 7 = .ok (.iload_n 2, 1) := by decide +kernel
theorem dX8_prepare_8 : decode cX8_prepare 8 = .ok (.aload_n 0, 1) := by decide +kernel
theorem dX8_prepare_9 : decode cX8_prepare 9 = .ok (.getfield 24, 3) := by decide +kernel
theorem dX8_prepare_12 : decode cX8_prepare 12 = .ok (.getfield 32, 3) := by decide +kernel
theorem dX8_prepare_15 : decode cX8_prepare 15 = .ok (.if_icmp .ge 23, 3) := by decide +kernel
theorem dX8_prepare_18 : decode cX8_prepare 18 = .ok (.aload_n 0, 1) := by decide +kernel
theorem dX8_prepare_19 : decode cX8_prepare 19 = .ok (.getfield 21, 3) := by decide +kernel
theorem dX8_prepare_22 : decode cX8_prepare 22 = .ok (.iload_n 2, 1) := by decide +kernel
theorem dX8_prepare_23 : decode cX8_prepare 23 = .ok (.aload_n 0, 1) := by decide +kernel
theorem dX8_prepare_24 : decode cX8_prepare 24 = .ok (.getfield 24, 3) := by decide +kernel
theorem dX8_prepare_27 : decode cX8_prepare 27 = .ok (.iload_n 2, 1) := by decide +kernel
theorem dX8_prepare_28 : decode cX8_prepare 28 = .ok (.invokevirtual 35, 3) := by decide +kernel
theorem dX8_prepare_31 : decode cX8_prepare 31 = .ok (.iastore, 1) := by decide +kernel
theorem dX8_prepare_32 : decode cX8_prepare 32 = .ok (.iinc 2 1, 3) := by decide +kernel
theorem dX8_prepare_35 : decode cX8_prepare 35 = .ok (.goto (-28), 3) := by decide +kernel
theorem dX8_prepare_38 : decode cX8_prepare 38 = .ok (.return_, 1) := by decide +kernel
theorem dX8_comesOut_0 : decode cX8_comesOut 0 = .ok (.iload_n 1, 1) := by decide +kernel
theorem dX8_comesOut_1 : decode cX8_comesOut 1 = .ok (.istore 4, 2) := by decide +kernel
theorem dX8_comesOut_3 : decode cX8_comesOut 3 = .ok (.aload_n 0, 1) := by decide +kernel
theorem dX8_comesOut_4 : decode cX8_comesOut 4 = .ok (.getfield 28, 3) := by decide +kernel
theorem dX8_comesOut_7 : decode cX8_comesOut 7 = .ok (.getfield 39, 3) := by decide +kernel
theorem dX8_comesOut_10 : decode cX8_comesOut 10 = .ok (.istore 5, 2) := by decide +kernel
theorem dX8_comesOut_12 : decode cX8_comesOut 12 = .ok (.iload_n 2, 1) := by decide +kernel
theorem dX8_comesOut_13 : decode cX8_comesOut 13 = .ok (.istore 6, 2) := by decide +kernel
theorem dX8_comesOut_15 : decode cX8_comesOut 15 = .ok (.iconst 0, 1) := by decide +kernel
theorem dX8_comesOut_16 : decode cX8_comesOut 16 = .ok (.istore 7, 2) := by decide +kernel
theorem dX8_comesOut_18 : decode cX8_comesOut 18 = .ok (.iconst (-1), 1) := by decide +kernel
theorem dX8_comesOut_19 : decode cX8_comesOut 19 = .ok (.istore 8, 2) := by decide +kernel
theorem dX8_comesOut_21 : decode cX8_comesOut 21 = .ok (.iconst 0, 1) := by decide +kernel
theorem dX8_comesOut_22 : decode cX8_comesOut 22 = .ok (.istore 9, 2) := by decide +kernel
theorem dX8_comesOut_24 : decode cX8_comesOut 24 = .ok (.aload_n 0, 1) := by decide +kernel
theorem dX8_comesOut_25 : decode cX8_comesOut 25 = .ok (.iconst 0, 1) := by decide +kernel
theorem dX8_comesOut_26 : decode cX8_comesOut 26 = .ok (.putfield 15, 3) := by decide +kernel
theorem dX8_comesOut_29 : decode cX8_comesOut 29 = .ok (.aload_n 0, 1) := by decide +kernel
theorem dX8_comesOut_30 : decode cX8_comesOut 30 = .ok (.getfield 15, 3) := by decide +kernel
theorem dX8_comesOut_33 : decode cX8_comesOut 33 = .ok (.sipush 1500, 3) := by decide +kernel
theorem dX8_comesOut_36 : decode cX8_comesOut 36 = .ok (.if_icmp .gt 217, 3) := by decide +kernel
theorem dX8_comesOut_39 : decode cX8_comesOut 39 = .ok (.iload 4, 2) := by decide +kernel
theorem dX8_comesOut_41 : decode cX8_comesOut 41 = .ok (.bipush 13, 2) := by decide +kernel
theorem dX8_comesOut_43 : decode cX8_comesOut 43 = .ok (.ishl, 1) := by decide +kernel
theorem dX8_comesOut_44 : decode cX8_comesOut 44 = .ok (.iload 5, 2) := by decide +kernel
theorem dX8_comesOut_46 : decode cX8_comesOut 46 = .ok (.bipush 11, 2) := by decide +kernel
theorem dX8_comesOut_48 : decode cX8_comesOut 48 = .ok (.ishl, 1) := by decide +kernel
theorem dX8_comesOut_49 : decode cX8_comesOut 49 = .ok (.ior, 1) := by decide +kernel
theorem dX8_comesOut_50 : decode cX8_comesOut 50 = .ok (.iload 6, 2) := by decide +kernel
theorem dX8_comesOut_52 : decode cX8_comesOut 52 = .ok (.iconst 3, 1) := by decide +kernel
theorem dX8_comesOut_53 : decode cX8_comesOut 53 = .ok (.ishl, 1) := by decide +kernel
theorem dX8_comesOut_54 : decode cX8_comesOut 54 = .ok (.ior, 1) := by decide +kernel
theorem dX8_comesOut_55 : decode cX8_comesOut 55 = .ok (.iload 7, 2) := by decide +kernel
theorem dX8_comesOut_57 : decode cX8_comesOut 57 = .ok (.ior, 1) := by decide +kernel
theorem dX8_comesOut_58 : decode cX8_comesOut 58 = .ok (.istore 10, 2) := by decide +kernel
theorem dX8_comesOut_60 : decode cX8_comesOut 60 = .ok (.aload_n 0, 1) := by decide +kernel
theorem dX8_comesOut_61 : decode cX8_comesOut 61 = .ok (.getfield 11, 3) := by decide +kernel
theorem dX8_comesOut_64 : decode cX8_comesOut 64 = .ok (.aload_n 0, 1) := by decide +kernel
theorem dX8_comesOut_65 : decode cX8_comesOut 65 = .ok (.getfield 15, 3) := by decide +kernel
theorem dX8_comesOut_68 : decode cX8_comesOut 68 = .ok (.iload 10, 2) := by decide +kernel
theorem dX8_comesOut_70 : decode cX8_comesOut 70 = .ok (.iastore, 1) := by decide +kernel
theorem dX8_comesOut_71 : decode cX8_comesOut 71 = .ok (.aload_n 0, 1) := by decide +kernel
theorem dX8_comesOut_72 : decode cX8_comesOut 72 = .ok (.getfield 24, 3) := by decide +kernel
theorem dX8_comesOut_75 : decode cX8_comesOut 75 = .ok (.getfield 44, 3) := by decide +kernel
theorem dX8_comesOut_78 : decode cX8_comesOut 78 = .ok (.iload 4, 2) := by decide +kernel
theorem dX8_comesOut_80 : decode cX8_comesOut 80 = .ok (.iaload, 1) := by decide +kernel
theorem dX8_comesOut_81 : decode cX8_comesOut 81 = .ok (.istore 11, 2) := by decide +kernel
theorem dX8_comesOut_83 : decode cX8_comesOut 83 = .ok (.aload_n 0, 1) := by decide +kernel
theorem dX8_comesOut_84 : decode cX8_comesOut 84 = .ok (.getfield 24, 3) := by decide +kernel
theorem dX8_comesOut_87 : decode cX8_comesOut 87 = .ok (.getfield 47, 3) := by decide +kernel
theorem dX8_comesOut_90 : decode cX8_comesOut 90 = .ok (.iload 11, 2) := by decide +kernel
theorem dX8_comesOut_92 : decode cX8_comesOut 92 = .ok (.invokestatic 50, 3) := by decide +kernel
theorem dX8_comesOut_95 : decode cX8_comesOut 95 = .ok (.ifCond .eq 5, 3) := by decide +kernel
theorem dX8_comesOut_98 : decode cX8_comesOut 98 = .ok (.iconst 1, 1) := by decide +kernel
theorem dX8_comesOut_99 : decode cX8_comesOut 99 = .ok (.ireturn, 1) := by decide +kernel
theorem dX8_comesOut_100 : decode cX8_comesOut 100 = .ok (.iload 10, 2) := by decide +kernel
theorem dX8_comesOut_102 : decode cX8_comesOut 102 = .ok (.iload 8, 2) := by decide +kernel
theorem dX8_comesOut_104 : decode cX8_comesOut 104 = .ok (.if_icmp .eq 13, 3) := by decide +kernel
theorem dX8_comesOut_107 : decode cX8_comesOut 107 = .ok (.aload_n 0, 1) := by decide +kernel
theorem dX8_comesOut_108 : decode cX8_comesOut 108 = .ok (.getfield 15, 3) := by decide +kernel
theorem dX8_comesOut_111 : decode cX8_comesOut 111 = .ok (.sipush 1500, 3) := by decide +kernel
theorem dX8_comesOut_114 : decode cX8_comesOut 114 = .ok (.if_icmp .ne 5, 3) := by decide +kernel
theorem dX8_comesOut_117 : decode cX8_comesOut 117 = .ok (.iconst 0, 1) := by decide +kernel
theorem dX8_comesOut_118 : decode cX8_comesOut 118 = .ok (.ireturn, 1) := by decide +kernel
theorem dX8_comesOut_119 : decode cX8_comesOut 119 = .ok (.aload_n 0, 1) := by decide +kernel
theorem dX8_comesOut_120 : decode cX8_comesOut 120 = .ok (.getfield 15, 3) := by decide +kernel
theorem dX8_comesOut_123 : decode cX8_comesOut 123 = .ok (.iload 9, 2) := by decide +kernel
theorem dX8_comesOut_125 : decode cX8_comesOut 125 = .ok (.if_icmp .ne 17, 3) := by decide +kernel
theorem dX8_comesOut_128 : decode cX8_comesOut 128 = .ok (.iload 10, 2) := by decide +kernel
theorem dX8_comesOut_130 : decode cX8_comesOut 130 = .ok (.istore 8, 2) := by decide +kernel
theorem dX8_comesOut_132 : decode cX8_comesOut 132 = .ok (.iconst 2, 1) := by decide +kernel
theorem dX8_comesOut_133 : decode cX8_comesOut 133 = .ok (.aload_n 0, 1) := by decide +kernel
theorem dX8_comesOut_134 : decode cX8_comesOut 134 = .ok (.getfield 15, 3) := by decide +kernel
theorem dX8_comesOut_137 : decode cX8_comesOut 137 = .ok (.imul, 1) := by decide +kernel
theorem dX8_comesOut_138 : decode cX8_comesOut 138 = .ok (.iconst 1, 1) := by decide +kernel
theorem dX8_comesOut_139 : decode cX8_comesOut 139 = .ok (.iadd, 1) := by decide +kernel
theorem dX8_comesOut_140 : decode cX8_comesOut 140 = .ok (.istore 9, 2) := by decide +kernel
theorem dX8_comesOut_142 : decode cX8_comesOut 142 = .ok (.aload_n 0, 1) := by decide +kernel
theorem dX8_comesOut_143 : decode cX8_comesOut 143 = .ok (.getfield 28, 3) := by decide +kernel
theorem dX8_comesOut_146 : decode cX8_comesOut 146 = .ok (.iload 5, 2) := by decide +kernel
theorem dX8_comesOut_148 : decode cX8_comesOut 148 = .ok (.iload 6, 2) := by decide +kernel
theorem dX8_comesOut_150 : decode cX8_comesOut 150 = .ok (.iload 11, 2) := by decide +kernel
theorem dX8_comesOut_152 : decode cX8_comesOut 152 = .ok (.invokestatic 50, 3) := by decide +kernel
theorem dX8_comesOut_155 : decode cX8_comesOut 155 = .ok (.invokevirtual 54, 3) := by decide +kernel
theorem dX8_comesOut_158 : decode cX8_comesOut 158 = .ok (.istore 12, 2) := by decide +kernel
theorem dX8_comesOut_160 : decode cX8_comesOut 160 = .ok (.aload_n 0, 1) := by decide +kernel
theorem dX8_comesOut_161 : decode cX8_comesOut 161 = .ok (.getfield 28, 3) := by decide +kernel
theorem dX8_comesOut_164 : decode cX8_comesOut 164 = .ok (.iload 12, 2) := by decide +kernel
theorem dX8_comesOut_166 : decode cX8_comesOut 166 = .ok (.iload 6, 2) := by decide +kernel
theorem dX8_comesOut_168 : decode cX8_comesOut 168 = .ok (.iload 11, 2) := by decide +kernel
theorem dX8_comesOut_170 : decode cX8_comesOut 170 = .ok (.invokevirtual 58, 3) := by decide +kernel
theorem dX8_comesOut_173 : decode cX8_comesOut 173 = .ok (.istore 6, 2) := by decide +kernel
theorem dX8_comesOut_175 : decode cX8_comesOut 175 = .ok (.aload_n 0, 1) := by decide +kernel
theorem dX8_comesOut_176 : decode cX8_comesOut 176 = .ok (.iload 4, 2) := by decide +kernel
theorem dX8_comesOut_178 : decode cX8_comesOut 178 = .ok (.aload_n 0, 1) := by decide +kernel
theorem dX8_comesOut_179 : decode cX8_comesOut 179 = .ok (.getfield 28, 3) := by decide +kernel
theorem dX8_comesOut_182 : decode cX8_comesOut 182 = .ok (.getfield 62, 3) := by decide +kernel
theorem dX8_comesOut_185 : decode cX8_comesOut 185 = .ok (.iload 12, 2) := by decide +kernel
theorem dX8_comesOut_187 : decode cX8_comesOut 187 = .ok (.iaload, 1) := by decide +kernel
theorem dX8_comesOut_188 : decode cX8_comesOut 188 = .ok (.aload_n 0, 1) := by decide +kernel
theorem dX8_comesOut_189 : decode cX8_comesOut 189 = .ok (.getfield 21, 3) := by decide +kernel
theorem dX8_comesOut_192 : decode cX8_comesOut 192 = .ok (.iload 7, 2) := by decide +kernel
theorem dX8_comesOut_194 : decode cX8_comesOut 194 = .ok (.iaload, 1) := by decide +kernel
theorem dX8_comesOut_195 : decode cX8_comesOut 195 = .ok (.iload_n 3, 1) := by decide +kernel
theorem dX8_comesOut_196 : decode cX8_comesOut 196 = .ok (.iconst (-1), 1) := by decide +kernel
theorem dX8_comesOut_197 : decode cX8_comesOut 197 = .ok (.ixor, 1) := by decide +kernel
theorem dX8_comesOut_198 : decode cX8_comesOut 198 = .ok (.iand, 1) := by decide +kernel
theorem dX8_comesOut_199 : decode cX8_comesOut 199 = .ok (.invokevirtual 65, 3) := by decide +kernel
theorem dX8_comesOut_202 : decode cX8_comesOut 202 = .ok (.istore 4, 2) := by decide +kernel
theorem dX8_comesOut_204 : decode cX8_comesOut 204 = .ok (.aload_n 0, 1) := by decide +kernel
theorem dX8_comesOut_205 : decode cX8_comesOut 205 = .ok (.getfield 28, 3) := by decide +kernel
theorem dX8_comesOut_208 : decode cX8_comesOut 208 = .ok (.getfield 68, 3) := by decide +kernel
theorem dX8_comesOut_211 : decode cX8_comesOut 211 = .ok (.iload 12, 2) := by decide +kernel
theorem dX8_comesOut_213 : decode cX8_comesOut 213 = .ok (.iaload, 1) := by decide +kernel
theorem dX8_comesOut_214 : decode cX8_comesOut 214 = .ok (.istore 5, 2) := by decide +kernel
theorem dX8_comesOut_216 : decode cX8_comesOut 216 = .ok (.iload 7, 2) := by decide +kernel
theorem dX8_comesOut_218 : decode cX8_comesOut 218 = .ok (.iconst 1, 1) := by decide +kernel
theorem dX8_comesOut_219 : decode cX8_comesOut 219 = .ok (.iadd, 1) := by decide +kernel
theorem dX8_comesOut_220 : decode cX8_comesOut 220 = .ok (.aload_n 0, 1) := by decide +kernel
theorem dX8_comesOut_221 : decode cX8_comesOut 221 = .ok (.getfield 24, 3) := by decide +kernel
theorem dX8_comesOut_224 : decode cX8_comesOut 224 = .ok (.getfield 32, 3) := by decide +kernel
theorem dX8_comesOut_227 : decode cX8_comesOut 227 = .ok (.if_icmp .ge 10, 3) := by decide +kernel
theorem dX8_comesOut_230 : decode cX8_comesOut 230 = .ok (.iload 7, 2) := by decide +kernel
theorem dX8_comesOut_232 : decode cX8_comesOut 232 = .ok (.iconst 1, 1) := by decide +kernel
theorem dX8_comesOut_233 : decode cX8_comesOut 233 = .ok (.iadd, 1) := by decide +kernel
theorem dX8_comesOut_234 : decode cX8_comesOut 234 = .ok (.goto 4, 3) := by decide +kernel
theorem dX8_comesOut_237 : decode cX8_comesOut 237 = .ok (.iconst 0, 1) := by decide +kernel
theorem dX8_comesOut_238 : decode cX8_comesOut 238 = .ok (.istore 7, 2) := by decide +kernel
theorem dX8_comesOut_240 : decode cX8_comesOut 240 = .ok (.aload_n 0, 1) := by decide +kernel
theorem dX8_comesOut_241 : decode cX8_comesOut 241 = .ok (.dup, 1) := by decide +kernel
theorem dX8_comesOut_242 : decode cX8_comesOut 242 = .ok (.getfield 15, 3) := by decide +kernel
theorem dX8_comesOut_245 : decode cX8_comesOut 245 = .ok (.iconst 1, 1) := by decide +kernel
theorem dX8_comesOut_246 : decode cX8_comesOut 246 = .ok (.iadd, 1) := by decide +kernel
theorem dX8_comesOut_247 : decode cX8_comesOut 247 = .ok (.putfield 15, 3) := by decide +kernel
theorem dX8_comesOut_250 : decode cX8_comesOut 250 = .ok (.goto (-221), 3) := by decide +kernel
theorem dX8_comesOut_253 : decode cX8_comesOut 253 = .ok (.iconst 0, 1) := by decide +kernel
theorem dX8_comesOut_254 : decode cX8_comesOut 254 = .ok (.ireturn, 1) := by decide +kernel
theorem dX8_placeBehind_0 : decode cX8_placeBehind 0 = .ok (.aload_n 0, 1) := by decide +kernel
theorem dX8_placeBehind_1 : decode cX8_placeBehind 1 = .ok (.getfield 24, 3) := by decide +kernel
theorem dX8_placeBehind_4 : decode cX8_placeBehind 4 = .ok (.getfield 44, 3) := by decide +kernel
theorem dX8_placeBehind_7 : decode cX8_placeBehind 7 = .ok (.iload_n 1, 1) := by decide +kernel
theorem dX8_placeBehind_8 : decode cX8_placeBehind 8 = .ok (.iaload, 1) := by decide +kernel
theorem dX8_placeBehind_9 : decode cX8_placeBehind 9 = .ok (.istore 4, 2) := by decide +kernel
theorem dX8_placeBehind_11 : decode cX8_placeBehind 11 = .ok (.aload_n 0, 1) := by decide +kernel
theorem dX8_placeBehind_12 : decode cX8_placeBehind 12 = .ok (.getfield 24, 3) := by decide +kernel
theorem dX8_placeBehind_15 : decode cX8_placeBehind 15 = .ok (.getfield 71, 3) := by decide +kernel
theorem dX8_placeBehind_18 : decode cX8_placeBehind 18 = .ok (.iload 4, 2) := by decide +kernel
theorem dX8_placeBehind_20 : decode cX8_placeBehind 20 = .ok (.iaload, 1) := by decide +kernel
theorem dX8_placeBehind_21 : decode cX8_placeBehind 21 = .ok (.istore 5, 2) := by decide +kernel
theorem dX8_placeBehind_23 : decode cX8_placeBehind 23 = .ok (.aload_n 0, 1) := by decide +kernel
theorem dX8_placeBehind_24 : decode cX8_placeBehind 24 = .ok (.getfield 24, 3) := by decide +kernel
theorem dX8_placeBehind_27 : decode cX8_placeBehind 27 = .ok (.getfield 74, 3) := by decide +kernel
theorem dX8_placeBehind_30 : decode cX8_placeBehind 30 = .ok (.iload 4, 2) := by decide +kernel
theorem dX8_placeBehind_32 : decode cX8_placeBehind 32 = .ok (.iaload, 1) := by decide +kernel
theorem dX8_placeBehind_33 : decode cX8_placeBehind 33 = .ok (.istore 6, 2) := by decide +kernel
theorem dX8_placeBehind_35 : decode cX8_placeBehind 35 = .ok (.iload_n 3, 1) := by decide +kernel
theorem dX8_placeBehind_36 : decode cX8_placeBehind 36 = .ok (.iload 5, 2) := by decide +kernel
theorem dX8_placeBehind_38 : decode cX8_placeBehind 38 = .ok (.iushr, 1) := by decide +kernel
theorem dX8_placeBehind_39 : decode cX8_placeBehind 39 = .ok (.iconst 1, 1) := by decide +kernel
theorem dX8_placeBehind_40 : decode cX8_placeBehind 40 = .ok (.iload 6, 2) := by decide +kernel
theorem dX8_placeBehind_42 : decode cX8_placeBehind 42 = .ok (.ishl, 1) := by decide +kernel
theorem dX8_placeBehind_43 : decode cX8_placeBehind 43 = .ok (.iconst 1, 1) := by decide +kernel
theorem dX8_placeBehind_44 : decode cX8_placeBehind 44 = .ok (.isub, 1) := by decide +kernel
theorem dX8_placeBehind_45 : decode cX8_placeBehind 45 = .ok (.iand, 1) := by decide +kernel
theorem dX8_placeBehind_46 : decode cX8_placeBehind 46 = .ok (.istore 7, 2) := by decide +kernel
theorem dX8_placeBehind_48 : decode cX8_placeBehind 48 = .ok (.iload 7, 2) := by decide +kernel
theorem dX8_placeBehind_50 : decode cX8_placeBehind 50 = .ok (.invokestatic 77, 3) := by decide +kernel
theorem dX8_placeBehind_53 : decode cX8_placeBehind 53 = .ok (.istore 8, 2) := by decide +kernel
theorem dX8_placeBehind_55 : decode cX8_placeBehind 55 = .ok (.iload 8, 2) := by decide +kernel
theorem dX8_placeBehind_57 : decode cX8_placeBehind 57 = .ok (.ifCond .ne 5, 3) := by decide +kernel
theorem dX8_placeBehind_60 : decode cX8_placeBehind 60 = .ok (.iload_n 1, 1) := by decide +kernel
theorem dX8_placeBehind_61 : decode cX8_placeBehind 61 = .ok (.ireturn, 1) := by decide +kernel
theorem dX8_placeBehind_62 : decode cX8_placeBehind 62 = .ok (.aload_n 0, 1) := by decide +kernel
theorem dX8_placeBehind_63 : decode cX8_placeBehind 63 = .ok (.getfield 24, 3) := by decide +kernel
theorem dX8_placeBehind_66 : decode cX8_placeBehind 66 = .ok (.getfield 82, 3) := by decide +kernel
theorem dX8_placeBehind_69 : decode cX8_placeBehind 69 = .ok (.iload_n 1, 1) := by decide +kernel
theorem dX8_placeBehind_70 : decode cX8_placeBehind 70 = .ok (.iaload, 1) := by decide +kernel
theorem dX8_placeBehind_71 : decode cX8_placeBehind 71 = .ok (.istore 9, 2) := by decide +kernel
theorem dX8_placeBehind_73 : decode cX8_placeBehind 73 = .ok (.iload_n 2, 1) := by decide +kernel
theorem dX8_placeBehind_74 : decode cX8_placeBehind 74 = .ok (.ifCond .ne 23, 3) := by decide +kernel
theorem dX8_placeBehind_77 : decode cX8_placeBehind 77 = .ok (.iload 7, 2) := by decide +kernel
theorem dX8_placeBehind_79 : decode cX8_placeBehind 79 = .ok (.iload 9, 2) := by decide +kernel
theorem dX8_placeBehind_81 : decode cX8_placeBehind 81 = .ok (.invokestatic 50, 3) := by decide +kernel
theorem dX8_placeBehind_84 : decode cX8_placeBehind 84 = .ok (.ifCond .eq 13, 3) := by decide +kernel
theorem dX8_placeBehind_87 : decode cX8_placeBehind 87 = .ok (.aload_n 0, 1) := by decide +kernel
theorem dX8_placeBehind_88 : decode cX8_placeBehind 88 = .ok (.getfield 24, 3) := by decide +kernel
theorem dX8_placeBehind_91 : decode cX8_placeBehind 91 = .ok (.getfield 85, 3) := by decide +kernel
theorem dX8_placeBehind_94 : decode cX8_placeBehind 94 = .ok (.iload_n 1, 1) := by decide +kernel
theorem dX8_placeBehind_95 : decode cX8_placeBehind 95 = .ok (.iaload, 1) := by decide +kernel
theorem dX8_placeBehind_96 : decode cX8_placeBehind 96 = .ok (.ireturn, 1) := by decide +kernel
theorem dX8_placeBehind_97 : decode cX8_placeBehind 97 = .ok (.iload_n 2, 1) := by decide +kernel
theorem dX8_placeBehind_98 : decode cX8_placeBehind 98 = .ok (.ifCond .ne 7, 3) := by decide +kernel
theorem dX8_placeBehind_101 : decode cX8_placeBehind 101 = .ok (.iconst 1, 1) := by decide +kernel
theorem dX8_placeBehind_102 : decode cX8_placeBehind 102 = .ok (.goto 11, 3) := by decide +kernel
theorem dX8_placeBehind_105 : decode cX8_placeBehind 105 = .ok (.iload_n 2, 1) := by decide +kernel
theorem dX8_placeBehind_106 : decode cX8_placeBehind 106 = .ok (.iconst 1, 1) := by decide +kernel
theorem dX8_placeBehind_107 : decode cX8_placeBehind 107 = .ok (.isub, 1) := by decide +kernel
theorem dX8_placeBehind_108 : decode cX8_placeBehind 108 = .ok (.iload 8, 2) := by decide +kernel
theorem dX8_placeBehind_110 : decode cX8_placeBehind 110 = .ok (.irem, 1) := by decide +kernel
theorem dX8_placeBehind_111 : decode cX8_placeBehind 111 = .ok (.iconst 1, 1) := by decide +kernel
theorem dX8_placeBehind_112 : decode cX8_placeBehind 112 = .ok (.iadd, 1) := by decide +kernel
theorem dX8_placeBehind_113 : decode cX8_placeBehind 113 = .ok (.istore 10, 2) := by decide +kernel
theorem dX8_placeBehind_115 : decode cX8_placeBehind 115 = .ok (.iconst 0, 1) := by decide +kernel
theorem dX8_placeBehind_116 : decode cX8_placeBehind 116 = .ok (.istore 11, 2) := by decide +kernel
theorem dX8_placeBehind_118 : decode cX8_placeBehind 118 = .ok (.iload 11, 2) := by decide +kernel
theorem dX8_placeBehind_120 : decode cX8_placeBehind 120 = .ok (.iload 6, 2) := by decide +kernel
theorem dX8_placeBehind_122 : decode cX8_placeBehind 122 = .ok (.if_icmp .ge 45, 3) := by decide +kernel
theorem dX8_placeBehind_125 : decode cX8_placeBehind 125 = .ok (.iload 10, 2) := by decide +kernel
theorem dX8_placeBehind_127 : decode cX8_placeBehind 127 = .ok (.ifCond .le 40, 3) := by decide +kernel
theorem dX8_placeBehind_130 : decode cX8_placeBehind 130 = .ok (.iload 9, 2) := by decide +kernel
theorem dX8_placeBehind_132 : decode cX8_placeBehind 132 = .ok (.iconst 1, 1) := by decide +kernel
theorem dX8_placeBehind_133 : decode cX8_placeBehind 133 = .ok (.iadd, 1) := by decide +kernel
theorem dX8_placeBehind_134 : decode cX8_placeBehind 134 = .ok (.iload 6, 2) := by decide +kernel
theorem dX8_placeBehind_136 : decode cX8_placeBehind 136 = .ok (.if_icmp .ge 10, 3) := by decide +kernel
theorem dX8_placeBehind_139 : decode cX8_placeBehind 139 = .ok (.iload 9, 2) := by decide +kernel
theorem dX8_placeBehind_141 : decode cX8_placeBehind 141 = .ok (.iconst 1, 1) := by decide +kernel
theorem dX8_placeBehind_142 : decode cX8_placeBehind 142 = .ok (.iadd, 1) := by decide +kernel
theorem dX8_placeBehind_143 : decode cX8_placeBehind 143 = .ok (.goto 4, 3) := by decide +kernel
theorem dX8_placeBehind_146 : decode cX8_placeBehind 146 = .ok (.iconst 0, 1) := by decide +kernel
theorem dX8_placeBehind_147 : decode cX8_placeBehind 147 = .ok (.istore 9, 2) := by decide +kernel
theorem dX8_placeBehind_149 : decode cX8_placeBehind 149 = .ok (.iload 10, 2) := by decide +kernel
theorem dX8_placeBehind_151 : decode cX8_placeBehind 151 = .ok (.iload 7, 2) := by decide +kernel
theorem dX8_placeBehind_153 : decode cX8_placeBehind 153 = .ok (.iload 9, 2) := by decide +kernel
theorem dX8_placeBehind_155 : decode cX8_placeBehind 155 = .ok (.iushr, 1) := by decide +kernel
theorem dX8_placeBehind_156 : decode cX8_placeBehind 156 = .ok (.iconst 1, 1) := by decide +kernel
theorem dX8_placeBehind_157 : decode cX8_placeBehind 157 = .ok (.iand, 1) := by decide +kernel
theorem dX8_placeBehind_158 : decode cX8_placeBehind 158 = .ok (.isub, 1) := by decide +kernel
theorem dX8_placeBehind_159 : decode cX8_placeBehind 159 = .ok (.istore 10, 2) := by decide +kernel
theorem dX8_placeBehind_161 : decode cX8_placeBehind 161 = .ok (.iinc 11 1, 3) := by decide +kernel
theorem dX8_placeBehind_164 : decode cX8_placeBehind 164 = .ok (.goto (-46), 3) := by decide +kernel
theorem dX8_placeBehind_167 : decode cX8_placeBehind 167 = .ok (.aload_n 0, 1) := by decide +kernel
theorem dX8_placeBehind_168 : decode cX8_placeBehind 168 = .ok (.getfield 24, 3) := by decide +kernel
theorem dX8_placeBehind_171 : decode cX8_placeBehind 171 = .ok (.getfield 85, 3) := by decide +kernel
theorem dX8_placeBehind_174 : decode cX8_placeBehind 174 = .ok (.iload 5, 2) := by decide +kernel
theorem dX8_placeBehind_176 : decode cX8_placeBehind 176 = .ok (.iload 9, 2) := by decide +kernel
theorem dX8_placeBehind_178 : decode cX8_placeBehind 178 = .ok (.iadd, 1) := by decide +kernel
theorem dX8_placeBehind_179 : decode cX8_placeBehind 179 = .ok (.iaload, 1) := by decide +kernel
theorem dX8_placeBehind_180 : decode cX8_placeBehind 180 = .ok (.ireturn, 1) := by decide +kernel
theorem dX8_lap_0 : decode cX8_lap 0 = .ok (.aload_n 0, 1) := by decide +kernel
theorem dX8_lap_1 : decode cX8_lap 1 = .ok (.getfield 15, 3) := by decide +kernel
theorem dX8_lap_4 : decode cX8_lap 4 = .ok (.iconst 1, 1) := by decide +kernel
theorem dX8_lap_5 : decode cX8_lap 5 = .ok (.isub, 1) := by decide +kernel
theorem dX8_lap_6 : decode cX8_lap 6 = .ok (.istore_n 1, 1) := by decide +kernel
theorem dX8_lap_7 : decode cX8_lap 7 = .ok (.iload_n 1, 1) := by decide +kernel
theorem dX8_lap_8 : decode cX8_lap 8 = .ok (.ifCond .lt 34, 3) := by decide +kernel
theorem dX8_lap_11 : decode cX8_lap 11 = .ok (.aload_n 0, 1) := by decide +kernel
theorem dX8_lap_12 : decode cX8_lap 12 = .ok (.getfield 11, 3) := by decide +kernel
theorem dX8_lap_15 : decode cX8_lap 15 = .ok (.iload_n 1, 1) := by decide +kernel
theorem dX8_lap_16 : decode cX8_lap 16 = .ok (.iaload, 1) := by decide +kernel
theorem dX8_lap_17 : decode cX8_lap 17 = .ok (.aload_n 0, 1) := by decide +kernel
theorem dX8_lap_18 : decode cX8_lap 18 = .ok (.getfield 11, 3) := by decide +kernel
theorem dX8_lap_21 : decode cX8_lap 21 = .ok (.aload_n 0, 1) := by decide +kernel
theorem dX8_lap_22 : decode cX8_lap 22 = .ok (.getfield 15, 3) := by decide +kernel
theorem dX8_lap_25 : decode cX8_lap 25 = .ok (.iaload, 1) := by decide +kernel
theorem dX8_lap_26 : decode cX8_lap 26 = .ok (.if_icmp .ne 10, 3) := by decide +kernel
theorem dX8_lap_29 : decode cX8_lap 29 = .ok (.aload_n 0, 1) := by decide +kernel
theorem dX8_lap_30 : decode cX8_lap 30 = .ok (.getfield 15, 3) := by decide +kernel
theorem dX8_lap_33 : decode cX8_lap 33 = .ok (.iload_n 1, 1) := by decide +kernel
theorem dX8_lap_34 : decode cX8_lap 34 = .ok (.isub, 1) := by decide +kernel
theorem dX8_lap_35 : decode cX8_lap 35 = .ok (.ireturn, 1) := by decide +kernel
theorem dX8_lap_36 : decode cX8_lap 36 = .ok (.iinc 1 (-1), 3) := by decide +kernel
theorem dX8_lap_39 : decode cX8_lap 39 = .ok (.goto (-32), 3) := by decide +kernel
theorem dX8_lap_42 : decode cX8_lap 42 = .ok (.iconst (-1), 1) := by decide +kernel
theorem dX8_lap_43 : decode cX8_lap 43 = .ok (.ireturn, 1) := by decide +kernel
theorem dX8_lead_0 : decode cX8_lead 0 = .ok (.iconst 0, 1) := by decide +kernel
theorem dX8_lead_1 : decode cX8_lead 1 = .ok (.istore_n 2, 1) := by decide +kernel
theorem dX8_lead_2 : decode cX8_lead 2 = .ok (.iload_n 2, 1) := by decide +kernel
theorem dX8_lead_3 : decode cX8_lead 3 = .ok (.iload_n 1, 1) := by decide +kernel
theorem dX8_lead_4 : decode cX8_lead 4 = .ok (.iadd, 1) := by decide +kernel
theorem dX8_lead_5 : decode cX8_lead 5 = .ok (.aload_n 0, 1) := by decide +kernel
theorem dX8_lead_6 : decode cX8_lead 6 = .ok (.getfield 15, 3) := by decide +kernel
theorem dX8_lead_9 : decode cX8_lead 9 = .ok (.if_icmp .gt 28, 3) := by decide +kernel
theorem dX8_lead_12 : decode cX8_lead 12 = .ok (.aload_n 0, 1) := by decide +kernel
theorem dX8_lead_13 : decode cX8_lead 13 = .ok (.getfield 11, 3) := by decide +kernel
theorem dX8_lead_16 : decode cX8_lead 16 = .ok (.iload_n 2, 1) := by decide +kernel
theorem dX8_lead_17 : decode cX8_lead 17 = .ok (.iaload, 1) := by decide +kernel
theorem dX8_lead_18 : decode cX8_lead 18 = .ok (.aload_n 0, 1) := by decide +kernel
theorem dX8_lead_19 : decode cX8_lead 19 = .ok (.getfield 11, 3) := by decide +kernel
theorem dX8_lead_22 : decode cX8_lead 22 = .ok (.iload_n 2, 1) := by decide +kernel
theorem dX8_lead_23 : decode cX8_lead 23 = .ok (.iload_n 1, 1) := by decide +kernel
theorem dX8_lead_24 : decode cX8_lead 24 = .ok (.iadd, 1) := by decide +kernel
theorem dX8_lead_25 : decode cX8_lead 25 = .ok (.iaload, 1) := by decide +kernel
theorem dX8_lead_26 : decode cX8_lead 26 = .ok (.if_icmp .ne 5, 3) := by decide +kernel
theorem dX8_lead_29 : decode cX8_lead 29 = .ok (.iload_n 2, 1) := by decide +kernel
theorem dX8_lead_30 : decode cX8_lead 30 = .ok (.ireturn, 1) := by decide +kernel
theorem dX8_lead_31 : decode cX8_lead 31 = .ok (.iinc 2 1, 3) := by decide +kernel
theorem dX8_lead_34 : decode cX8_lead 34 = .ok (.goto (-32), 3) := by decide +kernel
theorem dX8_lead_37 : decode cX8_lead 37 = .ok (.iconst (-1), 1) := by decide +kernel
theorem dX8_lead_38 : decode cX8_lead 38 = .ok (.ireturn, 1) := by decide +kernel
theorem dX9_init_0 : decode cX9_init 0 = .ok (.aload_n 0, 1) := by decide +kernel
theorem dX9_init_1 : decode cX9_init 1 = .ok (.invokespecial 1, 3) := by decide +kernel
theorem dX9_init_4 : decode cX9_init 4 = .ok (.aload_n 0, 1) := by decide +kernel
theorem dX9_init_5 : decode cX9_init 5 = .ok (.new 7, 3) := by decide +kernel
theorem dX9_init_8 : decode cX9_init 8 = .ok (.dup, 1) := by decide +kernel
theorem dX9_init_9 : decode cX9_init 9 = .ok (.invokespecial 9, 3) := by decide +kernel
theorem dX9_init_12 : decode cX9_init 12 = .ok (.putfield 10, 3) := by decide +kernel
theorem dX9_init_15 : decode cX9_init 15 = .ok (.aload_n 0, 1) := by decide +kernel
theorem dX9_init_16 : decode cX9_init 16 = .ok (.new 16, 3) := by decide +kernel
theorem dX9_init_19 : decode cX9_init 19 = .ok (.dup, 1) := by decide +kernel
theorem dX9_init_20 : decode cX9_init 20 = .ok (.aload_n 0, 1) := by decide +kernel
theorem dX9_init_21 : decode cX9_init 21 = .ok (.getfield 10, 3) := by decide +kernel
theorem dX9_init_24 : decode cX9_init 24 = .ok (.invokespecial 18, 3) := by decide +kernel
theorem dX9_init_27 : decode cX9_init 27 = .ok (.putfield 21, 3) := by decide +kernel
theorem dX9_init_30 : decode cX9_init 30 = .ok (.aload_n 0, 1) := by decide +kernel
theorem dX9_init_31 : decode cX9_init 31 = .ok (.new 25, 3) := by decide +kernel
theorem dX9_init_34 : decode cX9_init 34 = .ok (.dup, 1) := by decide +kernel
theorem dX9_init_35 : decode cX9_init 35 = .ok (.invokespecial 27, 3) := by decide +kernel
theorem dX9_init_38 : decode cX9_init 38 = .ok (.putfield 28, 3) := by decide +kernel
theorem dX9_init_41 : decode cX9_init 41 = .ok (.aload_n 0, 1) := by decide +kernel
theorem dX9_init_42 : decode cX9_init 42 = .ok (.new 32, 3) := by decide +kernel
theorem dX9_init_45 : decode cX9_init 45 = .ok (.dup, 1) := by decide +kernel
theorem dX9_init_46 : decode cX9_init 46 = .ok (.invokespecial 34, 3) := by decide +kernel
theorem dX9_init_49 : decode cX9_init 49 = .ok (.putfield 35, 3) := by decide +kernel
theorem dX9_init_52 : decode cX9_init 52 = .ok (.aload_n 0, 1) := by decide +kernel
theorem dX9_init_53 : decode cX9_init 53 = .ok (.new 32, 3) := by decide +kernel
theorem dX9_init_56 : decode cX9_init 56 = .ok (.dup, 1) := by decide +kernel
theorem dX9_init_57 : decode cX9_init 57 = .ok (.invokespecial 34, 3) := by decide +kernel
theorem dX9_init_60 : decode cX9_init 60 = .ok (.putfield 39, 3) := by decide +kernel
theorem dX9_init_63 : decode cX9_init 63 = .ok (.aload_n 0, 1) := by decide +kernel
theorem dX9_init_64 : decode cX9_init 64 = .ok (.new 42, 3) := by decide +kernel
theorem dX9_init_67 : decode cX9_init 67 = .ok (.dup, 1) := by decide +kernel
theorem dX9_init_68 : decode cX9_init 68 = .ok (.aload_n 0, 1) := by decide +kernel
theorem dX9_init_69 : decode cX9_init 69 = .ok (.getfield 28, 3) := by decide +kernel
theorem dX9_init_72 : decode cX9_init 72 = .ok (.aload_n 0, 1) := by decide +kernel
theorem dX9_init_73 : decode cX9_init 73 = .ok (.getfield 35, 3) := by decide +kernel
theorem dX9_init_76 : decode cX9_init 76 = .ok (.invokespecial 44, 3) := by decide +kernel
theorem dX9_init_79 : decode cX9_init 79 = .ok (.putfield 47, 3) := by decide +kernel
theorem dX9_init_82 : decode cX9_init 82 = .ok (.aload_n 0, 1) := by decide +kernel
theorem dX9_init_83 : decode cX9_init 83 = .ok (.new 51, 3) := by decide +kernel
theorem dX9_init_86 : decode cX9_init 86 = .ok (.dup, 1) := by decide +kernel
theorem dX9_init_87 : decode cX9_init 87 = .ok (.invokespecial 53, 3) := by decide +kernel
theorem dX9_init_90 : decode cX9_init 90 = .ok (.putfield 54, 3) := by decide +kernel
theorem dX9_init_93 : decode cX9_init 93 = .ok (.aload_n 0, 1) := by decide +kernel
theorem dX9_init_94 : decode cX9_init 94 = .ok (.new 58, 3) := by decide +kernel
theorem dX9_init_97 : decode cX9_init 97 = .ok (.dup, 1) := by decide +kernel
theorem dX9_init_98 : decode cX9_init 98 = .ok (.aload_n 0, 1) := by decide +kernel
theorem dX9_init_99 : decode cX9_init 99 = .ok (.getfield 28, 3) := by decide +kernel
theorem dX9_init_102 : decode cX9_init 102 = .ok (.aload_n 0, 1) := by decide +kernel
theorem dX9_init_103 : decode cX9_init 103 = .ok (.getfield 47, 3) := by decide +kernel
theorem dX9_init_106 : decode cX9_init 106 = .ok (.invokespecial 60, 3) := by decide +kernel
theorem dX9_init_109 : decode cX9_init 109 = .ok (.putfield 63, 3) := by decide +kernel
theorem dX9_init_112 : decode cX9_init 112 = .ok (.aload_n 0, 1) := by decide +kernel
theorem dX9_init_113 : decode cX9_init 113 = .ok (.new 67, 3) := by decide +kernel
theorem dX9_init_116 : decode cX9_init 116 = .ok (.dup, 1) := by decide +kernel
theorem dX9_init_117 : decode cX9_init 117 = .ok (.aload_n 0, 1) := by decide +kernel
theorem dX9_init_118 : decode cX9_init 118 = .ok (.getfield 28, 3) := by decide +kernel
theorem dX9_init_121 : decode cX9_init 121 = .ok (.invokespecial 69, 3) := by decide +kernel
theorem dX9_init_124 : decode cX9_init 124 = .ok (.putfield 72, 3) := by decide +kernel
theorem dX9_init_127 : decode cX9_init 127 = .ok (.aload_n 0, 1) := by decide +kernel
theorem dX9_init_128 : decode cX9_init 128 = .ok (.new 76, 3) := by decide +kernel
theorem dX9_init_131 : decode cX9_init 131 = .ok (.dup, 1) := by decide +kernel
theorem dX9_init_132 : decode cX9_init 132 = .ok (.aload_n 0, 1) := by decide +kernel
theorem dX9_init_133 : decode cX9_init 133 = .ok (.getfield 28, 3) := by decide +kernel
theorem dX9_init_136 : decode cX9_init 136 = .ok (.invokespecial 78, 3) := by decide +kernel
theorem dX9_init_139 : decode cX9_init 139 = .ok (.putfield 79, 3) := by decide +kernel
theorem dX9_init_142 : decode cX9_init 142 = .ok (.return_, 1) := by decide +kernel
theorem dX9_feed_0 : decode cX9_feed 0 = .ok (.aload_n 0, 1) := by decide +kernel
theorem dX9_feed_1 : decode cX9_feed 1 = .ok (.getfield 10, 3) := by decide +kernel
theorem dX9_feed_4 : decode cX9_feed 4 = .ok (.invokevirtual 83, 3) := by decide +kernel
theorem dX9_feed_7 : decode cX9_feed 7 = .ok (.ifCond .ne 5, 3) := by decide +kernel
theorem dX9_feed_10 : decode cX9_feed 10 = .ok (.iconst (-1), 1) := by decide +kernel
theorem dX9_feed_11 : decode cX9_feed 11 = .ok (.ireturn, 1) := by decide +kernel
theorem dX9_feed_12 : decode cX9_feed 12 = .ok (.aload_n 0, 1) := by decide +kernel
theorem dX9_feed_13 : decode cX9_feed 13 = .ok (.getfield 10, 3) := by decide +kernel
theorem dX9_feed_16 : decode cX9_feed 16 = .ok (.iload_n 1, 1) := by decide +kernel
theorem dX9_feed_17 : decode cX9_feed 17 = .ok (.invokevirtual 87, 3) := by decide +kernel
theorem dX9_feed_20 : decode cX9_feed 20 = .ok (.aload_n 0, 1) := by decide +kernel
theorem dX9_feed_21 : decode cX9_feed 21 = .ok (.getfield 10, 3) := by decide +kernel
theorem dX9_feed_24 : decode cX9_feed 24 = .ok (.iload_n 2, 1) := by decide +kernel
theorem dX9_feed_25 : decode cX9_feed 25 = .ok (.invokevirtual 87, 3) := by decide +kernel
theorem dX9_feed_28 : decode cX9_feed 28 = .ok (.aload_n 0, 1) := by decide +kernel
theorem dX9_feed_29 : decode cX9_feed 29 = .ok (.getfield 10, 3) := by decide +kernel
theorem dX9_feed_32 : decode cX9_feed 32 = .ok (.iload_n 3, 1) := by decide +kernel
theorem dX9_feed_33 : decode cX9_feed 33 = .ok (.invokevirtual 87, 3) := by decide +kernel
theorem dX9_feed_36 : decode cX9_feed 36 = .ok (.aload_n 0, 1) := by decide +kernel
theorem dX9_feed_37 : decode cX9_feed 37 = .ok (.getfield 10, 3) := by decide +kernel
theorem dX9_feed_40 : decode cX9_feed 40 = .ok (.iload 4, 2) := by decide +kernel
theorem dX9_feed_42 : decode cX9_feed 42 = .ok (.invokevirtual 87, 3) := by decide +kernel
theorem dX9_feed_45 : decode cX9_feed 45 = .ok (.aload_n 0, 1) := by decide +kernel
theorem dX9_feed_46 : decode cX9_feed 46 = .ok (.getfield 10, 3) := by decide +kernel
theorem dX9_feed_49 : decode cX9_feed 49 = .ok (.iload 5, 2) := by decide +kernel
theorem dX9_feed_51 : decode cX9_feed 51 = .ok (.invokevirtual 87, 3) := by decide +kernel
theorem dX9_feed_54 : decode cX9_feed 54 = .ok (.aload_n 0, 1) := by decide +kernel
theorem dX9_feed_55 : decode cX9_feed 55 = .ok (.getfield 10, 3) := by decide +kernel
theorem dX9_feed_58 : decode cX9_feed 58 = .ok (.getfield 91, 3) := by decide +kernel
theorem dX9_feed_61 : decode cX9_feed 61 = .ok (.ireturn, 1) := by decide +kernel
theorem dX9_rules_0 : decode cX9_rules 0 = .ok (.iload_n 1, 1) := by decide +kernel
theorem dX9_rules_1 : decode cX9_rules 1 = .ok (.ifCond .lt 14, 3) := by decide +kernel
theorem dX9_rules_4 : decode cX9_rules 4 = .ok (.iload_n 1, 1) := by decide +kernel
theorem dX9_rules_5 : decode cX9_rules 5 = .ok (.aload_n 0, 1) := by decide +kernel
theorem dX9_rules_6 : decode cX9_rules 6 = .ok (.getfield 10, 3) := by decide +kernel
theorem dX9_rules_9 : decode cX9_rules 9 = .ok (.getfield 91, 3) := by decide +kernel
theorem dX9_rules_12 : decode cX9_rules 12 = .ok (.if_icmp .le 6, 3) := by decide +kernel
theorem dX9_rules_15 : decode cX9_rules 15 = .ok (.bipush (-2), 2) := by decide +kernel
theorem dX9_rules_17 : decode cX9_rules 17 = .ok (.ireturn, 1) := by decide +kernel
theorem dX9_rules_18 : decode cX9_rules 18 = .ok (.aload_n 0, 1) := by decide +kernel
theorem dX9_rules_19 : decode cX9_rules 19 = .ok (.getfield 21, 3) := by decide +kernel
theorem dX9_rules_22 : decode cX9_rules 22 = .ok (.iload_n 1, 1) := by decide +kernel
theorem dX9_rules_23 : decode cX9_rules 23 = .ok (.aload_n 0, 1) := by decide +kernel
theorem dX9_rules_24 : decode cX9_rules 24 = .ok (.getfield 39, 3) := by decide +kernel
theorem dX9_rules_27 : decode cX9_rules 27 = .ok (.invokevirtual 95, 3) := by decide +kernel
theorem dX9_rules_30 : decode cX9_rules 30 = .ok (.aload_n 0, 1) := by decide +kernel
theorem dX9_rules_31 : decode cX9_rules 31 = .ok (.getfield 10, 3) := by decide +kernel
theorem dX9_rules_34 : decode cX9_rules 34 = .ok (.iconst 0, 1) := by decide +kernel
theorem dX9_rules_35 : decode cX9_rules 35 = .ok (.putfield 91, 3) := by decide +kernel
theorem dX9_rules_38 : decode cX9_rules 38 = .ok (.aload_n 0, 1) := by decide +kernel
theorem dX9_rules_39 : decode cX9_rules 39 = .ok (.getfield 21, 3) := by decide +kernel
theorem dX9_rules_42 : decode cX9_rules 42 = .ok (.getfield 99, 3) := by decide +kernel
theorem dX9_rules_45 : decode cX9_rules 45 = .ok (.ifCond .eq 5, 3) := by decide +kernel
theorem dX9_rules_48 : decode cX9_rules 48 = .ok (.iconst (-1), 1) := by decide +kernel
theorem dX9_rules_49 : decode cX9_rules 49 = .ok (.ireturn, 1) := by decide +kernel
theorem dX9_rules_50 : decode cX9_rules 50 = .ok (.aload_n 0, 1) := by decide +kernel
theorem dX9_rules_51 : decode cX9_rules 51 = .ok (.getfield 35, 3) := by decide +kernel
theorem dX9_rules_54 : decode cX9_rules 54 = .ok (.astore_n 2, 1) := by decide +kernel
theorem dX9_rules_55 : decode cX9_rules 55 = .ok (.aload_n 0, 1) := by decide +kernel
theorem dX9_rules_56 : decode cX9_rules 56 = .ok (.aload_n 0, 1) := by decide +kernel
theorem dX9_rules_57 : decode cX9_rules 57 = .ok (.getfield 39, 3) := by decide +kernel
theorem dX9_rules_60 : decode cX9_rules 60 = .ok (.putfield 35, 3) := by decide +kernel
theorem dX9_rules_63 : decode cX9_rules 63 = .ok (.aload_n 0, 1) := by decide +kernel
theorem dX9_rules_64 : decode cX9_rules 64 = .ok (.aload_n 2, 1) := by decide +kernel
theorem dX9_rules_65 : decode cX9_rules 65 = .ok (.putfield 39, 3) := by decide +kernel
theorem dX9_rules_68 : decode cX9_rules 68 = .ok (.aload_n 0, 1) := by decide +kernel
theorem dX9_rules_69 : decode cX9_rules 69 = .ok (.getfield 35, 3) := by decide +kernel
theorem dX9_rules_72 : decode cX9_rules 72 = .ok (.getfield 102, 3) := by decide +kernel
theorem dX9_rules_75 : decode cX9_rules 75 = .ok (.ireturn, 1) := by decide +kernel
theorem dX9_fault_0 : decode cX9_fault 0 = .ok (.iload_n 1, 1) := by decide +kernel
theorem dX9_fault_1 : decode cX9_fault 1 = .ok (.lookupswitch 43 #[(0, 27), (1, 35)], 27) := by decide +kernel
theorem dX9_fault_28 : decode cX9_fault 28 = .ok (.aload_n 0, 1) := by decide +kernel
theorem dX9_fault_29 : decode cX9_fault 29 = .ok (.getfield 21, 3) := by decide +kernel
theorem dX9_fault_32 : decode cX9_fault 32 = .ok (.getfield 99, 3) := by decide +kernel
theorem dX9_fault_35 : decode cX9_fault 35 = .ok (.ireturn, 1) := by decide +kernel
theorem dX9_fault_36 : decode cX9_fault 36 = .ok (.aload_n 0, 1) := by decide +kernel
theorem dX9_fault_37 : decode cX9_fault 37 = .ok (.getfield 21, 3) := by decide +kernel
theorem dX9_fault_40 : decode cX9_fault 40 = .ok (.getfield 105, 3) := by decide +kernel
theorem dX9_fault_43 : decode cX9_fault 43 = .ok (.ireturn, 1) := by decide +kernel
theorem dX9_fault_44 : decode cX9_fault 44 = .ok (.iconst (-1), 1) := by decide +kernel
theorem dX9_fault_45 : decode cX9_fault 45 = .ok (.ireturn, 1) := by decide +kernel
theorem dX9_anew_0 : decode cX9_anew 0 = .ok (.aload_n 0, 1) := by decide +kernel
theorem dX9_anew_1 : decode cX9_anew 1 = .ok (.getfield 28, 3) := by decide +kernel
theorem dX9_anew_4 : decode cX9_anew 4 = .ok (.invokevirtual 108, 3) := by decide +kernel
theorem dX9_anew_7 : decode cX9_anew 7 = .ok (.aload_n 0, 1) := by decide +kernel
theorem dX9_anew_8 : decode cX9_anew 8 = .ok (.getfield 72, 3) := by decide +kernel
theorem dX9_anew_11 : decode cX9_anew 11 = .ok (.invokevirtual 111, 3) := by decide +kernel
theorem dX9_anew_14 : decode cX9_anew 14 = .ok (.return_, 1) := by decide +kernel
theorem dX9_junction_0 : decode cX9_junction 0 = .ok (.aload_n 0, 1) := by decide +kernel
theorem dX9_junction_1 : decode cX9_junction 1 = .ok (.getfield 28, 3) := by decide +kernel
theorem dX9_junction_4 : decode cX9_junction 4 = .ok (.iload_n 1, 1) := by decide +kernel
theorem dX9_junction_5 : decode cX9_junction 5 = .ok (.invokevirtual 114, 3) := by decide +kernel
theorem dX9_junction_8 : decode cX9_junction 8 = .ok (.ireturn, 1) := by decide +kernel
theorem dX9_path_0 : decode cX9_path 0 = .ok (.aload_n 0, 1) := by decide +kernel
theorem dX9_path_1 : decode cX9_path 1 = .ok (.getfield 28, 3) := by decide +kernel
theorem dX9_path_4 : decode cX9_path 4 = .ok (.iload_n 1, 1) := by decide +kernel
theorem dX9_path_5 : decode cX9_path 5 = .ok (.iload_n 2, 1) := by decide +kernel
theorem dX9_path_6 : decode cX9_path 6 = .ok (.invokevirtual 118, 3) := by decide +kernel
theorem dX9_path_9 : decode cX9_path 9 = .ok (.istore_n 3, 1) := by decide +kernel
theorem dX9_path_10 : decode cX9_path 10 = .ok (.iload_n 3, 1) := by decide +kernel
theorem dX9_path_11 : decode cX9_path 11 = .ok (.iconst (-1), 1) := by decide +kernel
theorem dX9_path_12 : decode cX9_path 12 = .ok (.if_icmp .eq 10, 3) := by decide +kernel
theorem dX9_path_15 : decode cX9_path 15 = .ok (.aload_n 0, 1) := by decide +kernel
theorem dX9_path_16 : decode cX9_path 16 = .ok (.getfield 72, 3) := by decide +kernel
theorem dX9_path_19 : decode cX9_path 19 = .ok (.invokevirtual 111, 3) := by decide +kernel
theorem dX9_path_22 : decode cX9_path 22 = .ok (.iload_n 3, 1) := by decide +kernel
theorem dX9_path_23 : decode cX9_path 23 = .ok (.ireturn, 1) := by decide +kernel
theorem dX9_mark_0 : decode cX9_mark 0 = .ok (.aload_n 0, 1) := by decide +kernel
theorem dX9_mark_1 : decode cX9_mark 1 = .ok (.getfield 28, 3) := by decide +kernel
theorem dX9_mark_4 : decode cX9_mark 4 = .ok (.iload_n 1, 1) := by decide +kernel
theorem dX9_mark_5 : decode cX9_mark 5 = .ok (.invokevirtual 122, 3) := by decide +kernel
theorem dX9_mark_8 : decode cX9_mark 8 = .ok (.ifCond .ne 5, 3) := by decide +kernel
theorem dX9_mark_11 : decode cX9_mark 11 = .ok (.iconst 0, 1) := by decide +kernel
theorem dX9_mark_12 : decode cX9_mark 12 = .ok (.ireturn, 1) := by decide +kernel
theorem dX9_mark_13 : decode cX9_mark 13 = .ok (.aload_n 0, 1) := by decide +kernel
theorem dX9_mark_14 : decode cX9_mark 14 = .ok (.getfield 28, 3) := by decide +kernel
theorem dX9_mark_17 : decode cX9_mark 17 = .ok (.aload_n 0, 1) := by decide +kernel
theorem dX9_mark_18 : decode cX9_mark 18 = .ok (.getfield 28, 3) := by decide +kernel
theorem dX9_mark_21 : decode cX9_mark 21 = .ok (.getfield 126, 3) := by decide +kernel
theorem dX9_mark_24 : decode cX9_mark 24 = .ok (.iload_n 1, 1) := by decide +kernel
theorem dX9_mark_25 : decode cX9_mark 25 = .ok (.iload_n 2, 1) := by decide +kernel
theorem dX9_mark_26 : decode cX9_mark 26 = .ok (.invokestatic 129, 3) := by decide +kernel
theorem dX9_mark_29 : decode cX9_mark 29 = .ok (.putfield 126, 3) := by decide +kernel
theorem dX9_mark_32 : decode cX9_mark 32 = .ok (.iconst 1, 1) := by decide +kernel
theorem dX9_mark_33 : decode cX9_mark 33 = .ok (.ireturn, 1) := by decide +kernel
theorem dX9_period_0 : decode cX9_period 0 = .ok (.iload_n 1, 1) := by decide +kernel
theorem dX9_period_1 : decode cX9_period 1 = .ok (.iconst 1, 1) := by decide +kernel
theorem dX9_period_2 : decode cX9_period 2 = .ok (.if_icmp .lt 9, 3) := by decide +kernel
theorem dX9_period_5 : decode cX9_period 5 = .ok (.iload_n 1, 1) := by decide +kernel
theorem dX9_period_6 : decode cX9_period 6 = .ok (.bipush 8, 2) := by decide +kernel
theorem dX9_period_8 : decode cX9_period 8 = .ok (.if_icmp .le 5, 3) := by decide +kernel
theorem dX9_period_11 : decode cX9_period 11 = .ok (.iconst 0, 1) := by decide +kernel
theorem dX9_period_12 : decode cX9_period 12 = .ok (.ireturn, 1) := by decide +kernel
theorem dX9_period_13 : decode cX9_period 13 = .ok (.aload_n 0, 1) := by decide +kernel
theorem dX9_period_14 : decode cX9_period 14 = .ok (.getfield 28, 3) := by decide +kernel
theorem dX9_period_17 : decode cX9_period 17 = .ok (.iload_n 1, 1) := by decide +kernel
theorem dX9_period_18 : decode cX9_period 18 = .ok (.putfield 133, 3) := by decide +kernel
theorem dX9_period_21 : decode cX9_period 21 = .ok (.iconst 1, 1) := by decide +kernel
theorem dX9_period_22 : decode cX9_period 22 = .ok (.ireturn, 1) := by decide +kernel
theorem dX9_gate_0 : decode cX9_gate 0 = .ok (.aload_n 0, 1) := by decide +kernel
theorem dX9_gate_1 : decode cX9_gate 1 = .ok (.getfield 28, 3) := by decide +kernel
theorem dX9_gate_4 : decode cX9_gate 4 = .ok (.iload_n 1, 1) := by decide +kernel
theorem dX9_gate_5 : decode cX9_gate 5 = .ok (.invokevirtual 136, 3) := by decide +kernel
theorem dX9_gate_8 : decode cX9_gate 8 = .ok (.ifCond .eq 14, 3) := by decide +kernel
theorem dX9_gate_11 : decode cX9_gate 11 = .ok (.iload_n 2, 1) := by decide +kernel
theorem dX9_gate_12 : decode cX9_gate 12 = .ok (.ifCond .lt 10, 3) := by decide +kernel
theorem dX9_gate_15 : decode cX9_gate 15 = .ok (.iload_n 2, 1) := by decide +kernel
theorem dX9_gate_16 : decode cX9_gate 16 = .ok (.sipush 255, 3) := by decide +kernel
theorem dX9_gate_19 : decode cX9_gate 19 = .ok (.if_icmp .le 5, 3) := by decide +kernel
theorem dX9_gate_22 : decode cX9_gate 22 = .ok (.iconst 0, 1) := by decide +kernel
theorem dX9_gate_23 : decode cX9_gate 23 = .ok (.ireturn, 1) := by decide +kernel
theorem dX9_gate_24 : decode cX9_gate 24 = .ok (.aload_n 0, 1) := by decide +kernel
theorem dX9_gate_25 : decode cX9_gate 25 = .ok (.getfield 28, 3) := by decide +kernel
theorem dX9_gate_28 : decode cX9_gate 28 = .ok (.getfield 139, 3) := by decide +kernel
theorem dX9_gate_31 : decode cX9_gate 31 = .ok (.iload_n 1, 1) := by decide +kernel
theorem dX9_gate_32 : decode cX9_gate 32 = .ok (.iload_n 2, 1) := by decide +kernel
theorem dX9_gate_33 : decode cX9_gate 33 = .ok (.iastore, 1) := by decide +kernel
theorem dX9_gate_34 : decode cX9_gate 34 = .ok (.iconst 1, 1) := by decide +kernel
theorem dX9_gate_35 : decode cX9_gate 35 = .ok (.ireturn, 1) := by decide +kernel
theorem dX9_shut_0 : decode cX9_shut 0 = .ok (.aload_n 0, 1) := by decide +kernel
theorem dX9_shut_1 : decode cX9_shut 1 = .ok (.getfield 28, 3) := by decide +kernel
theorem dX9_shut_4 : decode cX9_shut 4 = .ok (.iload_n 1, 1) := by decide +kernel
theorem dX9_shut_5 : decode cX9_shut 5 = .ok (.invokevirtual 136, 3) := by decide +kernel
theorem dX9_shut_8 : decode cX9_shut 8 = .ok (.ifCond .ne 5, 3) := by decide +kernel
theorem dX9_shut_11 : decode cX9_shut 11 = .ok (.iconst 0, 1) := by decide +kernel
theorem dX9_shut_12 : decode cX9_shut 12 = .ok (.ireturn, 1) := by decide +kernel
theorem dX9_shut_13 : decode cX9_shut 13 = .ok (.aload_n 0, 1) := by decide +kernel
theorem dX9_shut_14 : decode cX9_shut 14 = .ok (.getfield 28, 3) := by decide +kernel
theorem dX9_shut_17 : decode cX9_shut 17 = .ok (.aload_n 0, 1) := by decide +kernel
theorem dX9_shut_18 : decode cX9_shut 18 = .ok (.getfield 28, 3) := by decide +kernel
theorem dX9_shut_21 : decode cX9_shut 21 = .ok (.getfield 143, 3) := by decide +kernel
theorem dX9_shut_24 : decode cX9_shut 24 = .ok (.iload_n 1, 1) := by decide +kernel
theorem dX9_shut_25 : decode cX9_shut 25 = .ok (.iload_n 2, 1) := by decide +kernel
theorem dX9_shut_26 : decode cX9_shut 26 = .ok (.invokestatic 129, 3) := by decide +kernel
theorem dX9_shut_29 : decode cX9_shut 29 = .ok (.putfield 143, 3) := by decide +kernel
theorem dX9_shut_32 : decode cX9_shut 32 = .ok (.iconst 1, 1) := by decide +kernel
theorem dX9_shut_33 : decode cX9_shut 33 = .ok (.ireturn, 1) := by decide +kernel
theorem dX9_place_0 : decode cX9_place 0 = .ok (.aload_n 0, 1) := by decide +kernel
theorem dX9_place_1 : decode cX9_place 1 = .ok (.getfield 28, 3) := by decide +kernel
theorem dX9_place_4 : decode cX9_place 4 = .ok (.iload_n 1, 1) := by decide +kernel
theorem dX9_place_5 : decode cX9_place 5 = .ok (.iload_n 2, 1) := by decide +kernel
theorem dX9_place_6 : decode cX9_place 6 = .ok (.invokevirtual 146, 3) := by decide +kernel
theorem dX9_place_9 : decode cX9_place 9 = .ok (.ireturn, 1) := by decide +kernel
theorem dX9_walk_0 : decode cX9_walk 0 = .ok (.aload_n 0, 1) := by decide +kernel
theorem dX9_walk_1 : decode cX9_walk 1 = .ok (.getfield 35, 3) := by decide +kernel
theorem dX9_walk_4 : decode cX9_walk 4 = .ok (.getfield 102, 3) := by decide +kernel
theorem dX9_walk_7 : decode cX9_walk 7 = .ok (.ifCond .eq 14, 3) := by decide +kernel
theorem dX9_walk_10 : decode cX9_walk 10 = .ok (.aload_n 0, 1) := by decide +kernel
theorem dX9_walk_11 : decode cX9_walk 11 = .ok (.getfield 28, 3) := by decide +kernel
theorem dX9_walk_14 : decode cX9_walk 14 = .ok (.iload_n 1, 1) := by decide +kernel
theorem dX9_walk_15 : decode cX9_walk 15 = .ok (.invokevirtual 149, 3) := by decide +kernel
theorem dX9_walk_18 : decode cX9_walk 18 = .ok (.ifCond .ne 5, 3) := by decide +kernel
theorem dX9_walk_21 : decode cX9_walk 21 = .ok (.iconst (-1), 1) := by decide +kernel
theorem dX9_walk_22 : decode cX9_walk 22 = .ok (.ireturn, 1) := by decide +kernel
theorem dX9_walk_23 : decode cX9_walk 23 = .ok (.aload_n 0, 1) := by decide +kernel
theorem dX9_walk_24 : decode cX9_walk 24 = .ok (.getfield 47, 3) := by decide +kernel
theorem dX9_walk_27 : decode cX9_walk 27 = .ok (.aload_n 0, 1) := by decide +kernel
theorem dX9_walk_28 : decode cX9_walk 28 = .ok (.getfield 35, 3) := by decide +kernel
theorem dX9_walk_31 : decode cX9_walk 31 = .ok (.invokevirtual 152, 3) := by decide +kernel
theorem dX9_walk_34 : decode cX9_walk 34 = .ok (.aload_n 0, 1) := by decide +kernel
theorem dX9_walk_35 : decode cX9_walk 35 = .ok (.getfield 47, 3) := by decide +kernel
theorem dX9_walk_38 : decode cX9_walk 38 = .ok (.iload_n 1, 1) := by decide +kernel
theorem dX9_walk_39 : decode cX9_walk 39 = .ok (.aload_n 0, 1) := by decide +kernel
theorem dX9_walk_40 : decode cX9_walk 40 = .ok (.getfield 28, 3) := by decide +kernel
theorem dX9_walk_43 : decode cX9_walk 43 = .ok (.getfield 126, 3) := by decide +kernel
theorem dX9_walk_46 : decode cX9_walk 46 = .ok (.iconst 0, 1) := by decide +kernel
theorem dX9_walk_47 : decode cX9_walk 47 = .ok (.invokevirtual 156, 3) := by decide +kernel
theorem dX9_walk_50 : decode cX9_walk 50 = .ok (.istore_n 2, 1) := by decide +kernel
theorem dX9_walk_51 : decode cX9_walk 51 = .ok (.aload_n 0, 1) := by decide +kernel
theorem dX9_walk_52 : decode cX9_walk 52 = .ok (.getfield 54, 3) := by decide +kernel
theorem dX9_walk_55 : decode cX9_walk 55 = .ok (.aload_n 0, 1) := by decide +kernel
theorem dX9_walk_56 : decode cX9_walk 56 = .ok (.getfield 47, 3) := by decide +kernel
theorem dX9_walk_59 : decode cX9_walk 59 = .ok (.iload_n 2, 1) := by decide +kernel
theorem dX9_walk_60 : decode cX9_walk 60 = .ok (.invokevirtual 160, 3) := by decide +kernel
theorem dX9_walk_63 : decode cX9_walk 63 = .ok (.ireturn, 1) := by decide +kernel
theorem dX9_walked_0 : decode cX9_walked 0 = .ok (.iload_n 1, 1) := by decide +kernel
theorem dX9_walked_1 : decode cX9_walked 1 = .ok (.ifCond .lt 9, 3) := by decide +kernel
theorem dX9_walked_4 : decode cX9_walked 4 = .ok (.iload_n 1, 1) := by decide +kernel
theorem dX9_walked_5 : decode cX9_walked 5 = .ok (.bipush 6, 2) := by decide +kernel
theorem dX9_walked_7 : decode cX9_walked 7 = .ok (.if_icmp .lt 7, 3) := by decide +kernel
theorem dX9_walked_10 : decode cX9_walked 10 = .ok (.iconst (-1), 1) := by decide +kernel
theorem dX9_walked_11 : decode cX9_walked 11 = .ok (.goto 12, 3) := by decide +kernel
theorem dX9_walked_14 : decode cX9_walked 14 = .ok (.aload_n 0, 1) := by decide +kernel
theorem dX9_walked_15 : decode cX9_walked 15 = .ok (.getfield 54, 3) := by decide +kernel
theorem dX9_walked_18 : decode cX9_walked 18 = .ok (.getfield 164, 3) := by decide +kernel
theorem dX9_walked_21 : decode cX9_walked 21 = .ok (.iload_n 1, 1) := by decide +kernel
theorem dX9_walked_22 : decode cX9_walked 22 = .ok (.iaload, 1) := by decide +kernel
theorem dX9_walked_23 : decode cX9_walked 23 = .ok (.ireturn, 1) := by decide +kernel
theorem dX9_lost_0 : decode cX9_lost 0 = .ok (.aload_n 0, 1) := by decide +kernel
theorem dX9_lost_1 : decode cX9_lost 1 = .ok (.getfield 35, 3) := by decide +kernel
theorem dX9_lost_4 : decode cX9_lost 4 = .ok (.getfield 102, 3) := by decide +kernel
theorem dX9_lost_7 : decode cX9_lost 7 = .ok (.ifCond .ne 7, 3) := by decide +kernel
theorem dX9_lost_10 : decode cX9_lost 10 = .ok (.ldc2_w 167, 3) := by decide +kernel
theorem dX9_lost_13 : decode cX9_lost 13 = .ok (.lreturn, 1) := by decide +kernel
theorem dX9_lost_14 : decode cX9_lost 14 = .ok (.aload_n 0, 1) := by decide +kernel
theorem dX9_lost_15 : decode cX9_lost 15 = .ok (.getfield 47, 3) := by decide +kernel
theorem dX9_lost_18 : decode cX9_lost 18 = .ok (.aload_n 0, 1) := by decide +kernel
theorem dX9_lost_19 : decode cX9_lost 19 = .ok (.getfield 35, 3) := by decide +kernel
theorem dX9_lost_22 : decode cX9_lost 22 = .ok (.invokevirtual 152, 3) := by decide +kernel
theorem dX9_lost_25 : decode cX9_lost 25 = .ok (.lconst 0, 1) := by decide +kernel
theorem dX9_lost_26 : decode cX9_lost 26 = .ok (.lstore_n 1, 1) := by decide +kernel
theorem dX9_lost_27 : decode cX9_lost 27 = .ok (.iconst 0, 1) := by decide +kernel
theorem dX9_lost_28 : decode cX9_lost 28 = .ok (.istore_n 3, 1) := by decide +kernel
theorem dX9_lost_29 : decode cX9_lost 29 = .ok (.iload_n 3, 1) := by decide +kernel
theorem dX9_lost_30 : decode cX9_lost 30 = .ok (.aload_n 0, 1) := by decide +kernel
theorem dX9_lost_31 : decode cX9_lost 31 = .ok (.getfield 28, 3) := by decide +kernel
theorem dX9_lost_34 : decode cX9_lost 34 = .ok (.getfield 169, 3) := by decide +kernel
theorem dX9_lost_37 : decode cX9_lost 37 = .ok (.if_icmp .ge 34, 3) := by decide +kernel
theorem dX9_lost_40 : decode cX9_lost 40 = .ok (.aload_n 0, 1) := by decide +kernel
theorem dX9_lost_41 : decode cX9_lost 41 = .ok (.getfield 47, 3) := by decide +kernel
theorem dX9_lost_44 : decode cX9_lost 44 = .ok (.iload_n 3, 1) := by decide +kernel
theorem dX9_lost_45 : decode cX9_lost 45 = .ok (.aload_n 0, 1) := by decide +kernel
theorem dX9_lost_46 : decode cX9_lost 46 = .ok (.getfield 28, 3) := by decide +kernel
theorem dX9_lost_49 : decode cX9_lost 49 = .ok (.getfield 126, 3) := by decide +kernel
theorem dX9_lost_52 : decode cX9_lost 52 = .ok (.iconst 0, 1) := by decide +kernel
theorem dX9_lost_53 : decode cX9_lost 53 = .ok (.invokevirtual 156, 3) := by decide +kernel
theorem dX9_lost_56 : decode cX9_lost 56 = .ok (.ifCond .ne 9, 3) := by decide +kernel
theorem dX9_lost_59 : decode cX9_lost 59 = .ok (.lload_n 1, 1) := by decide +kernel
theorem dX9_lost_60 : decode cX9_lost 60 = .ok (.lconst 1, 1) := by decide +kernel
theorem dX9_lost_61 : decode cX9_lost 61 = .ok (.iload_n 3, 1) := by decide +kernel
theorem dX9_lost_62 : decode cX9_lost 62 = .ok (.lshl, 1) := by decide +kernel
theorem dX9_lost_63 : decode cX9_lost 63 = .ok (.lor, 1) := by decide +kernel
theorem dX9_lost_64 : decode cX9_lost 64 = .ok (.lstore_n 1, 1) := by decide +kernel
theorem dX9_lost_65 : decode cX9_lost 65 = .ok (.iinc 3 1, 3) := by decide +kernel
theorem dX9_lost_68 : decode cX9_lost 68 = .ok (.goto (-39), 3) := by decide +kernel
theorem dX9_lost_71 : decode cX9_lost 71 = .ok (.lload_n 1, 1) := by decide +kernel
theorem dX9_lost_72 : decode cX9_lost 72 = .ok (.lreturn, 1) := by decide +kernel
theorem dX9_help_0 : decode cX9_help 0 = .ok (.aload_n 0, 1) := by decide +kernel
theorem dX9_help_1 : decode cX9_help 1 = .ok (.getfield 35, 3) := by decide +kernel
theorem dX9_help_4 : decode cX9_help 4 = .ok (.getfield 102, 3) := by decide +kernel
theorem dX9_help_7 : decode cX9_help 7 = .ok (.ifCond .eq 12, 3) := by decide +kernel
theorem dX9_help_10 : decode cX9_help 10 = .ok (.iload_n 1, 1) := by decide +kernel
theorem dX9_help_11 : decode cX9_help 11 = .ok (.ifCond .eq 10, 3) := by decide +kernel
theorem dX9_help_14 : decode cX9_help 14 = .ok (.iload_n 1, 1) := by decide +kernel
theorem dX9_help_15 : decode cX9_help 15 = .ok (.iconst 1, 1) := by decide +kernel
theorem dX9_help_16 : decode cX9_help 16 = .ok (.if_icmp .eq 5, 3) := by decide +kernel
theorem dX9_help_19 : decode cX9_help 19 = .ok (.iconst (-1), 1) := by decide +kernel
theorem dX9_help_20 : decode cX9_help 20 = .ok (.ireturn, 1) := by decide +kernel
theorem dX9_help_21 : decode cX9_help 21 = .ok (.aload_n 0, 1) := by decide +kernel
theorem dX9_help_22 : decode cX9_help 22 = .ok (.getfield 47, 3) := by decide +kernel
theorem dX9_help_25 : decode cX9_help 25 = .ok (.aload_n 0, 1) := by decide +kernel
theorem dX9_help_26 : decode cX9_help 26 = .ok (.getfield 35, 3) := by decide +kernel
theorem dX9_help_29 : decode cX9_help 29 = .ok (.invokevirtual 152, 3) := by decide +kernel
theorem dX9_help_32 : decode cX9_help 32 = .ok (.aload_n 0, 1) := by decide +kernel
theorem dX9_help_33 : decode cX9_help 33 = .ok (.getfield 63, 3) := by decide +kernel
theorem dX9_help_36 : decode cX9_help 36 = .ok (.iload_n 1, 1) := by decide +kernel
theorem dX9_help_37 : decode cX9_help 37 = .ok (.invokevirtual 172, 3) := by decide +kernel
theorem dX9_help_40 : decode cX9_help 40 = .ok (.ireturn, 1) := by decide +kernel
theorem dX9_helped_0 : decode cX9_helped 0 = .ok (.iload_n 1, 1) := by decide +kernel
theorem dX9_helped_1 : decode cX9_helped 1 = .ok (.ifCond .lt 14, 3) := by decide +kernel
theorem dX9_helped_4 : decode cX9_helped 4 = .ok (.iload_n 1, 1) := by decide +kernel
theorem dX9_helped_5 : decode cX9_helped 5 = .ok (.aload_n 0, 1) := by decide +kernel
theorem dX9_helped_6 : decode cX9_helped 6 = .ok (.getfield 63, 3) := by decide +kernel
theorem dX9_helped_9 : decode cX9_helped 9 = .ok (.getfield 176, 3) := by decide +kernel
theorem dX9_helped_12 : decode cX9_helped 12 = .ok (.if_icmp .lt 7, 3) := by decide +kernel
theorem dX9_helped_15 : decode cX9_helped 15 = .ok (.iconst (-1), 1) := by decide +kernel
theorem dX9_helped_16 : decode cX9_helped 16 = .ok (.goto 12, 3) := by decide +kernel
theorem dX9_helped_19 : decode cX9_helped 19 = .ok (.aload_n 0, 1) := by decide +kernel
theorem dX9_helped_20 : decode cX9_helped 20 = .ok (.getfield 63, 3) := by decide +kernel
theorem dX9_helped_23 : decode cX9_helped 23 = .ok (.getfield 179, 3) := by decide +kernel
theorem dX9_helped_26 : decode cX9_helped 26 = .ok (.iload_n 1, 1) := by decide +kernel
theorem dX9_helped_27 : decode cX9_helped 27 = .ok (.iaload, 1) := by decide +kernel
theorem dX9_helped_28 : decode cX9_helped 28 = .ok (.ireturn, 1) := by decide +kernel
theorem dX9_tale_0 : decode cX9_tale 0 = .ok (.iload_n 1, 1) := by decide +kernel
theorem dX9_tale_1 : decode cX9_tale 1 = .ok (.invokestatic 182, 3) := by decide +kernel
theorem dX9_tale_4 : decode cX9_tale 4 = .ok (.ifCond .ne 7, 3) := by decide +kernel
theorem dX9_tale_7 : decode cX9_tale 7 = .ok (.ldc2_w 167, 3) := by decide +kernel
theorem dX9_tale_10 : decode cX9_tale 10 = .ok (.lreturn, 1) := by decide +kernel
theorem dX9_tale_11 : decode cX9_tale 11 = .ok (.aload_n 0, 1) := by decide +kernel
theorem dX9_tale_12 : decode cX9_tale 12 = .ok (.getfield 72, 3) := by decide +kernel
theorem dX9_tale_15 : decode cX9_tale 15 = .ok (.iload_n 1, 1) := by decide +kernel
theorem dX9_tale_16 : decode cX9_tale 16 = .ok (.invokevirtual 185, 3) := by decide +kernel
theorem dX9_tale_19 : decode cX9_tale 19 = .ok (.aload_n 0, 1) := by decide +kernel
theorem dX9_tale_20 : decode cX9_tale 20 = .ok (.getfield 72, 3) := by decide +kernel
theorem dX9_tale_23 : decode cX9_tale 23 = .ok (.getfield 188, 3) := by decide +kernel
theorem dX9_tale_26 : decode cX9_tale 26 = .ok (.i2l, 1) := by decide +kernel
theorem dX9_tale_27 : decode cX9_tale 27 = .ok (.lreturn, 1) := by decide +kernel
theorem dX9_turn_0 : decode cX9_turn 0 = .ok (.aload_n 0, 1) := by decide +kernel
theorem dX9_turn_1 : decode cX9_turn 1 = .ok (.getfield 72, 3) := by decide +kernel
theorem dX9_turn_4 : decode cX9_turn 4 = .ok (.invokevirtual 191, 3) := by decide +kernel
theorem dX9_turn_7 : decode cX9_turn 7 = .ok (.ifCond .eq 20, 3) := by decide +kernel
theorem dX9_turn_10 : decode cX9_turn 10 = .ok (.iload_n 1, 1) := by decide +kernel
theorem dX9_turn_11 : decode cX9_turn 11 = .ok (.ifCond .lt 16, 3) := by decide +kernel
theorem dX9_turn_14 : decode cX9_turn 14 = .ok (.iload_n 1, 1) := by decide +kernel
theorem dX9_turn_15 : decode cX9_turn 15 = .ok (.bipush 9, 2) := by decide +kernel
theorem dX9_turn_17 : decode cX9_turn 17 = .ok (.if_icmp .gt 10, 3) := by decide +kernel
theorem dX9_turn_20 : decode cX9_turn 20 = .ok (.iload_n 2, 1) := by decide +kernel
theorem dX9_turn_21 : decode cX9_turn 21 = .ok (.invokestatic 182, 3) := by decide +kernel
theorem dX9_turn_24 : decode cX9_turn 24 = .ok (.ifCond .ne 7, 3) := by decide +kernel
theorem dX9_turn_27 : decode cX9_turn 27 = .ok (.ldc2_w 167, 3) := by decide +kernel
theorem dX9_turn_30 : decode cX9_turn 30 = .ok (.lreturn, 1) := by decide +kernel
theorem dX9_turn_31 : decode cX9_turn 31 = .ok (.aload_n 0, 1) := by decide +kernel
theorem dX9_turn_32 : decode cX9_turn 32 = .ok (.getfield 72, 3) := by decide +kernel
theorem dX9_turn_35 : decode cX9_turn 35 = .ok (.iload_n 1, 1) := by decide +kernel
theorem dX9_turn_36 : decode cX9_turn 36 = .ok (.iload_n 2, 1) := by decide +kernel
theorem dX9_turn_37 : decode cX9_turn 37 = .ok (.invokevirtual 194, 3) := by decide +kernel
theorem dX9_turn_40 : decode cX9_turn 40 = .ok (.aload_n 0, 1) := by decide +kernel
theorem dX9_turn_41 : decode cX9_turn 41 = .ok (.getfield 72, 3) := by decide +kernel
theorem dX9_turn_44 : decode cX9_turn 44 = .ok (.getfield 188, 3) := by decide +kernel
theorem dX9_turn_47 : decode cX9_turn 47 = .ok (.i2l, 1) := by decide +kernel
theorem dX9_turn_48 : decode cX9_turn 48 = .ok (.lreturn, 1) := by decide +kernel
theorem dX9_home_0 : decode cX9_home 0 = .ok (.aload_n 0, 1) := by decide +kernel
theorem dX9_home_1 : decode cX9_home 1 = .ok (.getfield 79, 3) := by decide +kernel
theorem dX9_home_4 : decode cX9_home 4 = .ok (.invokevirtual 198, 3) := by decide +kernel
theorem dX9_home_7 : decode cX9_home 7 = .ok (.ireturn, 1) := by decide +kernel
theorem dX9_homing_0 : decode cX9_homing 0 = .ok (.iload_n 1, 1) := by decide +kernel
theorem dX9_homing_1 : decode cX9_homing 1 = .ok (.ifCond .lt 14, 3) := by decide +kernel
theorem dX9_homing_4 : decode cX9_homing 4 = .ok (.iload_n 1, 1) := by decide +kernel
theorem dX9_homing_5 : decode cX9_homing 5 = .ok (.aload_n 0, 1) := by decide +kernel
theorem dX9_homing_6 : decode cX9_homing 6 = .ok (.getfield 79, 3) := by decide +kernel
theorem dX9_homing_9 : decode cX9_homing 9 = .ok (.getfield 201, 3) := by decide +kernel
theorem dX9_homing_12 : decode cX9_homing 12 = .ok (.if_icmp .lt 7, 3) := by decide +kernel
theorem dX9_homing_15 : decode cX9_homing 15 = .ok (.iconst (-1), 1) := by decide +kernel
theorem dX9_homing_16 : decode cX9_homing 16 = .ok (.goto 12, 3) := by decide +kernel
theorem dX9_homing_19 : decode cX9_homing 19 = .ok (.aload_n 0, 1) := by decide +kernel
theorem dX9_homing_20 : decode cX9_homing 20 = .ok (.getfield 79, 3) := by decide +kernel
theorem dX9_homing_23 : decode cX9_homing 23 = .ok (.getfield 202, 3) := by decide +kernel
theorem dX9_homing_26 : decode cX9_homing 26 = .ok (.iload_n 1, 1) := by decide +kernel
theorem dX9_homing_27 : decode cX9_homing 27 = .ok (.iaload, 1) := by decide +kernel
theorem dX9_homing_28 : decode cX9_homing 28 = .ok (.ireturn, 1) := by decide +kernel
theorem dX9_look_0 : decode cX9_look 0 = .ok (.aload_n 0, 1) := by decide +kernel
theorem dX9_look_1 : decode cX9_look 1 = .ok (.getfield 28, 3) := by decide +kernel
theorem dX9_look_4 : decode cX9_look 4 = .ok (.iload_n 1, 1) := by decide +kernel
theorem dX9_look_5 : decode cX9_look 5 = .ok (.invokevirtual 149, 3) := by decide +kernel
theorem dX9_look_8 : decode cX9_look 8 = .ok (.ifCond .ne 13, 3) := by decide +kernel
theorem dX9_look_11 : decode cX9_look 11 = .ok (.new 203, 3) := by decide +kernel
theorem dX9_look_14 : decode cX9_look 14 = .ok (.dup, 1) := by decide +kernel
theorem dX9_look_15 : decode cX9_look 15 = .ok (.ldc 205, 2) := by decide +kernel
theorem dX9_look_17 : decode cX9_look 17 = .ok (.invokespecial 207, 3) := by decide +kernel
theorem dX9_look_20 : decode cX9_look 20 = .ok (.athrow, 1) := by decide +kernel
theorem dX9_look_21 : decode cX9_look 21 = .ok (.iload_n 2, 1) := by decide +kernel
theorem dX9_look_22 : decode cX9_look 22 = .ok (.tableswitch 70 0 3 #[30, 40, 50, 60], 30) := by decide +kernel
theorem dX9_look_52 : decode cX9_look 52 = .ok (.aload_n 0, 1) := by decide +kernel
theorem dX9_look_53 : decode cX9_look 53 = .ok (.getfield 28, 3) := by decide +kernel
theorem dX9_look_56 : decode cX9_look 56 = .ok (.getfield 210, 3) := by decide +kernel
theorem dX9_look_59 : decode cX9_look 59 = .ok (.iload_n 1, 1) := by decide +kernel
theorem dX9_look_60 : decode cX9_look 60 = .ok (.iaload, 1) := by decide +kernel
theorem dX9_look_61 : decode cX9_look 61 = .ok (.ireturn, 1) := by decide +kernel
theorem dX9_look_62 : decode cX9_look 62 = .ok (.aload_n 0, 1) := by decide +kernel
theorem dX9_look_63 : decode cX9_look 63 = .ok (.getfield 28, 3) := by decide +kernel
theorem dX9_look_66 : decode cX9_look 66 = .ok (.getfield 213, 3) := by decide +kernel
theorem dX9_look_69 : decode cX9_look 69 = .ok (.iload_n 1, 1) := by decide +kernel
theorem dX9_look_70 : decode cX9_look 70 = .ok (.iaload, 1) := by decide +kernel
theorem dX9_look_71 : decode cX9_look 71 = .ok (.ireturn, 1) := by decide +kernel
theorem dX9_look_72 : decode cX9_look 72 = .ok (.aload_n 0, 1) := by decide +kernel
theorem dX9_look_73 : decode cX9_look 73 = .ok (.getfield 28, 3) := by decide +kernel
theorem dX9_look_76 : decode cX9_look 76 = .ok (.getfield 216, 3) := by decide +kernel
theorem dX9_look_79 : decode cX9_look 79 = .ok (.iload_n 1, 1) := by decide +kernel
theorem dX9_look_80 : decode cX9_look 80 = .ok (.iaload, 1) := by decide +kernel
theorem dX9_look_81 : decode cX9_look 81 = .ok (.ireturn, 1) := by decide +kernel
theorem dX9_look_82 : decode cX9_look 82 = .ok (.aload_n 0, 1) := by decide +kernel
theorem dX9_look_83 : decode cX9_look 83 = .ok (.getfield 28, 3) := by decide +kernel
theorem dX9_look_86 : decode cX9_look 86 = .ok (.getfield 219, 3) := by decide +kernel
theorem dX9_look_89 : decode cX9_look 89 = .ok (.iload_n 1, 1) := by decide +kernel
theorem dX9_look_90 : decode cX9_look 90 = .ok (.iaload, 1) := by decide +kernel
theorem dX9_look_91 : decode cX9_look 91 = .ok (.ireturn, 1) := by decide +kernel
theorem dX9_look_92 : decode cX9_look 92 = .ok (.new 222, 3) := by decide +kernel
theorem dX9_look_95 : decode cX9_look 95 = .ok (.dup, 1) := by decide +kernel
theorem dX9_look_96 : decode cX9_look 96 = .ok (.ldc 224, 2) := by decide +kernel
theorem dX9_look_98 : decode cX9_look 98 = .ok (.invokespecial 226, 3) := by decide +kernel
theorem dX9_look_101 : decode cX9_look 101 = .ok (.athrow, 1) := by decide +kernel
theorem dX9_count_0 : decode cX9_count 0 = .ok (.iload_n 1, 1) := by decide +kernel
theorem dX9_count_1 : decode cX9_count 1 = .ok (.tableswitch 90 0 5 #[39, 47, 55, 63, 74, 82], 39) := by decide +kernel
theorem dX9_count_40 : decode cX9_count 40 = .ok (.aload_n 0, 1) := by decide +kernel
theorem dX9_count_41 : decode cX9_count 41 = .ok (.getfield 28, 3) := by decide +kernel
theorem dX9_count_44 : decode cX9_count 44 = .ok (.getfield 227, 3) := by decide +kernel
theorem dX9_count_47 : decode cX9_count 47 = .ok (.ireturn, 1) := by decide +kernel
theorem dX9_count_48 : decode cX9_count 48 = .ok (.aload_n 0, 1) := by decide +kernel
theorem dX9_count_49 : decode cX9_count 49 = .ok (.getfield 28, 3) := by decide +kernel
theorem dX9_count_52 : decode cX9_count 52 = .ok (.getfield 230, 3) := by decide +kernel
theorem dX9_count_55 : decode cX9_count 55 = .ok (.ireturn, 1) := by decide +kernel
theorem dX9_count_56 : decode cX9_count 56 = .ok (.aload_n 0, 1) := by decide +kernel
theorem dX9_count_57 : decode cX9_count 57 = .ok (.getfield 28, 3) := by decide +kernel
theorem dX9_count_60 : decode cX9_count 60 = .ok (.getfield 169, 3) := by decide +kernel
theorem dX9_count_63 : decode cX9_count 63 = .ok (.ireturn, 1) := by decide +kernel
theorem dX9_count_64 : decode cX9_count 64 = .ok (.aload_n 0, 1) := by decide +kernel
theorem dX9_count_65 : decode cX9_count 65 = .ok (.getfield 28, 3) := by decide +kernel
theorem dX9_count_68 : decode cX9_count 68 = .ok (.getfield 126, 3) := by decide +kernel
theorem dX9_count_71 : decode cX9_count 71 = .ok (.invokestatic 233, 3) := by decide +kernel
theorem dX9_count_74 : decode cX9_count 74 = .ok (.ireturn, 1) := by decide +kernel
theorem dX9_count_75 : decode cX9_count 75 = .ok (.aload_n 0, 1) := by decide +kernel
theorem dX9_count_76 : decode cX9_count 76 = .ok (.getfield 72, 3) := by decide +kernel
theorem dX9_count_79 : decode cX9_count 79 = .ok (.getfield 238, 3) := by decide +kernel
theorem dX9_count_82 : decode cX9_count 82 = .ok (.ireturn, 1) := by decide +kernel
theorem dX9_count_83 : decode cX9_count 83 = .ok (.aload_n 0, 1) := by decide +kernel
theorem dX9_count_84 : decode cX9_count 84 = .ok (.getfield 35, 3) := by decide +kernel
theorem dX9_count_87 : decode cX9_count 87 = .ok (.getfield 102, 3) := by decide +kernel
theorem dX9_count_90 : decode cX9_count 90 = .ok (.ireturn, 1) := by decide +kernel
theorem dX9_count_91 : decode cX9_count 91 = .ok (.iconst (-1), 1) := by decide +kernel
theorem dX9_count_92 : decode cX9_count 92 = .ok (.ireturn, 1) := by decide +kernel
theorem dX9_isSeeable_0 : decode cX9_isSeeable 0 = .ok (.iload_n 0, 1) := by decide +kernel
