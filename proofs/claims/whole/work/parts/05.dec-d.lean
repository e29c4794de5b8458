theorem dX6_cost_41 : decode cX6_cost 41 = .ok (.iload_n 2, 1) := by decide +kernel
theorem dX6_cost_42 : decode cX6_cost 42 = .ok (.iaload, 1) := by decide +kernel
theorem dX6_cost_43 : decode cX6_cost 43 = .ok (.if_icmp .eq 11, 3) := by decide +kernel
theorem dX6_cost_46 : decode cX6_cost 46 = .ok (.aload_n 0, 1) := by decide +kernel
theorem dX6_cost_47 : decode cX6_cost 47 = .ok (.iload_n 2, 1) := by decide +kernel
theorem dX6_cost_48 : decode cX6_cost 48 = .ok (.invokevirtual 161, 3) := by decide +kernel
theorem dX6_cost_51 : decode cX6_cost 51 = .ok (.goto 4, 3) := by decide +kernel
theorem dX6_cost_54 : decode cX6_cost 54 = .ok (.iconst 0, 1) := by decide +kernel
theorem dX6_cost_55 : decode cX6_cost 55 = .ok (.iadd, 1) := by decide +kernel
theorem dX6_cost_56 : decode cX6_cost 56 = .ok (.istore_n 1, 1) := by decide +kernel
theorem dX6_cost_57 : decode cX6_cost 57 = .ok (.iinc 2 1, 3) := by decide +kernel
theorem dX6_cost_60 : decode cX6_cost 60 = .ok (.goto (-46), 3) := by decide +kernel
theorem dX6_cost_63 : decode cX6_cost 63 = .ok (.iload_n 1, 1) := by decide +kernel
theorem dX6_cost_64 : decode cX6_cost 64 = .ok (.ireturn, 1) := by decide +kernel
theorem dX6_listMoves_0 : decode cX6_listMoves 0 = .ok (.aload_n 0, 1) := by decide +kernel
theorem dX6_listMoves_1 : decode cX6_listMoves 1 = .ok (.iconst 0, 1) := by decide +kernel
theorem dX6_listMoves_2 : decode cX6_listMoves 2 = .ok (.putfield 164, 3) := by decide +kernel
theorem dX6_listMoves_5 : decode cX6_listMoves 5 = .ok (.iconst 0, 1) := by decide +kernel
theorem dX6_listMoves_6 : decode cX6_listMoves 6 = .ok (.istore_n 1, 1) := by decide +kernel
theorem dX6_listMoves_7 : decode cX6_listMoves 7 = .ok (.iload_n 1, 1) := by decide +kernel
theorem dX6_listMoves_8 : decode cX6_listMoves 8 = .ok (.aload_n 0, 1) := by decide +kernel
theorem dX6_listMoves_9 : decode cX6_listMoves 9 = .ok (.getfield 67, 3) := by decide +kernel
theorem dX6_listMoves_12 : decode cX6_listMoves 12 = .ok (.if_icmp .ge 52, 3) := by decide +kernel
theorem dX6_listMoves_15 : decode cX6_listMoves 15 = .ok (.aload_n 0, 1) := by decide +kernel
theorem dX6_listMoves_16 : decode cX6_listMoves 16 = .ok (.iload_n 1, 1) := by decide +kernel
theorem dX6_listMoves_17 : decode cX6_listMoves 17 = .ok (.invokevirtual 129, 3) := by decide +kernel
theorem dX6_listMoves_20 : decode cX6_listMoves 20 = .ok (.ifCond .eq 38, 3) := by decide +kernel
theorem dX6_listMoves_23 : decode cX6_listMoves 23 = .ok (.aload_n 0, 1) := by decide +kernel
theorem dX6_listMoves_24 : decode cX6_listMoves 24 = .ok (.getfield 45, 3) := by decide +kernel
theorem dX6_listMoves_27 : decode cX6_listMoves 27 = .ok (.iload_n 1, 1) := by decide +kernel
theorem dX6_listMoves_28 : decode cX6_listMoves 28 = .ok (.iaload, 1) := by decide +kernel
theorem dX6_listMoves_29 : decode cX6_listMoves 29 = .ok (.aload_n 0, 1) := by decide +kernel
theorem dX6_listMoves_30 : decode cX6_listMoves 30 = .ok (.getfield 28, 3) := by decide +kernel
theorem dX6_listMoves_33 : decode cX6_listMoves 33 = .ok (.iload_n 1, 1) := by decide +kernel
theorem dX6_listMoves_34 : decode cX6_listMoves 34 = .ok (.iaload, 1) := by decide +kernel
theorem dX6_listMoves_35 : decode cX6_listMoves 35 = .ok (.if_icmp .eq 23, 3) := by decide +kernel
theorem dX6_listMoves_38 : decode cX6_listMoves 38 = .ok (.aload_n 0, 1) := by decide +kernel
theorem dX6_listMoves_39 : decode cX6_listMoves 39 = .ok (.getfield 48, 3) := by decide +kernel
theorem dX6_listMoves_42 : decode cX6_listMoves 42 = .ok (.aload_n 0, 1) := by decide +kernel
theorem dX6_listMoves_43 : decode cX6_listMoves 43 = .ok (.getfield 164, 3) := by decide +kernel
theorem dX6_listMoves_46 : decode cX6_listMoves 46 = .ok (.iload_n 1, 1) := by decide +kernel
theorem dX6_listMoves_47 : decode cX6_listMoves 47 = .ok (.iastore, 1) := by decide +kernel
theorem dX6_listMoves_48 : decode cX6_listMoves 48 = .ok (.aload_n 0, 1) := by decide +kernel
theorem dX6_listMoves_49 : decode cX6_listMoves 49 = .ok (.dup, 1) := by decide +kernel
theorem dX6_listMoves_50 : decode cX6_listMoves 50 = .ok (.getfield 164, 3) := by decide +kernel
theorem dX6_listMoves_53 : decode cX6_listMoves 53 = .ok (.iconst 1, 1) := by decide +kernel
theorem dX6_listMoves_54 : decode cX6_listMoves 54 = .ok (.iadd, 1) := by decide +kernel
theorem dX6_listMoves_55 : decode cX6_listMoves 55 = .ok (.putfield 164, 3) := by decide +kernel
theorem dX6_listMoves_58 : decode cX6_listMoves 58 = .ok (.iinc 1 1, 3) := by decide +kernel
theorem dX6_listMoves_61 : decode cX6_listMoves 61 = .ok (.goto (-54), 3) := by decide +kernel
theorem dX6_listMoves_64 : decode cX6_listMoves 64 = .ok (.return_, 1) := by decide +kernel
theorem dX6_place_0 : decode cX6_place 0 = .ok (.iconst 0, 1) := by decide +kernel
theorem dX6_place_1 : decode cX6_place 1 = .ok (.istore 4, 2) := by decide +kernel
theorem dX6_place_3 : decode cX6_place 3 = .ok (.iload 4, 2) := by decide +kernel
theorem dX6_place_5 : decode cX6_place 5 = .ok (.aload_n 0, 1) := by decide +kernel
theorem dX6_place_6 : decode cX6_place 6 = .ok (.getfield 67, 3) := by decide +kernel
theorem dX6_place_9 : decode cX6_place 9 = .ok (.if_icmp .ge 117, 3) := by decide +kernel
theorem dX6_place_12 : decode cX6_place 12 = .ok (.aload_n 0, 1) := by decide +kernel
theorem dX6_place_13 : decode cX6_place 13 = .ok (.getfield 51, 3) := by decide +kernel
theorem dX6_place_16 : decode cX6_place 16 = .ok (.iload 4, 2) := by decide +kernel
theorem dX6_place_18 : decode cX6_place 18 = .ok (.aload_n 0, 1) := by decide +kernel
theorem dX6_place_19 : decode cX6_place 19 = .ok (.getfield 31, 3) := by decide +kernel
theorem dX6_place_22 : decode cX6_place 22 = .ok (.iload 4, 2) := by decide +kernel
theorem dX6_place_24 : decode cX6_place 24 = .ok (.baload, 1) := by decide +kernel
theorem dX6_place_25 : decode cX6_place 25 = .ok (.ifCond .eq 7, 3) := by decide +kernel
theorem dX6_place_28 : decode cX6_place 28 = .ok (.iconst (-1), 1) := by decide +kernel
theorem dX6_place_29 : decode cX6_place 29 = .ok (.goto 10, 3) := by decide +kernel
theorem dX6_place_32 : decode cX6_place 32 = .ok (.aload_n 0, 1) := by decide +kernel
theorem dX6_place_33 : decode cX6_place 33 = .ok (.getfield 28, 3) := by decide +kernel
theorem dX6_place_36 : decode cX6_place 36 = .ok (.iload 4, 2) := by decide +kernel
theorem dX6_place_38 : decode cX6_place 38 = .ok (.iaload, 1) := by decide +kernel
theorem dX6_place_39 : decode cX6_place 39 = .ok (.iastore, 1) := by decide +kernel
theorem dX6_place_40 : decode cX6_place 40 = .ok (.iconst 0, 1) := by decide +kernel
theorem dX6_place_41 : decode cX6_place 41 = .ok (.istore 5, 2) := by decide +kernel
theorem dX6_place_43 : decode cX6_place 43 = .ok (.iload 5, 2) := by decide +kernel
theorem dX6_place_45 : decode cX6_place 45 = .ok (.aload_n 0, 1) := by decide +kernel
theorem dX6_place_46 : decode cX6_place 46 = .ok (.getfield 164, 3) := by decide +kernel
theorem dX6_place_49 : decode cX6_place 49 = .ok (.if_icmp .ge 49, 3) := by decide +kernel
theorem dX6_place_52 : decode cX6_place 52 = .ok (.iload_n 1, 1) := by decide +kernel
theorem dX6_place_53 : decode cX6_place 53 = .ok (.iload 5, 2) := by decide +kernel
theorem dX6_place_55 : decode cX6_place 55 = .ok (.ishr, 1) := by decide +kernel
theorem dX6_place_56 : decode cX6_place 56 = .ok (.iconst 1, 1) := by decide +kernel
theorem dX6_place_57 : decode cX6_place 57 = .ok (.iand, 1) := by decide +kernel
theorem dX6_place_58 : decode cX6_place 58 = .ok (.iconst 1, 1) := by decide +kernel
theorem dX6_place_59 : decode cX6_place 59 = .ok (.if_icmp .ne 33, 3) := by decide +kernel
theorem dX6_place_62 : decode cX6_place 62 = .ok (.aload_n 0, 1) := by decide +kernel
theorem dX6_place_63 : decode cX6_place 63 = .ok (.iload 4, 2) := by decide +kernel
theorem dX6_place_65 : decode cX6_place 65 = .ok (.aload_n 0, 1) := by decide +kernel
theorem dX6_place_66 : decode cX6_place 66 = .ok (.getfield 48, 3) := by decide +kernel
theorem dX6_place_69 : decode cX6_place 69 = .ok (.iload 5, 2) := by decide +kernel
theorem dX6_place_71 : decode cX6_place 71 = .ok (.iaload, 1) := by decide +kernel
theorem dX6_place_72 : decode cX6_place 72 = .ok (.invokevirtual 102, 3) := by decide +kernel
theorem dX6_place_75 : decode cX6_place 75 = .ok (.ifCond .eq 17, 3) := by decide +kernel
theorem dX6_place_78 : decode cX6_place 78 = .ok (.aload_n 0, 1) := by decide +kernel
theorem dX6_place_79 : decode cX6_place 79 = .ok (.getfield 51, 3) := by decide +kernel
theorem dX6_place_82 : decode cX6_place 82 = .ok (.iload 4, 2) := by decide +kernel
theorem dX6_place_84 : decode cX6_place 84 = .ok (.aload_n 0, 1) := by decide +kernel
theorem dX6_place_85 : decode cX6_place 85 = .ok (.getfield 45, 3) := by decide +kernel
theorem dX6_place_88 : decode cX6_place 88 = .ok (.iload 4, 2) := by decide +kernel
theorem dX6_place_90 : decode cX6_place 90 = .ok (.iaload, 1) := by decide +kernel
theorem dX6_place_91 : decode cX6_place 91 = .ok (.iastore, 1) := by decide +kernel
theorem dX6_place_92 : decode cX6_place 92 = .ok (.iinc 5 1, 3) := by decide +kernel
theorem dX6_place_95 : decode cX6_place 95 = .ok (.goto (-52), 3) := by decide +kernel
theorem dX6_place_98 : decode cX6_place 98 = .ok (.iload_n 2, 1) := by decide +kernel
theorem dX6_place_99 : decode cX6_place 99 = .ok (.ifCond .lt 21, 3) := by decide +kernel
theorem dX6_place_102 : decode cX6_place 102 = .ok (.aload_n 0, 1) := by decide +kernel
theorem dX6_place_103 : decode cX6_place 103 = .ok (.iload 4, 2) := by decide +kernel
theorem dX6_place_105 : decode cX6_place 105 = .ok (.iload_n 2, 1) := by decide +kernel
theorem dX6_place_106 : decode cX6_place 106 = .ok (.invokevirtual 102, 3) := by decide +kernel
theorem dX6_place_109 : decode cX6_place 109 = .ok (.ifCond .eq 11, 3) := by decide +kernel
theorem dX6_place_112 : decode cX6_place 112 = .ok (.aload_n 0, 1) := by decide +kernel
theorem dX6_place_113 : decode cX6_place 113 = .ok (.getfield 51, 3) := by decide +kernel
theorem dX6_place_116 : decode cX6_place 116 = .ok (.iload 4, 2) := by decide +kernel
theorem dX6_place_118 : decode cX6_place 118 = .ok (.iload_n 3, 1) := by decide +kernel
theorem dX6_place_119 : decode cX6_place 119 = .ok (.iastore, 1) := by decide +kernel
theorem dX6_place_120 : decode cX6_place 120 = .ok (.iinc 4 1, 3) := by decide +kernel
theorem dX6_place_123 : decode cX6_place 123 = .ok (.goto (-120), 3) := by decide +kernel
theorem dX6_place_126 : decode cX6_place 126 = .ok (.return_, 1) := by decide +kernel
theorem dX6_comes_0 : decode cX6_comes 0 = .ok (.iconst 0, 1) := by decide +kernel
theorem dX6_comes_1 : decode cX6_comes 1 = .ok (.istore_n 3, 1) := by decide +kernel
theorem dX6_comes_2 : decode cX6_comes 2 = .ok (.iconst 0, 1) := by decide +kernel
theorem dX6_comes_3 : decode cX6_comes 3 = .ok (.istore 4, 2) := by decide +kernel
theorem dX6_comes_5 : decode cX6_comes 5 = .ok (.iconst 1, 1) := by decide +kernel
theorem dX6_comes_6 : decode cX6_comes 6 = .ok (.istore 5, 2) := by decide +kernel
theorem dX6_comes_8 : decode cX6_comes 8 = .ok (.iconst 0, 1) := by decide +kernel
theorem dX6_comes_9 : decode cX6_comes 9 = .ok (.istore 6, 2) := by decide +kernel
theorem dX6_comes_11 : decode cX6_comes 11 = .ok (.iload 6, 2) := by decide +kernel
theorem dX6_comes_13 : decode cX6_comes 13 = .ok (.aload_n 0, 1) := by decide +kernel
theorem dX6_comes_14 : decode cX6_comes 14 = .ok (.getfield 67, 3) := by decide +kernel
theorem dX6_comes_17 : decode cX6_comes 17 = .ok (.if_icmp .ge 129, 3) := by decide +kernel
theorem dX6_comes_20 : decode cX6_comes 20 = .ok (.aload_n 0, 1) := by decide +kernel
theorem dX6_comes_21 : decode cX6_comes 21 = .ok (.iload 6, 2) := by decide +kernel
theorem dX6_comes_23 : decode cX6_comes 23 = .ok (.iload_n 1, 1) := by decide +kernel
theorem dX6_comes_24 : decode cX6_comes 24 = .ok (.invokevirtual 102, 3) := by decide +kernel
theorem dX6_comes_27 : decode cX6_comes 27 = .ok (.istore 7, 2) := by decide +kernel
theorem dX6_comes_29 : decode cX6_comes 29 = .ok (.aload_n 0, 1) := by decide +kernel
theorem dX6_comes_30 : decode cX6_comes 30 = .ok (.getfield 31, 3) := by decide +kernel
theorem dX6_comes_33 : decode cX6_comes 33 = .ok (.iload 6, 2) := by decide +kernel
theorem dX6_comes_35 : decode cX6_comes 35 = .ok (.baload, 1) := by decide +kernel
theorem dX6_comes_36 : decode cX6_comes 36 = .ok (.ifCond .ne 18, 3) := by decide +kernel
theorem dX6_comes_39 : decode cX6_comes 39 = .ok (.aload_n 0, 1) := by decide +kernel
theorem dX6_comes_40 : decode cX6_comes 40 = .ok (.getfield 51, 3) := by decide +kernel
theorem dX6_comes_43 : decode cX6_comes 43 = .ok (.iload 6, 2) := by decide +kernel
theorem dX6_comes_45 : decode cX6_comes 45 = .ok (.iaload, 1) := by decide +kernel
theorem dX6_comes_46 : decode cX6_comes 46 = .ok (.iload_n 2, 1) := by decide +kernel
theorem dX6_comes_47 : decode cX6_comes 47 = .ok (.if_icmp .ne 7, 3) := by decide +kernel
theorem dX6_comes_50 : decode cX6_comes 50 = .ok (.iconst 1, 1) := by decide +kernel
theorem dX6_comes_51 : decode cX6_comes 51 = .ok (.goto 4, 3) := by decide +kernel
theorem dX6_comes_54 : decode cX6_comes 54 = .ok (.iconst 0, 1) := by decide +kernel
theorem dX6_comes_55 : decode cX6_comes 55 = .ok (.istore 8, 2) := by decide +kernel
theorem dX6_comes_57 : decode cX6_comes 57 = .ok (.iload_n 3, 1) := by decide +kernel
theorem dX6_comes_58 : decode cX6_comes 58 = .ok (.iload 7, 2) := by decide +kernel
theorem dX6_comes_60 : decode cX6_comes 60 = .ok (.ifCond .ne 8, 3) := by decide +kernel
theorem dX6_comes_63 : decode cX6_comes 63 = .ok (.iload 8, 2) := by decide +kernel
theorem dX6_comes_65 : decode cX6_comes 65 = .ok (.ifCond .eq 13, 3) := by decide +kernel
theorem dX6_comes_68 : decode cX6_comes 68 = .ok (.aload_n 0, 1) := by decide +kernel
theorem dX6_comes_69 : decode cX6_comes 69 = .ok (.getfield 16, 3) := by decide +kernel
theorem dX6_comes_72 : decode cX6_comes 72 = .ok (.iload 6, 2) := by decide +kernel
theorem dX6_comes_74 : decode cX6_comes 74 = .ok (.iaload, 1) := by decide +kernel
theorem dX6_comes_75 : decode cX6_comes 75 = .ok (.goto 4, 3) := by decide +kernel
theorem dX6_comes_78 : decode cX6_comes 78 = .ok (.iconst 0, 1) := by decide +kernel
theorem dX6_comes_79 : decode cX6_comes 79 = .ok (.iadd, 1) := by decide +kernel
theorem dX6_comes_80 : decode cX6_comes 80 = .ok (.istore_n 3, 1) := by decide +kernel
theorem dX6_comes_81 : decode cX6_comes 81 = .ok (.iload 4, 2) := by decide +kernel
theorem dX6_comes_83 : decode cX6_comes 83 = .ok (.iload 7, 2) := by decide +kernel
theorem dX6_comes_85 : decode cX6_comes 85 = .ok (.ifCond .ne 8, 3) := by decide +kernel
theorem dX6_comes_88 : decode cX6_comes 88 = .ok (.iload 8, 2) := by decide +kernel
theorem dX6_comes_90 : decode cX6_comes 90 = .ok (.ifCond .eq 13, 3) := by decide +kernel
theorem dX6_comes_93 : decode cX6_comes 93 = .ok (.aload_n 0, 1) := by decide +kernel
theorem dX6_comes_94 : decode cX6_comes 94 = .ok (.getfield 19, 3) := by decide +kernel
theorem dX6_comes_97 : decode cX6_comes 97 = .ok (.iload 6, 2) := by decide +kernel
theorem dX6_comes_99 : decode cX6_comes 99 = .ok (.iaload, 1) := by decide +kernel
theorem dX6_comes_100 : decode cX6_comes 100 = .ok (.goto 4, 3) := by decide +kernel
theorem dX6_comes_103 : decode cX6_comes 103 = .ok (.iconst 0, 1) := by decide +kernel
theorem dX6_comes_104 : decode cX6_comes 104 = .ok (.iadd, 1) := by decide +kernel
theorem dX6_comes_105 : decode cX6_comes 105 = .ok (.istore 4, 2) := by decide +kernel
theorem dX6_comes_107 : decode cX6_comes 107 = .ok (.iload 5, 2) := by decide +kernel
theorem dX6_comes_109 : decode cX6_comes 109 = .ok (.ifCond .eq 28, 3) := by decide +kernel
theorem dX6_comes_112 : decode cX6_comes 112 = .ok (.iload 7, 2) := by decide +kernel
theorem dX6_comes_114 : decode cX6_comes 114 = .ok (.ifCond .ne 19, 3) := by decide +kernel
theorem dX6_comes_117 : decode cX6_comes 117 = .ok (.iload 8, 2) := by decide +kernel
theorem dX6_comes_119 : decode cX6_comes 119 = .ok (.ifCond .eq 14, 3) := by decide +kernel
theorem dX6_comes_122 : decode cX6_comes 122 = .ok (.aload_n 0, 1) := by decide +kernel
theorem dX6_comes_123 : decode cX6_comes 123 = .ok (.iload 6, 2) := by decide +kernel
theorem dX6_comes_125 : decode cX6_comes 125 = .ok (.iload_n 1, 1) := by decide +kernel
theorem dX6_comes_126 : decode cX6_comes 126 = .ok (.iconst 1, 1) := by decide +kernel
theorem dX6_comes_127 : decode cX6_comes 127 = .ok (.invokevirtual 70, 3) := by decide +kernel
theorem dX6_comes_130 : decode cX6_comes 130 = .ok (.ifCond .ne 7, 3) := by decide +kernel
theorem dX6_comes_133 : decode cX6_comes 133 = .ok (.iconst 1, 1) := by decide +kernel
theorem dX6_comes_134 : decode cX6_comes 134 = .ok (.goto 4, 3) := by decide +kernel
theorem dX6_comes_137 : decode cX6_comes 137 = .ok (.iconst 0, 1) := by decide +kernel
theorem dX6_comes_138 : decode cX6_comes 138 = .ok (.istore 5, 2) := by decide +kernel
theorem dX6_comes_140 : decode cX6_comes 140 = .ok (.iinc 6 1, 3) := by decide +kernel
theorem dX6_comes_143 : decode cX6_comes 143 = .ok (.goto (-132), 3) := by decide +kernel
theorem dX6_comes_146 : decode cX6_comes 146 = .ok (.iload 5, 2) := by decide +kernel
theorem dX6_comes_148 : decode cX6_comes 148 = .ok (.ifCond .eq 28, 3) := by decide +kernel
theorem dX6_comes_151 : decode cX6_comes 151 = .ok (.iload_n 3, 1) := by decide +kernel
theorem dX6_comes_152 : decode cX6_comes 152 = .ok (.aload_n 0, 1) := by decide +kernel
theorem dX6_comes_153 : decode cX6_comes 153 = .ok (.getfield 7, 3) := by decide +kernel
theorem dX6_comes_156 : decode cX6_comes 156 = .ok (.iload_n 2, 1) := by decide +kernel
theorem dX6_comes_157 : decode cX6_comes 157 = .ok (.iaload, 1) := by decide +kernel
theorem dX6_comes_158 : decode cX6_comes 158 = .ok (.if_icmp .gt 18, 3) := by decide +kernel
theorem dX6_comes_161 : decode cX6_comes 161 = .ok (.iload 4, 2) := by decide +kernel
theorem dX6_comes_163 : decode cX6_comes 163 = .ok (.aload_n 0, 1) := by decide +kernel
theorem dX6_comes_164 : decode cX6_comes 164 = .ok (.getfield 13, 3) := by decide +kernel
theorem dX6_comes_167 : decode cX6_comes 167 = .ok (.iload_n 2, 1) := by decide +kernel
theorem dX6_comes_168 : decode cX6_comes 168 = .ok (.iaload, 1) := by decide +kernel
theorem dX6_comes_169 : decode cX6_comes 169 = .ok (.if_icmp .gt 7, 3) := by decide +kernel
theorem dX6_comes_172 : decode cX6_comes 172 = .ok (.iconst 1, 1) := by decide +kernel
theorem dX6_comes_173 : decode cX6_comes 173 = .ok (.goto 4, 3) := by decide +kernel
theorem dX6_comes_176 : decode cX6_comes 176 = .ok (.iconst 0, 1) := by decide +kernel
theorem dX6_comes_177 : decode cX6_comes 177 = .ok (.ireturn, 1) := by decide +kernel
theorem dX6_canAll_0 : decode cX6_canAll 0 = .ok (.iconst 1, 1) := by decide +kernel
theorem dX6_canAll_1 : decode cX6_canAll 1 = .ok (.aload_n 0, 1) := by decide +kernel
theorem dX6_canAll_2 : decode cX6_canAll 2 = .ok (.getfield 164, 3) := by decide +kernel
theorem dX6_canAll_5 : decode cX6_canAll 5 = .ok (.ishl, 1) := by decide +kernel
theorem dX6_canAll_6 : decode cX6_canAll 6 = .ok (.iconst 1, 1) := by decide +kernel
theorem dX6_canAll_7 : decode cX6_canAll 7 = .ok (.isub, 1) := by decide +kernel
theorem dX6_canAll_8 : decode cX6_canAll 8 = .ok (.istore_n 2, 1) := by decide +kernel
theorem dX6_canAll_9 : decode cX6_canAll 9 = .ok (.iload_n 2, 1) := by decide +kernel
theorem dX6_canAll_10 : decode cX6_canAll 10 = .ok (.istore_n 3, 1) := by decide +kernel
theorem dX6_canAll_11 : decode cX6_canAll 11 = .ok (.iload_n 3, 1) := by decide +kernel
theorem dX6_canAll_12 : decode cX6_canAll 12 = .ok (.ifCond .lt 168, 3) := by decide +kernel
theorem dX6_canAll_15 : decode cX6_canAll 15 = .ok (.aload_n 0, 1) := by decide +kernel
theorem dX6_canAll_16 : decode cX6_canAll 16 = .ok (.getfield 54, 3) := by decide +kernel
theorem dX6_canAll_19 : decode cX6_canAll 19 = .ok (.iload_n 3, 1) := by decide +kernel
theorem dX6_canAll_20 : decode cX6_canAll 20 = .ok (.iload_n 3, 1) := by decide +kernel
theorem dX6_canAll_21 : decode cX6_canAll 21 = .ok (.iload_n 2, 1) := by decide +kernel
theorem dX6_canAll_22 : decode cX6_canAll 22 = .ok (.if_icmp .ne 7, 3) := by decide +kernel
theorem dX6_canAll_25 : decode cX6_canAll 25 = .ok (.iconst 1, 1) := by decide +kernel
theorem dX6_canAll_26 : decode cX6_canAll 26 = .ok (.goto 4, 3) := by decide +kernel
theorem dX6_canAll_29 : decode cX6_canAll 29 = .ok (.iconst 0, 1) := by decide +kernel
theorem dX6_canAll_30 : decode cX6_canAll 30 = .ok (.bastore, 1) := by decide +kernel
theorem dX6_canAll_31 : decode cX6_canAll 31 = .ok (.iconst 0, 1) := by decide +kernel
theorem dX6_canAll_32 : decode cX6_canAll 32 = .ok (.istore 4, 2) := by decide +kernel
theorem dX6_canAll_34 : decode cX6_canAll 34 = .ok (.iload 4, 2) := by decide +kernel
theorem dX6_canAll_36 : decode cX6_canAll 36 = .ok (.aload_n 0, 1) := by decide +kernel
theorem dX6_canAll_37 : decode cX6_canAll 37 = .ok (.getfield 164, 3) := by decide +kernel
theorem dX6_canAll_40 : decode cX6_canAll 40 = .ok (.if_icmp .ge 134, 3) := by decide +kernel
theorem dX6_canAll_43 : decode cX6_canAll 43 = .ok (.aload_n 0, 1) := by decide +kernel
theorem dX6_canAll_44 : decode cX6_canAll 44 = .ok (.getfield 54, 3) := by decide +kernel
theorem dX6_canAll_47 : decode cX6_canAll 47 = .ok (.iload_n 3, 1) := by decide +kernel
theorem dX6_canAll_48 : decode cX6_canAll 48 = .ok (.baload, 1) := by decide +kernel
theorem dX6_canAll_49 : decode cX6_canAll 49 = .ok (.ifCond .ne 125, 3) := by decide +kernel
theorem dX6_canAll_52 : decode cX6_canAll 52 = .ok (.iload_n 3, 1) := by decide +kernel
theorem dX6_canAll_53 : decode cX6_canAll 53 = .ok (.iload 4, 2) := by decide +kernel
theorem dX6_canAll_55 : decode cX6_canAll 55 = .ok (.ishr, 1) := by decide +kernel
theorem dX6_canAll_56 : decode cX6_canAll 56 = .ok (.iconst 1, 1) := by decide +kernel
theorem dX6_canAll_57 : decode cX6_canAll 57 = .ok (.iand, 1) := by decide +kernel
theorem dX6_canAll_58 : decode cX6_canAll 58 = .ok (.ifCond .ne 110, 3) := by decide +kernel
theorem dX6_canAll_61 : decode cX6_canAll 61 = .ok (.iload 4, 2) := by decide +kernel
theorem dX6_canAll_63 : decode cX6_canAll 63 = .ok (.iload_n 1, 1) := by decide +kernel
theorem dX6_canAll_64 : decode cX6_canAll 64 = .ok (.if_icmp .ne 17, 3) := by decide +kernel
theorem dX6_canAll_67 : decode cX6_canAll 67 = .ok (.iload_n 3, 1) := by decide +kernel
theorem dX6_canAll_68 : decode cX6_canAll 68 = .ok (.iconst 1, 1) := by decide +kernel
theorem dX6_canAll_69 : decode cX6_canAll 69 = .ok (.iload 4, 2) := by decide +kernel
theorem dX6_canAll_71 : decode cX6_canAll 71 = .ok (.ishl, 1) := by decide +kernel
theorem dX6_canAll_72 : decode cX6_canAll 72 = .ok (.ior, 1) := by decide +kernel
theorem dX6_canAll_73 : decode cX6_canAll 73 = .ok (.iload_n 2, 1) := by decide +kernel
theorem dX6_canAll_74 : decode cX6_canAll 74 = .ok (.if_icmp .eq 7, 3) := by decide +kernel
theorem dX6_canAll_77 : decode cX6_canAll 77 = .ok (.iconst 1, 1) := by decide +kernel
theorem dX6_canAll_78 : decode cX6_canAll 78 = .ok (.goto 4, 3) := by decide +kernel
theorem dX6_canAll_81 : decode cX6_canAll 81 = .ok (.iconst 0, 1) := by decide +kernel
theorem dX6_canAll_82 : decode cX6_canAll 82 = .ok (.istore 5, 2) := by decide +kernel
theorem dX6_canAll_84 : decode cX6_canAll 84 = .ok (.aload_n 0, 1) := by decide +kernel
theorem dX6_canAll_85 : decode cX6_canAll 85 = .ok (.iload_n 3, 1) := by decide +kernel
theorem dX6_canAll_86 : decode cX6_canAll 86 = .ok (.iload_n 1, 1) := by decide +kernel
theorem dX6_canAll_87 : decode cX6_canAll 87 = .ok (.ifCond .lt 20, 3) := by decide +kernel
theorem dX6_canAll_90 : decode cX6_canAll 90 = .ok (.iload_n 3, 1) := by decide +kernel
theorem dX6_canAll_91 : decode cX6_canAll 91 = .ok (.iload_n 1, 1) := by decide +kernel
theorem dX6_canAll_92 : decode cX6_canAll 92 = .ok (.ishr, 1) := by decide +kernel
theorem dX6_canAll_93 : decode cX6_canAll 93 = .ok (.iconst 1, 1) := by decide +kernel
theorem dX6_canAll_94 : decode cX6_canAll 94 = .ok (.iand, 1) := by decide +kernel
theorem dX6_canAll_95 : decode cX6_canAll 95 = .ok (.ifCond .ne 12, 3) := by decide +kernel
theorem dX6_canAll_98 : decode cX6_canAll 98 = .ok (.aload_n 0, 1) := by decide +kernel
theorem dX6_canAll_99 : decode cX6_canAll 99 = .ok (.getfield 48, 3) := by decide +kernel
theorem dX6_canAll_102 : decode cX6_canAll 102 = .ok (.iload_n 1, 1) := by decide +kernel
theorem dX6_canAll_103 : decode cX6_canAll 103 = .ok (.iaload, 1) := by decide +kernel
theorem dX6_canAll_104 : decode cX6_canAll 104 = .ok (.goto 4, 3) := by decide +kernel
theorem dX6_canAll_107 : decode cX6_canAll 107 = .ok (.iconst (-1), 1) := by decide +kernel
theorem dX6_canAll_108 : decode cX6_canAll 108 = .ok (.iconst (-1), 1) := by decide +kernel
theorem dX6_canAll_109 : decode cX6_canAll 109 = .ok (.invokevirtual 167, 3) := by decide +kernel
theorem dX6_canAll_112 : decode cX6_canAll 112 = .ok (.aload_n 0, 1) := by decide +kernel
theorem dX6_canAll_113 : decode cX6_canAll 113 = .ok (.getfield 54, 3) := by decide +kernel
theorem dX6_canAll_116 : decode cX6_canAll 116 = .ok (.iload_n 3, 1) := by decide +kernel
theorem dX6_canAll_117 : decode cX6_canAll 117 = .ok (.iload 5, 2) := by decide +kernel
theorem dX6_canAll_119 : decode cX6_canAll 119 = .ok (.ifCond .ne 47, 3) := by decide +kernel
theorem dX6_canAll_122 : decode cX6_canAll 122 = .ok (.aload_n 0, 1) := by decide +kernel
theorem dX6_canAll_123 : decode cX6_canAll 123 = .ok (.getfield 54, 3) := by decide +kernel
theorem dX6_canAll_126 : decode cX6_canAll 126 = .ok (.iload_n 3, 1) := by decide +kernel
theorem dX6_canAll_127 : decode cX6_canAll 127 = .ok (.iconst 1, 1) := by decide +kernel
theorem dX6_canAll_128 : decode cX6_canAll 128 = .ok (.iload 4, 2) := by decide +kernel
theorem dX6_canAll_130 : decode cX6_canAll 130 = .ok (.ishl, 1) := by decide +kernel
theorem dX6_canAll_131 : decode cX6_canAll 131 = .ok (.ior, 1) := by decide +kernel
theorem dX6_canAll_132 : decode cX6_canAll 132 = .ok (.baload, 1) := by decide +kernel
theorem dX6_canAll_133 : decode cX6_canAll 133 = .ok (.ifCond .eq 33, 3) := by decide +kernel
theorem dX6_canAll_136 : decode cX6_canAll 136 = .ok (.aload_n 0, 1) := by decide +kernel
theorem dX6_canAll_137 : decode cX6_canAll 137 = .ok (.aload_n 0, 1) := by decide +kernel
theorem dX6_canAll_138 : decode cX6_canAll 138 = .ok (.getfield 48, 3) := by decide +kernel
theorem dX6_canAll_141 : decode cX6_canAll 141 = .ok (.iload 4, 2) := by decide +kernel
theorem dX6_canAll_143 : decode cX6_canAll 143 = .ok (.iaload, 1) := by decide +kernel
theorem dX6_canAll_144 : decode cX6_canAll 144 = .ok (.aload_n 0, 1) := by decide +kernel
theorem dX6_canAll_145 : decode cX6_canAll 145 = .ok (.getfield 45, 3) := by decide +kernel
theorem dX6_canAll_148 : decode cX6_canAll 148 = .ok (.aload_n 0, 1) := by decide +kernel
theorem dX6_canAll_149 : decode cX6_canAll 149 = .ok (.getfield 48, 3) := by decide +kernel
theorem dX6_canAll_152 : decode cX6_canAll 152 = .ok (.iload 4, 2) := by decide +kernel
theorem dX6_canAll_154 : decode cX6_canAll 154 = .ok (.iaload, 1) := by decide +kernel
theorem dX6_canAll_155 : decode cX6_canAll 155 = .ok (.iaload, 1) := by decide +kernel
theorem dX6_canAll_156 : decode cX6_canAll 156 = .ok (.invokevirtual 171, 3) := by decide +kernel
theorem dX6_canAll_159 : decode cX6_canAll 159 = .ok (.ifCond .eq 7, 3) := by decide +kernel
theorem dX6_canAll_162 : decode cX6_canAll 162 = .ok (.iconst 1, 1) := by decide +kernel
theorem dX6_canAll_163 : decode cX6_canAll 163 = .ok (.goto 4, 3) := by decide +kernel
theorem dX6_canAll_166 : decode cX6_canAll 166 = .ok (.iconst 0, 1) := by decide +kernel
theorem dX6_canAll_167 : decode cX6_canAll 167 = .ok (.bastore, 1) := by decide +kernel
theorem dX6_canAll_168 : decode cX6_canAll 168 = .ok (.iinc 4 1, 3) := by decide +kernel
theorem dX6_canAll_171 : decode cX6_canAll 171 = .ok (.goto (-137), 3) := by decide +kernel
theorem dX6_canAll_174 : decode cX6_canAll 174 = .ok (.iinc 3 (-1), 3) := by decide +kernel
theorem dX6_canAll_177 : decode cX6_canAll 177 = .ok (.goto (-166), 3) := by decide +kernel
theorem dX6_canAll_180 : decode cX6_canAll 180 = .ok (.aload_n 0, 1) := by decide +kernel
theorem dX6_canAll_181 : decode cX6_canAll 181 = .ok (.getfield 54, 3) := by decide +kernel
theorem dX6_canAll_184 : decode cX6_canAll 184 = .ok (.iconst 0, 1) := by decide +kernel
theorem dX6_canAll_185 : decode cX6_canAll 185 = .ok (.baload, 1) := by decide +kernel
theorem dX6_canAll_186 : decode cX6_canAll 186 = .ok (.ireturn, 1) := by decide +kernel
theorem dX6_order_0 : decode cX6_order 0 = .ok (.aload_n 0, 1) := by decide +kernel
theorem dX6_order_1 : decode cX6_order 1 = .ok (.getfield 88, 3) := by decide +kernel
theorem dX6_order_4 : decode cX6_order 4 = .ok (.ifCond .ne 6, 3) := by decide +kernel
theorem dX6_order_7 : decode cX6_order 7 = .ok (.bipush (-3), 2) := by decide +kernel
theorem dX6_order_9 : decode cX6_order 9 = .ok (.ireturn, 1) := by decide +kernel
theorem dX6_order_10 : decode cX6_order 10 = .ok (.aload_n 0, 1) := by decide +kernel
theorem dX6_order_11 : decode cX6_order 11 = .ok (.invokevirtual 174, 3) := by decide +kernel
theorem dX6_order_14 : decode cX6_order 14 = .ok (.aload_n 0, 1) := by decide +kernel
theorem dX6_order_15 : decode cX6_order 15 = .ok (.iconst (-1), 1) := by decide +kernel
theorem dX6_order_16 : decode cX6_order 16 = .ok (.invokevirtual 177, 3) := by decide +kernel
theorem dX6_order_19 : decode cX6_order 19 = .ok (.ifCond .eq 7, 3) := by decide +kernel
theorem dX6_order_22 : decode cX6_order 22 = .ok (.iconst 1, 1) := by decide +kernel
theorem dX6_order_23 : decode cX6_order 23 = .ok (.goto 4, 3) := by decide +kernel
theorem dX6_order_26 : decode cX6_order 26 = .ok (.iconst 0, 1) := by decide +kernel
theorem dX6_order_27 : decode cX6_order 27 = .ok (.ireturn, 1) := by decide +kernel
theorem dX6_firstOf_0 : decode cX6_firstOf 0 = .ok (.aload_n 0, 1) := by decide +kernel
theorem dX6_firstOf_1 : decode cX6_firstOf 1 = .ok (.iload_n 1, 1) := by decide +kernel
theorem dX6_firstOf_2 : decode cX6_firstOf 2 = .ok (.iconst (-1), 1) := by decide +kernel
theorem dX6_firstOf_3 : decode cX6_firstOf 3 = .ok (.iconst (-1), 1) := by decide +kernel
theorem dX6_firstOf_4 : decode cX6_firstOf 4 = .ok (.invokevirtual 167, 3) := by decide +kernel
theorem dX6_firstOf_7 : decode cX6_firstOf 7 = .ok (.iconst 0, 1) := by decide +kernel
theorem dX6_firstOf_8 : decode cX6_firstOf 8 = .ok (.istore_n 2, 1) := by decide +kernel
theorem dX6_firstOf_9 : decode cX6_firstOf 9 = .ok (.iload_n 2, 1) := by decide +kernel
theorem dX6_firstOf_10 : decode cX6_firstOf 10 = .ok (.aload_n 0, 1) := by decide +kernel
theorem dX6_firstOf_11 : decode cX6_firstOf 11 = .ok (.getfield 164, 3) := by decide +kernel
theorem dX6_firstOf_14 : decode cX6_firstOf 14 = .ok (.if_icmp .ge 56, 3) := by decide +kernel
theorem dX6_firstOf_17 : decode cX6_firstOf 17 = .ok (.iload_n 1, 1) := by decide +kernel
theorem dX6_firstOf_18 : decode cX6_firstOf 18 = .ok (.iload_n 2, 1) := by decide +kernel
theorem dX6_firstOf_19 : decode cX6_firstOf 19 = .ok (.ishr, 1) := by decide +kernel
theorem dX6_firstOf_20 : decode cX6_firstOf 20 = .ok (.iconst 1, 1) := by decide +kernel
theorem dX6_firstOf_21 : decode cX6_firstOf 21 = .ok (.iand, 1) := by decide +kernel
theorem dX6_firstOf_22 : decode cX6_firstOf 22 = .ok (.ifCond .ne 42, 3) := by decide +kernel
theorem dX6_firstOf_25 : decode cX6_firstOf 25 = .ok (.aload_n 0, 1) := by decide +kernel
theorem dX6_firstOf_26 : decode cX6_firstOf 26 = .ok (.getfield 54, 3) := by decide +kernel
theorem dX6_firstOf_29 : decode cX6_firstOf 29 = .ok (.iload_n 1, 1) := by decide +kernel
theorem dX6_firstOf_30 : decode cX6_firstOf 30 = .ok (.iconst 1, 1) := by decide +kernel
theorem dX6_firstOf_31 : decode cX6_firstOf 31 = .ok (.iload_n 2, 1) := by decide +kernel
theorem dX6_firstOf_32 : decode cX6_firstOf 32 = .ok (.ishl, 1) := by decide +kernel
theorem dX6_firstOf_33 : decode cX6_firstOf 33 = .ok (.ior, 1) := by decide +kernel
theorem dX6_firstOf_34 : decode cX6_firstOf 34 = .ok (.baload, 1) := by decide +kernel
theorem dX6_firstOf_35 : decode cX6_firstOf 35 = .ok (.ifCond .eq 29, 3) := by decide +kernel
theorem dX6_firstOf_38 : decode cX6_firstOf 38 = .ok (.aload_n 0, 1) := by decide +kernel
theorem dX6_firstOf_39 : decode cX6_firstOf 39 = .ok (.aload_n 0, 1) := by decide +kernel
theorem dX6_firstOf_40 : decode cX6_firstOf 40 = .ok (.getfield 48, 3) := by decide +kernel
theorem dX6_firstOf_43 : decode cX6_firstOf 43 = .ok (.iload_n 2, 1) := by decide +kernel
theorem dX6_firstOf_44 : decode cX6_firstOf 44 = .ok (.iaload, 1) := by decide +kernel
theorem dX6_firstOf_45 : decode cX6_firstOf 45 = .ok (.aload_n 0, 1) := by decide +kernel
theorem dX6_firstOf_46 : decode cX6_firstOf 46 = .ok (.getfield 45, 3) := by decide +kernel
theorem dX6_firstOf_49 : decode cX6_firstOf 49 = .ok (.aload_n 0, 1) := by decide +kernel
theorem dX6_firstOf_50 : decode cX6_firstOf 50 = .ok (.getfield 48, 3) := by decide +kernel
theorem dX6_firstOf_53 : decode cX6_firstOf 53 = .ok (.iload_n 2, 1) := by decide +kernel
theorem dX6_firstOf_54 : decode cX6_firstOf 54 = .ok (.iaload, 1) := by decide +kernel
theorem dX6_firstOf_55 : decode cX6_firstOf 55 = .ok (.iaload, 1) := by decide +kernel
theorem dX6_firstOf_56 : decode cX6_firstOf 56 = .ok (.invokevirtual 171, 3) := by decide +kernel
theorem dX6_firstOf_59 : decode cX6_firstOf 59 = .ok (.ifCond .eq 5, 3) := by decide +kernel
theorem dX6_firstOf_62 : decode cX6_firstOf 62 = .ok (.iload_n 2, 1) := by decide +kernel
theorem dX6_firstOf_63 : decode cX6_firstOf 63 = .ok (.ireturn, 1) := by decide +kernel
theorem dX6_firstOf_64 : decode cX6_firstOf 64 = .ok (.iinc 2 1, 3) := by decide +kernel
theorem dX6_firstOf_67 : decode cX6_firstOf 67 = .ok (.goto (-58), 3) := by decide +kernel
theorem dX6_firstOf_70 : decode cX6_firstOf 70 = .ok (.iconst (-1), 1) := by decide +kernel
theorem dX6_firstOf_71 : decode cX6_firstOf 71 = .ok (.ireturn, 1) := by decide +kernel
theorem dX6_orderAt_0 : decode cX6_orderAt 0 = .ok (.aload_n 0, 1) := by decide +kernel
theorem dX6_orderAt_1 : decode cX6_orderAt 1 = .ok (.getfield 88, 3) := by decide +kernel
theorem dX6_orderAt_4 : decode cX6_orderAt 4 = .ok (.ifCond .ne 6, 3) := by decide +kernel
theorem dX6_orderAt_7 : decode cX6_orderAt 7 = .ok (.bipush (-3), 2) := by decide +kernel
theorem dX6_orderAt_9 : decode cX6_orderAt 9 = .ok (.ireturn, 1) := by decide +kernel
theorem dX6_orderAt_10 : decode cX6_orderAt 10 = .ok (.aload_n 0, 1) := by decide +kernel
theorem dX6_orderAt_11 : decode cX6_orderAt 11 = .ok (.invokevirtual 174, 3) := by decide +kernel
theorem dX6_orderAt_14 : decode cX6_orderAt 14 = .ok (.aload_n 0, 1) := by decide +kernel
theorem dX6_orderAt_15 : decode cX6_orderAt 15 = .ok (.iconst (-1), 1) := by decide +kernel
theorem dX6_orderAt_16 : decode cX6_orderAt 16 = .ok (.invokevirtual 177, 3) := by decide +kernel
theorem dX6_orderAt_19 : decode cX6_orderAt 19 = .ok (.ifCond .eq 17, 3) := by decide +kernel
theorem dX6_orderAt_22 : decode cX6_orderAt 22 = .ok (.iload_n 1, 1) := by decide +kernel
theorem dX6_orderAt_23 : decode cX6_orderAt 23 = .ok (.iconst 0, 1) := by decide +kernel
theorem dX6_orderAt_24 : decode cX6_orderAt 24 = .ok (.aload_n 0, 1) := by decide +kernel
theorem dX6_orderAt_25 : decode cX6_orderAt 25 = .ok (.getfield 164, 3) := by decide +kernel
theorem dX6_orderAt_28 : decode cX6_orderAt 28 = .ok (.iconst 1, 1) := by decide +kernel
theorem dX6_orderAt_29 : decode cX6_orderAt 29 = .ok (.isub, 1) := by decide +kernel
theorem dX6_orderAt_30 : decode cX6_orderAt 30 = .ok (.invokestatic 60, 3) := by decide +kernel
theorem dX6_orderAt_33 : decode cX6_orderAt 33 = .ok (.ifCond .ne 5, 3) := by decide +kernel
theorem dX6_orderAt_36 : decode cX6_orderAt 36 = .ok (.iconst (-1), 1) := by decide +kernel
theorem dX6_orderAt_37 : decode cX6_orderAt 37 = .ok (.ireturn, 1) := by decide +kernel
theorem dX6_orderAt_38 : decode cX6_orderAt 38 = .ok (.iconst 0, 1) := by decide +kernel
theorem dX6_orderAt_39 : decode cX6_orderAt 39 = .ok (.istore_n 2, 1) := by decide +kernel
theorem dX6_orderAt_40 : decode cX6_orderAt 40 = .ok (.iconst (-1), 1) := by decide +kernel
theorem dX6_orderAt_41 : decode cX6_orderAt 41 = .ok (.istore_n 3, 1) := by decide +kernel
theorem dX6_orderAt_42 : decode cX6_orderAt 42 = .ok (.iconst 0, 1) := by decide +kernel
theorem dX6_orderAt_43 : decode cX6_orderAt 43 = .ok (.istore 4, 2) := by decide +kernel
theorem dX6_orderAt_45 : decode cX6_orderAt 45 = .ok (.iload 4, 2) := by decide +kernel
theorem dX6_orderAt_47 : decode cX6_orderAt 47 = .ok (.iload_n 1, 1) := by decide +kernel
theorem dX6_orderAt_48 : decode cX6_orderAt 48 = .ok (.if_icmp .gt 21, 3) := by decide +kernel
theorem dX6_orderAt_51 : decode cX6_orderAt 51 = .ok (.aload_n 0, 1) := by decide +kernel
theorem dX6_orderAt_52 : decode cX6_orderAt 52 = .ok (.iload_n 2, 1) := by decide +kernel
theorem dX6_orderAt_53 : decode cX6_orderAt 53 = .ok (.invokevirtual 180, 3) := by decide +kernel
theorem dX6_orderAt_56 : decode cX6_orderAt 56 = .ok (.istore_n 3, 1) := by decide +kernel
theorem dX6_orderAt_57 : decode cX6_orderAt 57 = .ok (.iload_n 2, 1) := by decide +kernel
theorem dX6_orderAt_58 : decode cX6_orderAt 58 = .ok (.iconst 1, 1) := by decide +kernel
theorem dX6_orderAt_59 : decode cX6_orderAt 59 = .ok (.iload_n 3, 1) := by decide +kernel
theorem dX6_orderAt_60 : decode cX6_orderAt 60 = .ok (.ishl, 1) := by decide +kernel
theorem dX6_orderAt_61 : decode cX6_orderAt 61 = .ok (.ior, 1) := by decide +kernel
theorem dX6_orderAt_62 : decode cX6_orderAt 62 = .ok (.istore_n 2, 1) := by decide +kernel
theorem dX6_orderAt_63 : decode cX6_orderAt 63 = .ok (.iinc 4 1, 3) := by decide +kernel
theorem dX6_orderAt_66 : decode cX6_orderAt 66 = .ok (.goto (-21), 3) := by decide +kernel
theorem dX6_orderAt_69 : decode cX6_orderAt 69 = .ok (.aload_n 0, 1) := by decide +kernel
theorem dX6_orderAt_70 : decode cX6_orderAt 70 = .ok (.getfield 48, 3) := by decide +kernel
theorem dX6_orderAt_73 : decode cX6_orderAt 73 = .ok (.iload_n 3, 1) := by decide +kernel
theorem dX6_orderAt_74 : decode cX6_orderAt 74 = .ok (.iaload, 1) := by decide +kernel
theorem dX6_orderAt_75 : decode cX6_orderAt 75 = .ok (.ireturn, 1) := by decide +kernel
theorem dX6_canByThird_0 : decode cX6_canByThird 0 = .ok (.iconst 1, 1) := by decide +kernel
theorem dX6_canByThird_1 : decode cX6_canByThird 1 = .ok (.aload_n 0, 1) := by decide +kernel
theorem dX6_canByThird_2 : decode cX6_canByThird 2 = .ok (.getfield 164, 3) := by decide +kernel
theorem dX6_canByThird_5 : decode cX6_canByThird 5 = .ok (.ishl, 1) := by decide +kernel
theorem dX6_canByThird_6 : decode cX6_canByThird 6 = .ok (.iconst 1, 1) := by decide +kernel
theorem dX6_canByThird_7 : decode cX6_canByThird 7 = .ok (.isub, 1) := by decide +kernel
theorem dX6_canByThird_8 : decode cX6_canByThird 8 = .ok (.istore_n 3, 1) := by decide +kernel
theorem dX6_canByThird_9 : decode cX6_canByThird 9 = .ok (.iload_n 3, 1) := by decide +kernel
theorem dX6_canByThird_10 : decode cX6_canByThird 10 = .ok (.istore 4, 2) := by decide +kernel
theorem dX6_canByThird_12 : decode cX6_canByThird 12 = .ok (.iload 4, 2) := by decide +kernel
theorem dX6_canByThird_14 : decode cX6_canByThird 14 = .ok (.ifCond .lt 450, 3) := by decide +kernel
theorem dX6_canByThird_17 : decode cX6_canByThird 17 = .ok (.iload 4, 2) := by decide +kernel
theorem dX6_canByThird_19 : decode cX6_canByThird 19 = .ok (.iload_n 1, 1) := by decide +kernel
theorem dX6_canByThird_20 : decode cX6_canByThird 20 = .ok (.ishr, 1) := by decide +kernel
theorem dX6_canByThird_21 : decode cX6_canByThird 21 = .ok (.iconst 1, 1) := by decide +kernel
theorem dX6_canByThird_22 : decode cX6_canByThird 22 = .ok (.iand, 1) := by decide +kernel
theorem dX6_canByThird_23 : decode cX6_canByThird 23 = .ok (.iconst 1, 1) := by decide +kernel
theorem dX6_canByThird_24 : decode cX6_canByThird 24 = .ok (.if_icmp .ne 7, 3) := by decide +kernel
theorem dX6_canByThird_27 : decode cX6_canByThird 27 = .ok (.iconst 1, 1) := by decide +kernel
theorem dX6_canByThird_28 : decode cX6_canByThird 28 = .ok (.goto 4, 3) := by decide +kernel
theorem dX6_canByThird_31 : decode cX6_canByThird 31 = .ok (.iconst 0, 1) := by decide +kernel
theorem dX6_canByThird_32 : decode cX6_canByThird 32 = .ok (.istore 5, 2) := by decide +kernel
theorem dX6_canByThird_34 : decode cX6_canByThird 34 = .ok (.aload_n 0, 1) := by decide +kernel
theorem dX6_canByThird_35 : decode cX6_canByThird 35 = .ok (.getfield 54, 3) := by decide +kernel
theorem dX6_canByThird_38 : decode cX6_canByThird 38 = .ok (.iload 4, 2) := by decide +kernel
theorem dX6_canByThird_40 : decode cX6_canByThird 40 = .ok (.iload 4, 2) := by decide +kernel
theorem dX6_canByThird_42 : decode cX6_canByThird 42 = .ok (.iload_n 3, 1) := by decide +kernel
theorem dX6_canByThird_43 : decode cX6_canByThird 43 = .ok (.if_icmp .ne 7, 3) := by decide +kernel
theorem dX6_canByThird_46 : decode cX6_canByThird 46 = .ok (.iconst 1, 1) := by decide +kernel
theorem dX6_canByThird_47 : decode cX6_canByThird 47 = .ok (.goto 4, 3) := by decide +kernel
theorem dX6_canByThird_50 : decode cX6_canByThird 50 = .ok (.iconst 0, 1) := by decide +kernel
theorem dX6_canByThird_51 : decode cX6_canByThird 51 = .ok (.bastore, 1) := by decide +kernel
theorem dX6_canByThird_52 : decode cX6_canByThird 52 = .ok (.aload_n 0, 1) := by decide +kernel
theorem dX6_canByThird_53 : decode cX6_canByThird 53 = .ok (.getfield 54, 3) := by decide +kernel
theorem dX6_canByThird_56 : decode cX6_canByThird 56 = .ok (.sipush 256, 3) := by decide +kernel
theorem dX6_canByThird_59 : decode cX6_canByThird 59 = .ok (.iload 4, 2) := by decide +kernel
theorem dX6_canByThird_61 : decode cX6_canByThird 61 = .ok (.iadd, 1) := by decide +kernel
theorem dX6_canByThird_62 : decode cX6_canByThird 62 = .ok (.iconst 0, 1) := by decide +kernel
theorem dX6_canByThird_63 : decode cX6_canByThird 63 = .ok (.bastore, 1) := by decide +kernel
theorem dX6_canByThird_64 : decode cX6_canByThird 64 = .ok (.iconst 0, 1) := by decide +kernel
theorem dX6_canByThird_65 : decode cX6_canByThird 65 = .ok (.istore 6, 2) := by decide +kernel
theorem dX6_canByThird_67 : decode cX6_canByThird 67 = .ok (.iload 6, 2) := by decide +kernel
theorem dX6_canByThird_69 : decode cX6_canByThird 69 = .ok (.aload_n 0, 1) := by decide +kernel
theorem dX6_canByThird_70 : decode cX6_canByThird 70 = .ok (.getfield 164, 3) := by decide +kernel
theorem dX6_canByThird_73 : decode cX6_canByThird 73 = .ok (.if_icmp .ge 212, 3) := by decide +kernel
theorem dX6_canByThird_76 : decode cX6_canByThird 76 = .ok (.iload 4, 2) := by decide +kernel
theorem dX6_canByThird_78 : decode cX6_canByThird 78 = .ok (.iload 6, 2) := by decide +kernel
theorem dX6_canByThird_80 : decode cX6_canByThird 80 = .ok (.ishr, 1) := by decide +kernel
theorem dX6_canByThird_81 : decode cX6_canByThird 81 = .ok (.iconst 1, 1) := by decide +kernel
theorem dX6_canByThird_82 : decode cX6_canByThird 82 = .ok (.iand, 1) := by decide +kernel
theorem dX6_canByThird_83 : decode cX6_canByThird 83 = .ok (.ifCond .ne 196, 3) := by decide +kernel
theorem dX6_canByThird_86 : decode cX6_canByThird 86 = .ok (.aload_n 0, 1) := by decide +kernel
theorem dX6_canByThird_87 : decode cX6_canByThird 87 = .ok (.getfield 54, 3) := by decide +kernel
theorem dX6_canByThird_90 : decode cX6_canByThird 90 = .ok (.iload 4, 2) := by decide +kernel
theorem dX6_canByThird_92 : decode cX6_canByThird 92 = .ok (.iconst 1, 1) := by decide +kernel
theorem dX6_canByThird_93 : decode cX6_canByThird 93 = .ok (.iload 6, 2) := by decide +kernel
theorem dX6_canByThird_95 : decode cX6_canByThird 95 = .ok (.ishl, 1) := by decide +kernel
theorem dX6_canByThird_96 : decode cX6_canByThird 96 = .ok (.ior, 1) := by decide +kernel
theorem dX6_canByThird_97 : decode cX6_canByThird 97 = .ok (.baload, 1) := by decide +kernel
theorem dX6_canByThird_98 : decode cX6_canByThird 98 = .ok (.istore 7, 2) := by decide +kernel
theorem dX6_canByThird_100 : decode cX6_canByThird 100 = .ok (.aload_n 0, 1) := by decide +kernel
theorem dX6_canByThird_101 : decode cX6_canByThird 101 = .ok (.getfield 54, 3) := by decide +kernel
theorem dX6_canByThird_104 : decode cX6_canByThird 104 = .ok (.sipush 256, 3) := by decide +kernel
theorem dX6_canByThird_107 : decode cX6_canByThird 107 = .ok (.iload 4, 2) := by decide +kernel
theorem dX6_canByThird_109 : decode cX6_canByThird 109 = .ok (.iconst 1, 1) := by decide +kernel
theorem dX6_canByThird_110 : decode cX6_canByThird 110 = .ok (.iload 6, 2) := by decide +kernel
theorem dX6_canByThird_112 : decode cX6_canByThird 112 = .ok (.ishl, 1) := by decide +kernel
theorem dX6_canByThird_113 : decode cX6_canByThird 113 = .ok (.ior, 1) := by decide +kernel
theorem dX6_canByThird_114 : decode cX6_canByThird 114 = .ok (.iadd, 1) := by decide +kernel
theorem dX6_canByThird_115 : decode cX6_canByThird 115 = .ok (.baload, 1) := by decide +kernel
theorem dX6_canByThird_116 : decode cX6_canByThird 116 = .ok (.istore 8, 2) := by decide +kernel
theorem dX6_canByThird_118 : decode cX6_canByThird 118 = .ok (.iload 5, 2) := by decide +kernel
theorem dX6_canByThird_120 : decode cX6_canByThird 120 = .ok (.ifCond .eq 67, 3) := by decide +kernel
theorem dX6_canByThird_123 : decode cX6_canByThird 123 = .ok (.aload_n 0, 1) := by decide +kernel
theorem dX6_canByThird_124 : decode cX6_canByThird 124 = .ok (.iload 4, 2) := by decide +kernel
theorem dX6_canByThird_126 : decode cX6_canByThird 126 = .ok (.iconst (-1), 1) := by decide +kernel
theorem dX6_canByThird_127 : decode cX6_canByThird 127 = .ok (.iconst (-1), 1) := by decide +kernel
theorem dX6_canByThird_128 : decode cX6_canByThird 128 = .ok (.invokevirtual 167, 3) := by decide +kernel
theorem dX6_canByThird_131 : decode cX6_canByThird 131 = .ok (.aload_n 0, 1) := by decide +kernel
theorem dX6_canByThird_132 : decode cX6_canByThird 132 = .ok (.getfield 54, 3) := by decide +kernel
theorem dX6_canByThird_135 : decode cX6_canByThird 135 = .ok (.iload 4, 2) := by decide +kernel
theorem dX6_canByThird_137 : decode cX6_canByThird 137 = .ok (.aload_n 0, 1) := by decide +kernel
theorem dX6_canByThird_138 : decode cX6_canByThird 138 = .ok (.getfield 54, 3) := by decide +kernel
theorem dX6_canByThird_141 : decode cX6_canByThird 141 = .ok (.iload 4, 2) := by decide +kernel
theorem dX6_canByThird_143 : decode cX6_canByThird 143 = .ok (.baload, 1) := by decide +kernel
theorem dX6_canByThird_144 : decode cX6_canByThird 144 = .ok (.ifCond .ne 34, 3) := by decide +kernel
theorem dX6_canByThird_147 : decode cX6_canByThird 147 = .ok (.iload 7, 2) := by decide +kernel
theorem dX6_canByThird_149 : decode cX6_canByThird 149 = .ok (.ifCond .eq 33, 3) := by decide +kernel
theorem dX6_canByThird_152 : decode cX6_canByThird 152 = .ok (.aload_n 0, 1) := by decide +kernel
theorem dX6_canByThird_153 : decode cX6_canByThird 153 = .ok (.aload_n 0, 1) := by decide +kernel
theorem dX6_canByThird_154 : decode cX6_canByThird 154 = .ok (.getfield 48, 3) := by decide +kernel
theorem dX6_canByThird_157 : decode cX6_canByThird 157 = .ok (.iload 6, 2) := by decide +kernel
theorem dX6_canByThird_159 : decode cX6_canByThird 159 = .ok (.iaload, 1) := by decide +kernel
theorem dX6_canByThird_160 : decode cX6_canByThird 160 = .ok (.aload_n 0, 1) := by decide +kernel
theorem dX6_canByThird_161 : decode cX6_canByThird 161 = .ok (.getfield 45, 3) := by decide +kernel
theorem dX6_canByThird_164 : decode cX6_canByThird 164 = .ok (.aload_n 0, 1) := by decide +kernel
theorem dX6_canByThird_165 : decode cX6_canByThird 165 = .ok (.getfield 48, 3) := by decide +kernel
theorem dX6_canByThird_168 : decode cX6_canByThird 168 = .ok (.iload 6, 2) := by decide +kernel
theorem dX6_canByThird_170 : decode cX6_canByThird 170 = .ok (.iaload, 1) := by decide +kernel
theorem dX6_canByThird_171 : decode cX6_canByThird 171 = .ok (.iaload, 1) := by decide +kernel
theorem dX6_canByThird_172 : decode cX6_canByThird 172 = .ok (.invokevirtual 171, 3) := by decide +kernel
theorem dX6_canByThird_175 : decode cX6_canByThird 175 = .ok (.ifCond .eq 7, 3) := by decide +kernel
theorem dX6_canByThird_178 : decode cX6_canByThird 178 = .ok (.iconst 1, 1) := by decide +kernel
theorem dX6_canByThird_179 : decode cX6_canByThird 179 = .ok (.goto 4, 3) := by decide +kernel
theorem dX6_canByThird_182 : decode cX6_canByThird 182 = .ok (.iconst 0, 1) := by decide +kernel
theorem dX6_canByThird_183 : decode cX6_canByThird 183 = .ok (.bastore, 1) := by decide +kernel
theorem dX6_canByThird_184 : decode cX6_canByThird 184 = .ok (.goto 95, 3) := by decide +kernel
theorem dX6_canByThird_187 : decode cX6_canByThird 187 = .ok (.aload_n 0, 1) := by decide +kernel
theorem dX6_canByThird_188 : decode cX6_canByThird 188 = .ok (.iload 4, 2) := by decide +kernel
theorem dX6_canByThird_190 : decode cX6_canByThird 190 = .ok (.aload_n 0, 1) := by decide +kernel
theorem dX6_canByThird_191 : decode cX6_canByThird 191 = .ok (.getfield 48, 3) := by decide +kernel
theorem dX6_canByThird_194 : decode cX6_canByThird 194 = .ok (.iload_n 1, 1) := by decide +kernel
theorem dX6_canByThird_195 : decode cX6_canByThird 195 = .ok (.iaload, 1) := by decide +kernel
theorem dX6_canByThird_196 : decode cX6_canByThird 196 = .ok (.iload_n 2, 1) := by decide +kernel
theorem dX6_canByThird_197 : decode cX6_canByThird 197 = .ok (.invokevirtual 167, 3) := by decide +kernel
theorem dX6_canByThird_200 : decode cX6_canByThird 200 = .ok (.aload_n 0, 1) := by decide +kernel
theorem dX6_canByThird_201 : decode cX6_canByThird 201 = .ok (.aload_n 0, 1) := by decide +kernel
theorem dX6_canByThird_202 : decode cX6_canByThird 202 = .ok (.getfield 48, 3) := by decide +kernel
theorem dX6_canByThird_205 : decode cX6_canByThird 205 = .ok (.iload 6, 2) := by decide +kernel
theorem dX6_canByThird_207 : decode cX6_canByThird 207 = .ok (.iaload, 1) := by decide +kernel
theorem dX6_canByThird_208 : decode cX6_canByThird 208 = .ok (.aload_n 0, 1) := by decide +kernel
theorem dX6_canByThird_209 : decode cX6_canByThird 209 = .ok (.getfield 45, 3) := by decide +kernel
theorem dX6_canByThird_212 : decode cX6_canByThird 212 = .ok (.aload_n 0, 1) := by decide +kernel
theorem dX6_canByThird_213 : decode cX6_canByThird 213 = .ok (.getfield 48, 3) := by decide +kernel
theorem dX6_canByThird_216 : decode cX6_canByThird 216 = .ok (.iload 6, 2) := by decide +kernel
theorem dX6_canByThird_218 : decode cX6_canByThird 218 = .ok (.iaload, 1) := by decide +kernel
theorem dX6_canByThird_219 : decode cX6_canByThird 219 = .ok (.iaload, 1) := by decide +kernel
theorem dX6_canByThird_220 : decode cX6_canByThird 220 = .ok (.invokevirtual 171, 3) := by decide +kernel
theorem dX6_canByThird_223 : decode cX6_canByThird 223 = .ok (.istore 9, 2) := by decide +kernel
theorem dX6_canByThird_225 : decode cX6_canByThird 225 = .ok (.aload_n 0, 1) := by decide +kernel
theorem dX6_canByThird_226 : decode cX6_canByThird 226 = .ok (.getfield 54, 3) := by decide +kernel
theorem dX6_canByThird_229 : decode cX6_canByThird 229 = .ok (.sipush 256, 3) := by decide +kernel
theorem dX6_canByThird_232 : decode cX6_canByThird 232 = .ok (.iload 4, 2) := by decide +kernel
theorem dX6_canByThird_234 : decode cX6_canByThird 234 = .ok (.iadd, 1) := by decide +kernel
theorem dX6_canByThird_235 : decode cX6_canByThird 235 = .ok (.aload_n 0, 1) := by decide +kernel
theorem dX6_canByThird_236 : decode cX6_canByThird 236 = .ok (.getfield 54, 3) := by decide +kernel
theorem dX6_canByThird_239 : decode cX6_canByThird 239 = .ok (.sipush 256, 3) := by decide +kernel
theorem dX6_canByThird_242 : decode cX6_canByThird 242 = .ok (.iload 4, 2) := by decide +kernel
theorem dX6_canByThird_244 : decode cX6_canByThird 244 = .ok (.iadd, 1) := by decide +kernel
theorem dX6_canByThird_245 : decode cX6_canByThird 245 = .ok (.baload, 1) := by decide +kernel
theorem dX6_canByThird_246 : decode cX6_canByThird 246 = .ok (.ifCond .ne 27, 3) := by decide +kernel
theorem dX6_canByThird_249 : decode cX6_canByThird 249 = .ok (.iload 9, 2) := by decide +kernel
theorem dX6_canByThird_251 : decode cX6_canByThird 251 = .ok (.ifCond .eq 26, 3) := by decide +kernel
theorem dX6_canByThird_254 : decode cX6_canByThird 254 = .ok (.iload 6, 2) := by decide +kernel
theorem dX6_canByThird_256 : decode cX6_canByThird 256 = .ok (.iload_n 1, 1) := by decide +kernel
theorem dX6_canByThird_257 : decode cX6_canByThird 257 = .ok (.if_icmp .ne 11, 3) := by decide +kernel
theorem dX6_canByThird_260 : decode cX6_canByThird 260 = .ok (.iload 7, 2) := by decide +kernel
theorem dX6_canByThird_262 : decode cX6_canByThird 262 = .ok (.ifCond .eq 15, 3) := by decide +kernel
theorem dX6_canByThird_265 : decode cX6_canByThird 265 = .ok (.goto 8, 3) := by decide +kernel
theorem dX6_canByThird_268 : decode cX6_canByThird 268 = .ok (.iload 8, 2) := by decide +kernel
theorem dX6_canByThird_270 : decode cX6_canByThird 270 = .ok (.ifCond .eq 7, 3) := by decide +kernel
theorem dX6_canByThird_273 : decode cX6_canByThird 273 = .ok (.iconst 1, 1) := by decide +kernel
theorem dX6_canByThird_274 : decode cX6_canByThird 274 = .ok (.goto 4, 3) := by decide +kernel
theorem dX6_canByThird_277 : decode cX6_canByThird 277 = .ok (.iconst 0, 1) := by decide +kernel
theorem dX6_canByThird_278 : decode cX6_canByThird 278 = .ok (.bastore, 1) := by decide +kernel
theorem dX6_canByThird_279 : decode cX6_canByThird 279 = .ok (.iinc 6 1, 3) := by decide +kernel
theorem dX6_canByThird_282 : decode cX6_canByThird 282 = .ok (.goto (-215), 3) := by decide +kernel
theorem dX6_canByThird_285 : decode cX6_canByThird 285 = .ok (.iconst 0, 1) := by decide +kernel
theorem dX6_canByThird_286 : decode cX6_canByThird 286 = .ok (.istore 6, 2) := by decide +kernel
theorem dX6_canByThird_288 : decode cX6_canByThird 288 = .ok (.iload 6, 2) := by decide +kernel
theorem dX6_canByThird_290 : decode cX6_canByThird 290 = .ok (.aload_n 0, 1) := by decide +kernel
theorem dX6_canByThird_291 : decode cX6_canByThird 291 = .ok (.getfield 164, 3) := by decide +kernel
theorem dX6_canByThird_294 : decode cX6_canByThird 294 = .ok (.if_icmp .ge 101, 3) := by decide +kernel
theorem dX6_canByThird_297 : decode cX6_canByThird 297 = .ok (.iload 5, 2) := by decide +kernel
theorem dX6_canByThird_299 : decode cX6_canByThird 299 = .ok (.ifCond .ne 96, 3) := by decide +kernel
theorem dX6_canByThird_302 : decode cX6_canByThird 302 = .ok (.iload 4, 2) := by decide +kernel
theorem dX6_canByThird_304 : decode cX6_canByThird 304 = .ok (.iload 6, 2) := by decide +kernel
theorem dX6_canByThird_306 : decode cX6_canByThird 306 = .ok (.ishr, 1) := by decide +kernel
theorem dX6_canByThird_307 : decode cX6_canByThird 307 = .ok (.iconst 1, 1) := by decide +kernel
theorem dX6_canByThird_308 : decode cX6_canByThird 308 = .ok (.iand, 1) := by decide +kernel
theorem dX6_canByThird_309 : decode cX6_canByThird 309 = .ok (.ifCond .ne 80, 3) := by decide +kernel
theorem dX6_canByThird_312 : decode cX6_canByThird 312 = .ok (.iload 6, 2) := by decide +kernel
theorem dX6_canByThird_314 : decode cX6_canByThird 314 = .ok (.iload_n 1, 1) := by decide +kernel
theorem dX6_canByThird_315 : decode cX6_canByThird 315 = .ok (.if_icmp .eq 74, 3) := by decide +kernel
theorem dX6_canByThird_318 : decode cX6_canByThird 318 = .ok (.aload_n 0, 1) := by decide +kernel
theorem dX6_canByThird_319 : decode cX6_canByThird 319 = .ok (.iload 4, 2) := by decide +kernel
theorem dX6_canByThird_321 : decode cX6_canByThird 321 = .ok (.iconst (-1), 1) := by decide +kernel
theorem dX6_canByThird_322 : decode cX6_canByThird 322 = .ok (.iconst (-1), 1) := by decide +kernel
theorem dX6_canByThird_323 : decode cX6_canByThird 323 = .ok (.invokevirtual 167, 3) := by decide +kernel
theorem dX6_canByThird_326 : decode cX6_canByThird 326 = .ok (.aload_n 0, 1) := by decide +kernel
theorem dX6_canByThird_327 : decode cX6_canByThird 327 = .ok (.getfield 54, 3) := by decide +kernel
theorem dX6_canByThird_330 : decode cX6_canByThird 330 = .ok (.iload 4, 2) := by decide +kernel
theorem dX6_canByThird_332 : decode cX6_canByThird 332 = .ok (.aload_n 0, 1) := by decide +kernel
theorem dX6_canByThird_333 : decode cX6_canByThird 333 = .ok (.getfield 54, 3) := by decide +kernel
theorem dX6_canByThird_336 : decode cX6_canByThird 336 = .ok (.iload 4, 2) := by decide +kernel
theorem dX6_canByThird_338 : decode cX6_canByThird 338 = .ok (.baload, 1) := by decide +kernel
theorem dX6_canByThird_339 : decode cX6_canByThird 339 = .ok (.ifCond .ne 44, 3) := by decide +kernel
theorem dX6_canByThird_342 : decode cX6_canByThird 342 = .ok (.aload_n 0, 1) := by decide +kernel
theorem dX6_canByThird_343 : decode cX6_canByThird 343 = .ok (.getfield 54, 3) := by decide +kernel
theorem dX6_canByThird_346 : decode cX6_canByThird 346 = .ok (.iload 4, 2) := by decide +kernel
theorem dX6_canByThird_348 : decode cX6_canByThird 348 = .ok (.iconst 1, 1) := by decide +kernel
theorem dX6_canByThird_349 : decode cX6_canByThird 349 = .ok (.iload 6, 2) := by decide +kernel
theorem dX6_canByThird_351 : decode cX6_canByThird 351 = .ok (.ishl, 1) := by decide +kernel
theorem dX6_canByThird_352 : decode cX6_canByThird 352 = .ok (.ior, 1) := by decide +kernel
theorem dX6_canByThird_353 : decode cX6_canByThird 353 = .ok (.baload, 1) := by decide +kernel
theorem dX6_canByThird_354 : decode cX6_canByThird 354 = .ok (.ifCond .eq 33, 3) := by decide +kernel
theorem dX6_canByThird_357 : decode cX6_canByThird 357 = .ok (.aload_n 0, 1) := by decide +kernel
theorem dX6_canByThird_358 : decode cX6_canByThird 358 = .ok (.aload_n 0, 1) := by decide +kernel
theorem dX6_canByThird_359 : decode cX6_canByThird 359 = .ok (.getfield 48, 3) := by decide +kernel
theorem dX6_canByThird_362 : decode cX6_canByThird 362 = .ok (.iload 6, 2) := by decide +kernel
theorem dX6_canByThird_364 : decode cX6_canByThird 364 = .ok (.iaload, 1) := by decide +kernel
theorem dX6_canByThird_365 : decode cX6_canByThird 365 = .ok (.aload_n 0, 1) := by decide +kernel
theorem dX6_canByThird_366 : decode cX6_canByThird 366 = .ok (.getfield 45, 3) := by decide +kernel
theorem dX6_canByThird_369 : decode cX6_canByThird 369 = .ok (.aload_n 0, 1) := by decide +kernel
theorem dX6_canByThird_370 : decode cX6_canByThird 370 = .ok (.getfield 48, 3) := by decide +kernel
theorem dX6_canByThird_373 : decode cX6_canByThird 373 = .ok (.iload 6, 2) := by decide +kernel
theorem dX6_canByThird_375 : decode cX6_canByThird 375 = .ok (.iaload, 1) := by decide +kernel
theorem dX6_canByThird_376 : decode cX6_canByThird 376 = .ok (.iaload, 1) := by decide +kernel
theorem dX6_canByThird_377 : decode cX6_canByThird 377 = .ok (.invokevirtual 171, 3) := by decide +kernel
theorem dX6_canByThird_380 : decode cX6_canByThird 380 = .ok (.ifCond .eq 7, 3) := by decide +kernel
theorem dX6_canByThird_383 : decode cX6_canByThird 383 = .ok (.iconst 1, 1) := by decide +kernel
theorem dX6_canByThird_384 : decode cX6_canByThird 384 = .ok (.goto 4, 3) := by decide +kernel
theorem dX6_canByThird_387 : decode cX6_canByThird 387 = .ok (.iconst 0, 1) := by decide +kernel
theorem dX6_canByThird_388 : decode cX6_canByThird 388 = .ok (.bastore, 1) := by decide +kernel
theorem dX6_canByThird_389 : decode cX6_canByThird 389 = .ok (.iinc 6 1, 3) := by decide +kernel
theorem dX6_canByThird_392 : decode cX6_canByThird 392 = .ok (.goto (-104), 3) := by decide +kernel
theorem dX6_canByThird_395 : decode cX6_canByThird 395 = .ok (.iload 5, 2) := by decide +kernel
theorem dX6_canByThird_397 : decode cX6_canByThird 397 = .ok (.ifCond .ne 61, 3) := by decide +kernel
theorem dX6_canByThird_400 : decode cX6_canByThird 400 = .ok (.aload_n 0, 1) := by decide +kernel
theorem dX6_canByThird_401 : decode cX6_canByThird 401 = .ok (.iload 4, 2) := by decide +kernel
theorem dX6_canByThird_403 : decode cX6_canByThird 403 = .ok (.iconst (-1), 1) := by decide +kernel
theorem dX6_canByThird_404 : decode cX6_canByThird 404 = .ok (.iconst (-1), 1) := by decide +kernel
theorem dX6_canByThird_405 : decode cX6_canByThird 405 = .ok (.invokevirtual 167, 3) := by decide +kernel
theorem dX6_canByThird_408 : decode cX6_canByThird 408 = .ok (.aload_n 0, 1) := by decide +kernel
theorem dX6_canByThird_409 : decode cX6_canByThird 409 = .ok (.getfield 54, 3) := by decide +kernel
theorem dX6_canByThird_412 : decode cX6_canByThird 412 = .ok (.iload 4, 2) := by decide +kernel
theorem dX6_canByThird_414 : decode cX6_canByThird 414 = .ok (.aload_n 0, 1) := by decide +kernel
theorem dX6_canByThird_415 : decode cX6_canByThird 415 = .ok (.getfield 54, 3) := by decide +kernel
theorem dX6_canByThird_418 : decode cX6_canByThird 418 = .ok (.iload 4, 2) := by decide +kernel
theorem dX6_canByThird_420 : decode cX6_canByThird 420 = .ok (.baload, 1) := by decide +kernel
theorem dX6_canByThird_421 : decode cX6_canByThird 421 = .ok (.ifCond .ne 31, 3) := by decide +kernel
theorem dX6_canByThird_424 : decode cX6_canByThird 424 = .ok (.aload_n 0, 1) := by decide +kernel
theorem dX6_canByThird_425 : decode cX6_canByThird 425 = .ok (.getfield 54, 3) := by decide +kernel
theorem dX6_canByThird_428 : decode cX6_canByThird 428 = .ok (.sipush 256, 3) := by decide +kernel
theorem dX6_canByThird_431 : decode cX6_canByThird 431 = .ok (.iload 4, 2) := by decide +kernel
theorem dX6_canByThird_433 : decode cX6_canByThird 433 = .ok (.iadd, 1) := by decide +kernel
theorem dX6_canByThird_434 : decode cX6_canByThird 434 = .ok (.baload, 1) := by decide +kernel
theorem dX6_canByThird_435 : decode cX6_canByThird 435 = .ok (.ifCond .eq 21, 3) := by decide +kernel
theorem dX6_canByThird_438 : decode cX6_canByThird 438 = .ok (.aload_n 0, 1) := by decide +kernel
theorem dX6_canByThird_439 : decode cX6_canByThird 439 = .ok (.aload_n 0, 1) := by decide +kernel
theorem dX6_canByThird_440 : decode cX6_canByThird 440 = .ok (.getfield 48, 3) := by decide +kernel
theorem dX6_canByThird_443 : decode cX6_canByThird 443 = .ok (.iload_n 1, 1) := by decide +kernel
theorem dX6_canByThird_444 : decode cX6_canByThird 444 = .ok (.iaload, 1) := by decide +kernel
theorem dX6_canByThird_445 : decode cX6_canByThird 445 = .ok (.iload_n 2, 1) := by decide +kernel
theorem dX6_canByThird_446 : decode cX6_canByThird 446 = .ok (.invokevirtual 171, 3) := by decide +kernel
theorem dX6_canByThird_449 : decode cX6_canByThird 449 = .ok (.ifCond .eq 7, 3) := by decide +kernel
theorem dX6_canByThird_452 : decode cX6_canByThird 452 = .ok (.iconst 1, 1) := by decide +kernel
theorem dX6_canByThird_453 : decode cX6_canByThird 453 = .ok (.goto 4, 3) := by decide +kernel
theorem dX6_canByThird_456 : decode cX6_canByThird 456 = .ok (.iconst 0, 1) := by decide +kernel
theorem dX6_canByThird_457 : decode cX6_canByThird 457 = .ok (.bastore, 1) := by decide +kernel
theorem dX6_canByThird_458 : decode cX6_canByThird 458 = .ok (.iinc 4 (-1), 3) := by decide +kernel
theorem dX6_canByThird_461 : decode cX6_canByThird 461 = .ok (.goto (-449), 3) := by decide +kernel
theorem dX6_canByThird_464 : decode cX6_canByThird 464 = .ok (.aload_n 0, 1) := by decide +kernel
theorem dX6_canByThird_465 : decode cX6_canByThird 465 = .ok (.getfield 54, 3) := by decide +kernel
theorem dX6_canByThird_468 : decode cX6_canByThird 468 = .ok (.iconst 0, 1) := by decide +kernel
theorem dX6_canByThird_469 : decode cX6_canByThird 469 = .ok (.baload, 1) := by decide +kernel
theorem dX6_canByThird_470 : decode cX6_canByThird 470 = .ok (.ireturn, 1) := by decide +kernel
theorem dX6_third_0 : decode cX6_third 0 = .ok (.aload_n 0, 1) := by decide +kernel
theorem dX6_third_1 : decode cX6_third 1 = .ok (.getfield 88, 3) := by decide +kernel
theorem dX6_third_4 : decode cX6_third 4 = .ok (.ifCond .eq 11, 3) := by decide +kernel
theorem dX6_third_7 : decode cX6_third 7 = .ok (.aload_n 0, 1) := by decide +kernel
theorem dX6_third_8 : decode cX6_third 8 = .ok (.invokevirtual 183, 3) := by decide +kernel
theorem dX6_third_11 : decode cX6_third 11 = .ok (.iconst 1, 1) := by decide +kernel
theorem dX6_third_12 : decode cX6_third 12 = .ok (.if_icmp .ne 6, 3) := by decide +kernel
theorem dX6_third_15 : decode cX6_third 15 = .ok (.bipush (-3), 2) := by decide +kernel
theorem dX6_third_17 : decode cX6_third 17 = .ok (.ireturn, 1) := by decide +kernel
theorem dX6_third_18 : decode cX6_third 18 = .ok (.iconst 0, 1) := by decide +kernel
theorem dX6_third_19 : decode cX6_third 19 = .ok (.istore_n 1, 1) := by decide +kernel
theorem dX6_third_20 : decode cX6_third 20 = .ok (.iload_n 1, 1) := by decide +kernel
theorem dX6_third_21 : decode cX6_third 21 = .ok (.aload_n 0, 1) := by decide +kernel
theorem dX6_third_22 : decode cX6_third 22 = .ok (.getfield 164, 3) := by decide +kernel
theorem dX6_third_25 : decode cX6_third 25 = .ok (.if_icmp .ge 76, 3) := by decide +kernel
theorem dX6_third_28 : decode cX6_third 28 = .ok (.iconst 0, 1) := by decide +kernel
theorem dX6_third_29 : decode cX6_third 29 = .ok (.istore_n 2, 1) := by decide +kernel
theorem dX6_third_30 : decode cX6_third 30 = .ok (.iload_n 2, 1) := by decide +kernel
theorem dX6_third_31 : decode cX6_third 31 = .ok (.aload_n 0, 1) := by decide +kernel
theorem dX6_third_32 : decode cX6_third 32 = .ok (.getfield 64, 3) := by decide +kernel
theorem dX6_third_35 : decode cX6_third 35 = .ok (.if_icmp .ge 60, 3) := by decide +kernel
theorem dX6_third_38 : decode cX6_third 38 = .ok (.iload_n 2, 1) := by decide +kernel
theorem dX6_third_39 : decode cX6_third 39 = .ok (.aload_n 0, 1) := by decide +kernel
theorem dX6_third_40 : decode cX6_third 40 = .ok (.getfield 28, 3) := by decide +kernel
theorem dX6_third_43 : decode cX6_third 43 = .ok (.aload_n 0, 1) := by decide +kernel
theorem dX6_third_44 : decode cX6_third 44 = .ok (.getfield 48, 3) := by decide +kernel
theorem dX6_third_47 : decode cX6_third 47 = .ok (.iload_n 1, 1) := by decide +kernel
theorem dX6_third_48 : decode cX6_third 48 = .ok (.iaload, 1) := by decide +kernel
theorem dX6_third_49 : decode cX6_third 49 = .ok (.iaload, 1) := by decide +kernel
theorem dX6_third_50 : decode cX6_third 50 = .ok (.if_icmp .eq 39, 3) := by decide +kernel
theorem dX6_third_53 : decode cX6_third 53 = .ok (.iload_n 2, 1) := by decide +kernel
theorem dX6_third_54 : decode cX6_third 54 = .ok (.aload_n 0, 1) := by decide +kernel
theorem dX6_third_55 : decode cX6_third 55 = .ok (.getfield 45, 3) := by decide +kernel
theorem dX6_third_58 : decode cX6_third 58 = .ok (.aload_n 0, 1) := by decide +kernel
theorem dX6_third_59 : decode cX6_third 59 = .ok (.getfield 48, 3) := by decide +kernel
theorem dX6_third_62 : decode cX6_third 62 = .ok (.iload_n 1, 1) := by decide +kernel
theorem dX6_third_63 : decode cX6_third 63 = .ok (.iaload, 1) := by decide +kernel
theorem dX6_third_64 : decode cX6_third 64 = .ok (.iaload, 1) := by decide +kernel
theorem dX6_third_65 : decode cX6_third 65 = .ok (.if_icmp .eq 24, 3) := by decide +kernel
theorem dX6_third_68 : decode cX6_third 68 = .ok (.aload_n 0, 1) := by decide +kernel
theorem dX6_third_69 : decode cX6_third 69 = .ok (.iload_n 1, 1) := by decide +kernel
theorem dX6_third_70 : decode cX6_third 70 = .ok (.iload_n 2, 1) := by decide +kernel
theorem dX6_third_71 : decode cX6_third 71 = .ok (.invokevirtual 186, 3) := by decide +kernel
theorem dX6_third_74 : decode cX6_third 74 = .ok (.ifCond .eq 15, 3) := by decide +kernel
theorem dX6_third_77 : decode cX6_third 77 = .ok (.bipush 8, 2) := by decide +kernel
theorem dX6_third_79 : decode cX6_third 79 = .ok (.aload_n 0, 1) := by decide +kernel
theorem dX6_third_80 : decode cX6_third 80 = .ok (.getfield 48, 3) := by decide +kernel
theorem dX6_third_83 : decode cX6_third 83 = .ok (.iload_n 1, 1) := by decide +kernel
theorem dX6_third_84 : decode cX6_third 84 = .ok (.iaload, 1) := by decide +kernel
theorem dX6_third_85 : decode cX6_third 85 = .ok (.imul, 1) := by decide +kernel
theorem dX6_third_86 : decode cX6_third 86 = .ok (.iload_n 2, 1) := by decide +kernel
theorem dX6_third_87 : decode cX6_third 87 = .ok (.iadd, 1) := by decide +kernel
theorem dX6_third_88 : decode cX6_third 88 = .ok (.ireturn, 1) := by decide +kernel
theorem dX6_third_89 : decode cX6_third 89 = .ok (.iinc 2 1, 3) := by decide +kernel
theorem dX6_third_92 : decode cX6_third 92 = .ok (.goto (-62), 3) := by decide +kernel
theorem dX6_third_95 : decode cX6_third 95 = .ok (.iinc 1 1, 3) := by decide +kernel
theorem dX6_third_98 : decode cX6_third 98 = .ok (.goto (-78), 3) := by decide +kernel
theorem dX6_third_101 : decode cX6_third 101 = .ok (.iconst (-1), 1) := by decide +kernel
theorem dX6_third_102 : decode cX6_third 102 = .ok (.ireturn, 1) := by decide +kernel
theorem dX6_byStop_0 : decode cX6_byStop 0 = .ok (.aload_n 0, 1) := by decide +kernel
theorem dX6_byStop_1 : decode cX6_byStop 1 = .ok (.getfield 88, 3) := by decide +kernel
theorem dX6_byStop_4 : decode cX6_byStop 4 = .ok (.ifCond .eq 11, 3) := by decide +kernel
theorem dX6_byStop_7 : decode cX6_byStop 7 = .ok (.aload_n 0, 1) := by decide +kernel
theorem dX6_byStop_8 : decode cX6_byStop 8 = .ok (.invokevirtual 183, 3) := by decide +kernel
theorem dX6_byStop_11 : decode cX6_byStop 11 = .ok (.iconst 1, 1) := by decide +kernel
theorem dX6_byStop_12 : decode cX6_byStop 12 = .ok (.if_icmp .ne 6, 3) := by decide +kernel
theorem dX6_byStop_15 : decode cX6_byStop 15 = .ok (.bipush (-3), 2) := by decide +kernel
theorem dX6_byStop_17 : decode cX6_byStop 17 = .ok (.ireturn, 1) := by decide +kernel
theorem dX6_byStop_18 : decode cX6_byStop 18 = .ok (.iconst (-1), 1) := by decide +kernel
theorem dX6_byStop_19 : decode cX6_byStop 19 = .ok (.istore_n 1, 1) := by decide +kernel
theorem dX6_byStop_20 : decode cX6_byStop 20 = .ok (.iconst 0, 1) := by decide +kernel
theorem dX6_byStop_21 : decode cX6_byStop 21 = .ok (.istore_n 2, 1) := by decide +kernel
theorem dX6_byStop_22 : decode cX6_byStop 22 = .ok (.iload_n 2, 1) := by decide +kernel
theorem dX6_byStop_23 : decode cX6_byStop 23 = .ok (.aload_n 0, 1) := by decide +kernel
theorem dX6_byStop_24 : decode cX6_byStop 24 = .ok (.getfield 164, 3) := by decide +kernel
theorem dX6_byStop_27 : decode cX6_byStop 27 = .ok (.if_icmp .ge 47, 3) := by decide +kernel
theorem dX6_byStop_30 : decode cX6_byStop 30 = .ok (.iload_n 1, 1) := by decide +kernel
theorem dX6_byStop_31 : decode cX6_byStop 31 = .ok (.iconst (-1), 1) := by decide +kernel
theorem dX6_byStop_32 : decode cX6_byStop 32 = .ok (.if_icmp .eq 21, 3) := by decide +kernel
theorem dX6_byStop_35 : decode cX6_byStop 35 = .ok (.aload_n 0, 1) := by decide +kernel
theorem dX6_byStop_36 : decode cX6_byStop 36 = .ok (.aload_n 0, 1) := by decide +kernel
theorem dX6_byStop_37 : decode cX6_byStop 37 = .ok (.getfield 48, 3) := by decide +kernel
theorem dX6_byStop_40 : decode cX6_byStop 40 = .ok (.iload_n 2, 1) := by decide +kernel
theorem dX6_byStop_41 : decode cX6_byStop 41 = .ok (.iaload, 1) := by decide +kernel
theorem dX6_byStop_42 : decode cX6_byStop 42 = .ok (.invokevirtual 161, 3) := by decide +kernel
theorem dX6_byStop_45 : decode cX6_byStop 45 = .ok (.aload_n 0, 1) := by decide +kernel
theorem dX6_byStop_46 : decode cX6_byStop 46 = .ok (.iload_n 1, 1) := by decide +kernel
theorem dX6_byStop_47 : decode cX6_byStop 47 = .ok (.invokevirtual 161, 3) := by decide +kernel
theorem dX6_byStop_50 : decode cX6_byStop 50 = .ok (.if_icmp .ge 18, 3) := by decide +kernel
theorem dX6_byStop_53 : decode cX6_byStop 53 = .ok (.aload_n 0, 1) := by decide +kernel
theorem dX6_byStop_54 : decode cX6_byStop 54 = .ok (.iload_n 2, 1) := by decide +kernel
theorem dX6_byStop_55 : decode cX6_byStop 55 = .ok (.invokevirtual 177, 3) := by decide +kernel
theorem dX6_byStop_58 : decode cX6_byStop 58 = .ok (.ifCond .eq 10, 3) := by decide +kernel
theorem dX6_byStop_61 : decode cX6_byStop 61 = .ok (.aload_n 0, 1) := by decide +kernel
theorem dX6_byStop_62 : decode cX6_byStop 62 = .ok (.getfield 48, 3) := by decide +kernel
theorem dX6_byStop_65 : decode cX6_byStop 65 = .ok (.iload_n 2, 1) := by decide +kernel
theorem dX6_byStop_66 : decode cX6_byStop 66 = .ok (.iaload, 1) := by decide +kernel
theorem dX6_byStop_67 : decode cX6_byStop 67 = .ok (.istore_n 1, 1) := by decide +kernel
theorem dX6_byStop_68 : decode cX6_byStop 68 = .ok (.iinc 2 1, 3) := by decide +kernel
theorem dX6_byStop_71 : decode cX6_byStop 71 = .ok (.goto (-49), 3) := by decide +kernel
theorem dX6_byStop_74 : decode cX6_byStop 74 = .ok (.iload_n 1, 1) := by decide +kernel
theorem dX6_byStop_75 : decode cX6_byStop 75 = .ok (.ireturn, 1) := by decide +kernel
theorem dX6_carry_0 : decode cX6_carry 0 = .ok (.aload_n 0, 1) := by decide +kernel
theorem dX6_carry_1 : decode cX6_carry 1 = .ok (.dup, 1) := by decide +kernel
theorem dX6_carry_2 : decode cX6_carry 2 = .ok (.getfield 189, 3) := by decide +kernel
theorem dX6_carry_5 : decode cX6_carry 5 = .ok (.aload_n 0, 1) := by decide +kernel
theorem dX6_carry_6 : decode cX6_carry 6 = .ok (.iload_n 1, 1) := by decide +kernel
theorem dX6_carry_7 : decode cX6_carry 7 = .ok (.invokevirtual 161, 3) := by decide +kernel
theorem dX6_carry_10 : decode cX6_carry 10 = .ok (.iadd, 1) := by decide +kernel
theorem dX6_carry_11 : decode cX6_carry 11 = .ok (.putfield 189, 3) := by decide +kernel
theorem dX6_carry_14 : decode cX6_carry 14 = .ok (.iconst 0, 1) := by decide +kernel
theorem dX6_carry_15 : decode cX6_carry 15 = .ok (.istore_n 3, 1) := by decide +kernel
theorem dX6_carry_16 : decode cX6_carry 16 = .ok (.iload_n 3, 1) := by decide +kernel
theorem dX6_carry_17 : decode cX6_carry 17 = .ok (.aload_n 0, 1) := by decide +kernel
theorem dX6_carry_18 : decode cX6_carry 18 = .ok (.getfield 67, 3) := by decide +kernel
theorem dX6_carry_21 : decode cX6_carry 21 = .ok (.if_icmp .ge 34, 3) := by decide +kernel
theorem dX6_carry_24 : decode cX6_carry 24 = .ok (.aload_n 0, 1) := by decide +kernel
theorem dX6_carry_25 : decode cX6_carry 25 = .ok (.getfield 51, 3) := by decide +kernel
theorem dX6_carry_28 : decode cX6_carry 28 = .ok (.iload_n 3, 1) := by decide +kernel
theorem dX6_carry_29 : decode cX6_carry 29 = .ok (.aload_n 0, 1) := by decide +kernel
theorem dX6_carry_30 : decode cX6_carry 30 = .ok (.iload_n 3, 1) := by decide +kernel
theorem dX6_carry_31 : decode cX6_carry 31 = .ok (.iload_n 1, 1) := by decide +kernel
theorem dX6_carry_32 : decode cX6_carry 32 = .ok (.invokevirtual 102, 3) := by decide +kernel
theorem dX6_carry_35 : decode cX6_carry 35 = .ok (.ifCond .eq 7, 3) := by decide +kernel
theorem dX6_carry_38 : decode cX6_carry 38 = .ok (.iload_n 2, 1) := by decide +kernel
theorem dX6_carry_39 : decode cX6_carry 39 = .ok (.goto 9, 3) := by decide +kernel
theorem dX6_carry_42 : decode cX6_carry 42 = .ok (.aload_n 0, 1) := by decide +kernel
theorem dX6_carry_43 : decode cX6_carry 43 = .ok (.getfield 28, 3) := by decide +kernel
theorem dX6_carry_46 : decode cX6_carry 46 = .ok (.iload_n 3, 1) := by decide +kernel
theorem dX6_carry_47 : decode cX6_carry 47 = .ok (.iaload, 1) := by decide +kernel
theorem dX6_carry_48 : decode cX6_carry 48 = .ok (.iastore, 1) := by decide +kernel
theorem dX6_carry_49 : decode cX6_carry 49 = .ok (.iinc 3 1, 3) := by decide +kernel
theorem dX6_carry_52 : decode cX6_carry 52 = .ok (.goto (-36), 3) := by decide +kernel
theorem dX6_carry_55 : decode cX6_carry 55 = .ok (.iconst 0, 1) := by decide +kernel
theorem dX6_carry_56 : decode cX6_carry 56 = .ok (.istore_n 3, 1) := by decide +kernel
theorem dX6_carry_57 : decode cX6_carry 57 = .ok (.iload_n 3, 1) := by decide +kernel
theorem dX6_carry_58 : decode cX6_carry 58 = .ok (.aload_n 0, 1) := by decide +kernel
theorem dX6_carry_59 : decode cX6_carry 59 = .ok (.getfield 67, 3) := by decide +kernel
theorem dX6_carry_62 : decode cX6_carry 62 = .ok (.if_icmp .ge 21, 3) := by decide +kernel
theorem dX6_carry_65 : decode cX6_carry 65 = .ok (.aload_n 0, 1) := by decide +kernel
theorem dX6_carry_66 : decode cX6_carry 66 = .ok (.getfield 28, 3) := by decide +kernel
theorem dX6_carry_69 : decode cX6_carry 69 = .ok (.iload_n 3, 1) := by decide +kernel
theorem dX6_carry_70 : decode cX6_carry 70 = .ok (.aload_n 0, 1) := by decide +kernel
theorem dX6_carry_71 : decode cX6_carry 71 = .ok (.getfield 51, 3) := by decide +kernel
theorem dX6_carry_74 : decode cX6_carry 74 = .ok (.iload_n 3, 1) := by decide +kernel
theorem dX6_carry_75 : decode cX6_carry 75 = .ok (.iaload, 1) := by decide +kernel
theorem dX6_carry_76 : decode cX6_carry 76 = .ok (.iastore, 1) := by decide +kernel
theorem dX6_carry_77 : decode cX6_carry 77 = .ok (.iinc 3 1, 3) := by decide +kernel
theorem dX6_carry_80 : decode cX6_carry 80 = .ok (.goto (-23), 3) := by decide +kernel
theorem dX6_carry_83 : decode cX6_carry 83 = .ok (.return_, 1) := by decide +kernel
theorem dX6_step_0 : decode cX6_step 0 = .ok (.aload_n 0, 1) := by decide +kernel
theorem dX6_step_1 : decode cX6_step 1 = .ok (.getfield 88, 3) := by decide +kernel
theorem dX6_step_4 : decode cX6_step 4 = .ok (.ifCond .eq 17, 3) := by decide +kernel
theorem dX6_step_7 : decode cX6_step 7 = .ok (.aload_n 0, 1) := by decide +kernel
theorem dX6_step_8 : decode cX6_step 8 = .ok (.invokevirtual 183, 3) := by decide +kernel
theorem dX6_step_11 : decode cX6_step 11 = .ok (.ifCond .eq 10, 3) := by decide +kernel
theorem dX6_step_14 : decode cX6_step 14 = .ok (.aload_n 0, 1) := by decide +kernel
theorem dX6_step_15 : decode cX6_step 15 = .ok (.getfield 164, 3) := by decide +kernel
theorem dX6_step_18 : decode cX6_step 18 = .ok (.ifCond .ne 6, 3) := by decide +kernel
theorem dX6_step_21 : decode cX6_step 21 = .ok (.bipush (-3), 2) := by decide +kernel
theorem dX6_step_23 : decode cX6_step 23 = .ok (.ireturn, 1) := by decide +kernel
theorem dX6_step_24 : decode cX6_step 24 = .ok (.aload_n 0, 1) := by decide +kernel
theorem dX6_step_25 : decode cX6_step 25 = .ok (.iconst 0, 1) := by decide +kernel
theorem dX6_step_26 : decode cX6_step 26 = .ok (.invokevirtual 180, 3) := by decide +kernel
theorem dX6_step_29 : decode cX6_step 29 = .ok (.istore_n 2, 1) := by decide +kernel
theorem dX6_step_30 : decode cX6_step 30 = .ok (.iload_n 1, 1) := by decide +kernel
theorem dX6_step_31 : decode cX6_step 31 = .ok (.ifCond .ne 24, 3) := by decide +kernel
theorem dX6_step_34 : decode cX6_step 34 = .ok (.aload_n 0, 1) := by decide +kernel
theorem dX6_step_35 : decode cX6_step 35 = .ok (.aload_n 0, 1) := by decide +kernel
theorem dX6_step_36 : decode cX6_step 36 = .ok (.getfield 48, 3) := by decide +kernel
theorem dX6_step_39 : decode cX6_step 39 = .ok (.iload_n 2, 1) := by decide +kernel
theorem dX6_step_40 : decode cX6_step 40 = .ok (.iaload, 1) := by decide +kernel
theorem dX6_step_41 : decode cX6_step 41 = .ok (.aload_n 0, 1) := by decide +kernel
theorem dX6_step_42 : decode cX6_step 42 = .ok (.getfield 45, 3) := by decide +kernel
theorem dX6_step_45 : decode cX6_step 45 = .ok (.aload_n 0, 1) := by decide +kernel
theorem dX6_step_46 : decode cX6_step 46 = .ok (.getfield 48, 3) := by decide +kernel
theorem dX6_step_49 : decode cX6_step 49 = .ok (.iload_n 2, 1) := by decide +kernel
theorem dX6_step_50 : decode cX6_step 50 = .ok (.iaload, 1) := by decide +kernel
theorem dX6_step_51 : decode cX6_step 51 = .ok (.iaload, 1) := by decide +kernel
theorem dX6_step_52 : decode cX6_step 52 = .ok (.invokevirtual 192, 3) := by decide +kernel
theorem dX6_step_55 : decode cX6_step 55 = .ok (.aload_n 0, 1) := by decide +kernel
theorem dX6_step_56 : decode cX6_step 56 = .ok (.getfield 48, 3) := by decide +kernel
theorem dX6_step_59 : decode cX6_step 59 = .ok (.iload_n 2, 1) := by decide +kernel
theorem dX6_step_60 : decode cX6_step 60 = .ok (.iaload, 1) := by decide +kernel
theorem dX6_step_61 : decode cX6_step 61 = .ok (.ireturn, 1) := by decide +kernel
theorem dX6_move_0 : decode cX6_move 0 = .ok (.aload_n 0, 1) := by decide +kernel
theorem dX6_move_1 : decode cX6_move 1 = .ok (.iload_n 1, 1) := by decide +kernel
theorem dX6_move_2 : decode cX6_move 2 = .ok (.invokevirtual 129, 3) := by decide +kernel
theorem dX6_move_5 : decode cX6_move 5 = .ok (.ifCond .eq 11, 3) := by decide +kernel
theorem dX6_move_8 : decode cX6_move 8 = .ok (.aload_n 0, 1) := by decide +kernel
theorem dX6_move_9 : decode cX6_move 9 = .ok (.iload_n 2, 1) := by decide +kernel
theorem dX6_move_10 : decode cX6_move 10 = .ok (.invokevirtual 73, 3) := by decide +kernel
theorem dX6_move_13 : decode cX6_move 13 = .ok (.ifCond .ne 6, 3) := by decide +kernel
theorem dX6_move_16 : decode cX6_move 16 = .ok (.bipush (-2), 2) := by decide +kernel
theorem dX6_move_18 : decode cX6_move 18 = .ok (.ireturn, 1) := by decide +kernel
theorem dX6_move_19 : decode cX6_move 19 = .ok (.aload_n 0, 1) := by decide +kernel
theorem dX6_move_20 : decode cX6_move 20 = .ok (.iconst 0, 1) := by decide +kernel
theorem dX6_move_21 : decode cX6_move 21 = .ok (.putfield 164, 3) := by decide +kernel
theorem dX6_move_24 : decode cX6_move 24 = .ok (.aload_n 0, 1) := by decide +kernel
theorem dX6_move_25 : decode cX6_move 25 = .ok (.iconst 0, 1) := by decide +kernel
theorem dX6_move_26 : decode cX6_move 26 = .ok (.iconst (-1), 1) := by decide +kernel
theorem dX6_move_27 : decode cX6_move 27 = .ok (.iconst (-1), 1) := by decide +kernel
theorem dX6_move_28 : decode cX6_move 28 = .ok (.invokevirtual 167, 3) := by decide +kernel
theorem dX6_move_31 : decode cX6_move 31 = .ok (.aload_n 0, 1) := by decide +kernel
theorem dX6_move_32 : decode cX6_move 32 = .ok (.getfield 22, 3) := by decide +kernel
theorem dX6_move_35 : decode cX6_move 35 = .ok (.iload_n 1, 1) := by decide +kernel
theorem dX6_move_36 : decode cX6_move 36 = .ok (.iaload, 1) := by decide +kernel
theorem dX6_move_37 : decode cX6_move 37 = .ok (.iconst 3, 1) := by decide +kernel
theorem dX6_move_38 : decode cX6_move 38 = .ok (.if_icmp .eq 22, 3) := by decide +kernel
theorem dX6_move_41 : decode cX6_move 41 = .ok (.aload_n 0, 1) := by decide +kernel
theorem dX6_move_42 : decode cX6_move 42 = .ok (.getfield 28, 3) := by decide +kernel
theorem dX6_move_45 : decode cX6_move 45 = .ok (.iload_n 1, 1) := by decide +kernel
theorem dX6_move_46 : decode cX6_move 46 = .ok (.iaload, 1) := by decide +kernel
theorem dX6_move_47 : decode cX6_move 47 = .ok (.iload_n 2, 1) := by decide +kernel
theorem dX6_move_48 : decode cX6_move 48 = .ok (.if_icmp .eq 12, 3) := by decide +kernel
theorem dX6_move_51 : decode cX6_move 51 = .ok (.aload_n 0, 1) := by decide +kernel
theorem dX6_move_52 : decode cX6_move 52 = .ok (.iload_n 1, 1) := by decide +kernel
theorem dX6_move_53 : decode cX6_move 53 = .ok (.iload_n 2, 1) := by decide +kernel
theorem dX6_move_54 : decode cX6_move 54 = .ok (.invokevirtual 171, 3) := by decide +kernel
theorem dX6_move_57 : decode cX6_move 57 = .ok (.ifCond .ne 6, 3) := by decide +kernel
theorem dX6_move_60 : decode cX6_move 60 = .ok (.bipush (-3), 2) := by decide +kernel
theorem dX6_move_62 : decode cX6_move 62 = .ok (.ireturn, 1) := by decide +kernel
theorem dX6_move_63 : decode cX6_move 63 = .ok (.aload_n 0, 1) := by decide +kernel
theorem dX6_move_64 : decode cX6_move 64 = .ok (.iload_n 1, 1) := by decide +kernel
theorem dX6_move_65 : decode cX6_move 65 = .ok (.iload_n 2, 1) := by decide +kernel
theorem dX6_move_66 : decode cX6_move 66 = .ok (.invokevirtual 192, 3) := by decide +kernel
theorem dX6_move_69 : decode cX6_move 69 = .ok (.aload_n 0, 1) := by decide +kernel
theorem dX6_move_70 : decode cX6_move 70 = .ok (.iconst 0, 1) := by decide +kernel
theorem dX6_move_71 : decode cX6_move 71 = .ok (.putfield 88, 3) := by decide +kernel
theorem dX6_move_74 : decode cX6_move 74 = .ok (.iconst 1, 1) := by decide +kernel
theorem dX6_move_75 : decode cX6_move 75 = .ok (.ireturn, 1) := by decide +kernel
theorem dX6_tick_0 : decode cX6_tick 0 = .ok (.iload_n 1, 1) := by decide +kernel
theorem dX6_tick_1 : decode cX6_tick 1 = .ok (.iconst 1, 1) := by decide +kernel
theorem dX6_tick_2 : decode cX6_tick 2 = .ok (.sipush 1000, 3) := by decide +kernel
theorem dX6_tick_5 : decode cX6_tick 5 = .ok (.invokestatic 60, 3) := by decide +kernel
theorem dX6_tick_8 : decode cX6_tick 8 = .ok (.ifCond .ne 6, 3) := by decide +kernel
theorem dX6_tick_11 : decode cX6_tick 11 = .ok (.bipush (-2), 2) := by decide +kernel
theorem dX6_tick_13 : decode cX6_tick 13 = .ok (.ireturn, 1) := by decide +kernel
theorem dX6_tick_14 : decode cX6_tick 14 = .ok (.aload_n 0, 1) := by decide +kernel
theorem dX6_tick_15 : decode cX6_tick 15 = .ok (.dup, 1) := by decide +kernel
theorem dX6_tick_16 : decode cX6_tick 16 = .ok (.getfield 77, 3) := by decide +kernel
theorem dX6_tick_19 : decode cX6_tick 19 = .ok (.iload_n 1, 1) := by decide +kernel
theorem dX6_tick_20 : decode cX6_tick 20 = .ok (.iadd, 1) := by decide +kernel
theorem dX6_tick_21 : decode cX6_tick 21 = .ok (.putfield 77, 3) := by decide +kernel
theorem dX6_tick_24 : decode cX6_tick 24 = .ok (.iconst 0, 1) := by decide +kernel
theorem dX6_tick_25 : decode cX6_tick 25 = .ok (.istore_n 2, 1) := by decide +kernel
theorem dX6_tick_26 : decode cX6_tick 26 = .ok (.iconst 0, 1) := by decide +kernel
theorem dX6_tick_27 : decode cX6_tick 27 = .ok (.istore_n 3, 1) := by decide +kernel
theorem dX6_tick_28 : decode cX6_tick 28 = .ok (.iload_n 3, 1) := by decide +kernel
theorem dX6_tick_29 : decode cX6_tick 29 = .ok (.aload_n 0, 1) := by decide +kernel
theorem dX6_tick_30 : decode cX6_tick 30 = .ok (.getfield 67, 3) := by decide +kernel
theorem dX6_tick_33 : decode cX6_tick 33 = .ok (.if_icmp .ge 51, 3) := by decide +kernel
theorem dX6_tick_36 : decode cX6_tick 36 = .ok (.aload_n 0, 1) := by decide +kernel
theorem dX6_tick_37 : decode cX6_tick 37 = .ok (.getfield 31, 3) := by decide +kernel
theorem dX6_tick_40 : decode cX6_tick 40 = .ok (.iload_n 3, 1) := by decide +kernel
theorem dX6_tick_41 : decode cX6_tick 41 = .ok (.baload, 1) := by decide +kernel
theorem dX6_tick_42 : decode cX6_tick 42 = .ok (.ifCond .ne 36, 3) := by decide +kernel
theorem dX6_tick_45 : decode cX6_tick 45 = .ok (.aload_n 0, 1) := by decide +kernel
theorem dX6_tick_46 : decode cX6_tick 46 = .ok (.getfield 22, 3) := by decide +kernel
theorem dX6_tick_49 : decode cX6_tick 49 = .ok (.iload_n 3, 1) := by decide +kernel
theorem dX6_tick_50 : decode cX6_tick 50 = .ok (.iaload, 1) := by decide +kernel
theorem dX6_tick_51 : decode cX6_tick 51 = .ok (.iconst 4, 1) := by decide +kernel
theorem dX6_tick_52 : decode cX6_tick 52 = .ok (.if_icmp .ne 26, 3) := by decide +kernel
theorem dX6_tick_55 : decode cX6_tick 55 = .ok (.aload_n 0, 1) := by decide +kernel
theorem dX6_tick_56 : decode cX6_tick 56 = .ok (.getfield 25, 3) := by decide +kernel
theorem dX6_tick_59 : decode cX6_tick 59 = .ok (.iload_n 3, 1) := by decide +kernel
theorem dX6_tick_60 : decode cX6_tick 60 = .ok (.iaload, 1) := by decide +kernel
theorem dX6_tick_61 : decode cX6_tick 61 = .ok (.aload_n 0, 1) := by decide +kernel
theorem dX6_tick_62 : decode cX6_tick 62 = .ok (.getfield 77, 3) := by decide +kernel
theorem dX6_tick_65 : decode cX6_tick 65 = .ok (.if_icmp .gt 13, 3) := by decide +kernel
theorem dX6_tick_68 : decode cX6_tick 68 = .ok (.aload_n 0, 1) := by decide +kernel
theorem dX6_tick_69 : decode cX6_tick 69 = .ok (.getfield 31, 3) := by decide +kernel
theorem dX6_tick_72 : decode cX6_tick 72 = .ok (.iload_n 3, 1) := by decide +kernel
theorem dX6_tick_73 : decode cX6_tick 73 = .ok (.iconst 1, 1) := by decide +kernel
theorem dX6_tick_74 : decode cX6_tick 74 = .ok (.bastore, 1) := by decide +kernel
theorem dX6_tick_75 : decode cX6_tick 75 = .ok (.iinc 2 1, 3) := by decide +kernel
theorem dX6_tick_78 : decode cX6_tick 78 = .ok (.iinc 3 1, 3) := by decide +kernel
theorem dX6_tick_81 : decode cX6_tick 81 = .ok (.goto (-53), 3) := by decide +kernel
theorem dX6_tick_84 : decode cX6_tick 84 = .ok (.aload_n 0, 1) := by decide +kernel
theorem dX6_tick_85 : decode cX6_tick 85 = .ok (.aload_n 0, 1) := by decide +kernel
theorem dX6_tick_86 : decode cX6_tick 86 = .ok (.getfield 88, 3) := by decide +kernel
theorem dX6_tick_89 : decode cX6_tick 89 = .ok (.ifCond .eq 11, 3) := by decide +kernel
theorem dX6_tick_92 : decode cX6_tick 92 = .ok (.iload_n 2, 1) := by decide +kernel
theorem dX6_tick_93 : decode cX6_tick 93 = .ok (.ifCond .ne 7, 3) := by decide +kernel
theorem dX6_tick_96 : decode cX6_tick 96 = .ok (.iconst 1, 1) := by decide +kernel
theorem dX6_tick_97 : decode cX6_tick 97 = .ok (.goto 4, 3) := by decide +kernel
theorem dX6_tick_100 : decode cX6_tick 100 = .ok (.iconst 0, 1) := by decide +kernel
theorem dX6_tick_101 : decode cX6_tick 101 = .ok (.putfield 88, 3) := by decide +kernel
theorem dX6_tick_104 : decode cX6_tick 104 = .ok (.iload_n 2, 1) := by decide +kernel
theorem dX6_tick_105 : decode cX6_tick 105 = .ok (.ireturn, 1) := by decide +kernel
theorem dX6_costAt_0 : decode cX6_costAt 0 = .ok (.iconst 0, 1) := by decide +kernel
theorem dX6_costAt_1 : decode cX6_costAt 1 = .ok (.istore_n 3, 1) := by decide +kernel
theorem dX6_costAt_2 : decode cX6_costAt 2 = .ok (.iload_n 3, 1) := by decide +kernel
theorem dX6_costAt_3 : decode cX6_costAt 3 = .ok (.aload_n 0, 1) := by decide +kernel
theorem dX6_costAt_4 : decode cX6_costAt 4 = .ok (.getfield 67, 3) := by decide +kernel
theorem dX6_costAt_7 : decode cX6_costAt 7 = .ok (.if_icmp .ge 49, 3) := by decide +kernel
theorem dX6_costAt_10 : decode cX6_costAt 10 = .ok (.aload_n 0, 1) := by decide +kernel
theorem dX6_costAt_11 : decode cX6_costAt 11 = .ok (.getfield 31, 3) := by decide +kernel
theorem dX6_costAt_14 : decode cX6_costAt 14 = .ok (.iload_n 3, 1) := by decide +kernel
theorem dX6_costAt_15 : decode cX6_costAt 15 = .ok (.aload_n 0, 1) := by decide +kernel
theorem dX6_costAt_16 : decode cX6_costAt 16 = .ok (.getfield 57, 3) := by decide +kernel
theorem dX6_costAt_19 : decode cX6_costAt 19 = .ok (.iload_n 3, 1) := by decide +kernel
theorem dX6_costAt_20 : decode cX6_costAt 20 = .ok (.baload, 1) := by decide +kernel
theorem dX6_costAt_21 : decode cX6_costAt 21 = .ok (.ifCond .ne 23, 3) := by decide +kernel
theorem dX6_costAt_24 : decode cX6_costAt 24 = .ok (.aload_n 0, 1) := by decide +kernel
theorem dX6_costAt_25 : decode cX6_costAt 25 = .ok (.getfield 22, 3) := by decide +kernel
theorem dX6_costAt_28 : decode cX6_costAt 28 = .ok (.iload_n 3, 1) := by decide +kernel
theorem dX6_costAt_29 : decode cX6_costAt 29 = .ok (.iaload, 1) := by decide +kernel
theorem dX6_costAt_30 : decode cX6_costAt 30 = .ok (.iconst 4, 1) := by decide +kernel
theorem dX6_costAt_31 : decode cX6_costAt 31 = .ok (.if_icmp .ne 17, 3) := by decide +kernel
theorem dX6_costAt_34 : decode cX6_costAt 34 = .ok (.aload_n 0, 1) := by decide +kernel
theorem dX6_costAt_35 : decode cX6_costAt 35 = .ok (.getfield 25, 3) := by decide +kernel
theorem dX6_costAt_38 : decode cX6_costAt 38 = .ok (.iload_n 3, 1) := by decide +kernel
theorem dX6_costAt_39 : decode cX6_costAt 39 = .ok (.iaload, 1) := by decide +kernel
theorem dX6_costAt_40 : decode cX6_costAt 40 = .ok (.iload_n 2, 1) := by decide +kernel
theorem dX6_costAt_41 : decode cX6_costAt 41 = .ok (.if_icmp .gt 7, 3) := by decide +kernel
theorem dX6_costAt_44 : decode cX6_costAt 44 = .ok (.iconst 1, 1) := by decide +kernel
theorem dX6_costAt_45 : decode cX6_costAt 45 = .ok (.goto 4, 3) := by decide +kernel
theorem dX6_costAt_48 : decode cX6_costAt 48 = .ok (.iconst 0, 1) := by decide +kernel
theorem dX6_costAt_49 : decode cX6_costAt 49 = .ok (.bastore, 1) := by decide +kernel
theorem dX6_costAt_50 : decode cX6_costAt 50 = .ok (.iinc 3 1, 3) := by decide +kernel
theorem dX6_costAt_53 : decode cX6_costAt 53 = .ok (.goto (-51), 3) := by decide +kernel
theorem dX6_costAt_56 : decode cX6_costAt 56 = .ok (.aload_n 0, 1) := by decide +kernel
theorem dX6_costAt_57 : decode cX6_costAt 57 = .ok (.iconst 0, 1) := by decide +kernel
theorem dX6_costAt_58 : decode cX6_costAt 58 = .ok (.putfield 109, 3) := by decide +kernel
theorem dX6_costAt_61 : decode cX6_costAt 61 = .ok (.aload_n 0, 1) := by decide +kernel
theorem dX6_costAt_62 : decode cX6_costAt 62 = .ok (.iload_n 1, 1) := by decide +kernel
theorem dX6_costAt_63 : decode cX6_costAt 63 = .ok (.putfield 112, 3) := by decide +kernel
theorem dX6_costAt_66 : decode cX6_costAt 66 = .ok (.aload_n 0, 1) := by decide +kernel
theorem dX6_costAt_67 : decode cX6_costAt 67 = .ok (.invokevirtual 158, 3) := by decide +kernel
theorem dX6_costAt_70 : decode cX6_costAt 70 = .ok (.istore_n 3, 1) := by decide +kernel
theorem dX6_costAt_71 : decode cX6_costAt 71 = .ok (.aload_n 0, 1) := by decide +kernel
theorem dX6_costAt_72 : decode cX6_costAt 72 = .ok (.getfield 135, 3) := by decide +kernel
theorem dX6_costAt_75 : decode cX6_costAt 75 = .ok (.iconst (-1), 1) := by decide +kernel
theorem dX6_costAt_76 : decode cX6_costAt 76 = .ok (.if_icmp .ne 9, 3) := by decide +kernel
theorem dX6_costAt_79 : decode cX6_costAt 79 = .ok (.ldc2_w 196, 3) := by decide +kernel
theorem dX6_costAt_82 : decode cX6_costAt 82 = .ok (.goto 4, 3) := by decide +kernel
theorem dX6_costAt_85 : decode cX6_costAt 85 = .ok (.lconst 0, 1) := by decide +kernel
theorem dX6_costAt_86 : decode cX6_costAt 86 = .ok (.lstore 4, 2) := by decide +kernel
theorem dX6_costAt_88 : decode cX6_costAt 88 = .ok (.iconst 0, 1) := by decide +kernel
theorem dX6_costAt_89 : decode cX6_costAt 89 = .ok (.istore 6, 2) := by decide +kernel
theorem dX6_costAt_91 : decode cX6_costAt 91 = .ok (.iload 6, 2) := by decide +kernel
theorem dX6_costAt_93 : decode cX6_costAt 93 = .ok (.aload_n 0, 1) := by decide +kernel
theorem dX6_costAt_94 : decode cX6_costAt 94 = .ok (.getfield 67, 3) := by decide +kernel
theorem dX6_costAt_97 : decode cX6_costAt 97 = .ok (.if_icmp .ge 58, 3) := by decide +kernel
theorem dX6_costAt_100 : decode cX6_costAt 100 = .ok (.lload 4, 2) := by decide +kernel
theorem dX6_costAt_102 : decode cX6_costAt 102 = .ok (.lconst 0, 1) := by decide +kernel
theorem dX6_costAt_103 : decode cX6_costAt 103 = .ok (.lcmp, 1) := by decide +kernel
theorem dX6_costAt_104 : decode cX6_costAt 104 = .ok (.ifCond .lt 51, 3) := by decide +kernel
theorem dX6_costAt_107 : decode cX6_costAt 107 = .ok (.lload 4, 2) := by decide +kernel
theorem dX6_costAt_109 : decode cX6_costAt 109 = .ok (.aload_n 0, 1) := by decide +kernel
theorem dX6_costAt_110 : decode cX6_costAt 110 = .ok (.iload 6, 2) := by decide +kernel
theorem dX6_costAt_112 : decode cX6_costAt 112 = .ok (.invokevirtual 129, 3) := by decide +kernel
theorem dX6_costAt_115 : decode cX6_costAt 115 = .ok (.ifCond .eq 30, 3) := by decide +kernel
theorem dX6_costAt_118 : decode cX6_costAt 118 = .ok (.aload_n 0, 1) := by decide +kernel
theorem dX6_costAt_119 : decode cX6_costAt 119 = .ok (.getfield 42, 3) := by decide +kernel
theorem dX6_costAt_122 : decode cX6_costAt 122 = .ok (.iload 6, 2) := by decide +kernel
theorem dX6_costAt_124 : decode cX6_costAt 124 = .ok (.iaload, 1) := by decide +kernel
theorem dX6_costAt_125 : decode cX6_costAt 125 = .ok (.aload_n 0, 1) := by decide +kernel
theorem dX6_costAt_126 : decode cX6_costAt 126 = .ok (.getfield 28, 3) := by decide +kernel
theorem dX6_costAt_129 : decode cX6_costAt 129 = .ok (.iload 6, 2) := by decide +kernel
theorem dX6_costAt_131 : decode cX6_costAt 131 = .ok (.iaload, 1) := by decide +kernel
theorem dX6_costAt_132 : decode cX6_costAt 132 = .ok (.if_icmp .eq 13, 3) := by decide +kernel
theorem dX6_costAt_135 : decode cX6_costAt 135 = .ok (.aload_n 0, 1) := by decide +kernel
theorem dX6_costAt_136 : decode cX6_costAt 136 = .ok (.iload 6, 2) := by decide +kernel
theorem dX6_costAt_138 : decode cX6_costAt 138 = .ok (.invokevirtual 161, 3) := by decide +kernel
theorem dX6_costAt_141 : decode cX6_costAt 141 = .ok (.i2l, 1) := by decide +kernel
theorem dX6_costAt_142 : decode cX6_costAt 142 = .ok (.goto 4, 3) := by decide +kernel
theorem dX6_costAt_145 : decode cX6_costAt 145 = .ok (.lconst 0, 1) := by decide +kernel
theorem dX6_costAt_146 : decode cX6_costAt 146 = .ok (.ladd, 1) := by decide +kernel
theorem dX6_costAt_147 : decode cX6_costAt 147 = .ok (.lstore 4, 2) := by decide +kernel
theorem dX6_costAt_149 : decode cX6_costAt 149 = .ok (.iinc 6 1, 3) := by decide +kernel
theorem dX6_costAt_152 : decode cX6_costAt 152 = .ok (.goto (-61), 3) := by decide +kernel
theorem dX6_costAt_155 : decode cX6_costAt 155 = .ok (.iconst 0, 1) := by decide +kernel
theorem dX6_costAt_156 : decode cX6_costAt 156 = .ok (.istore 6, 2) := by decide +kernel
theorem dX6_costAt_158 : decode cX6_costAt 158 = .ok (.iload 6, 2) := by decide +kernel
theorem dX6_costAt_160 : decode cX6_costAt 160 = .ok (.aload_n 0, 1) := by decide +kernel
theorem dX6_costAt_161 : decode cX6_costAt 161 = .ok (.getfield 67, 3) := by decide +kernel
theorem dX6_costAt_164 : decode cX6_costAt 164 = .ok (.if_icmp .ge 23, 3) := by decide +kernel
theorem dX6_costAt_167 : decode cX6_costAt 167 = .ok (.aload_n 0, 1) := by decide +kernel
theorem dX6_costAt_168 : decode cX6_costAt 168 = .ok (.getfield 31, 3) := by decide +kernel
theorem dX6_costAt_171 : decode cX6_costAt 171 = .ok (.iload 6, 2) := by decide +kernel
theorem dX6_costAt_173 : decode cX6_costAt 173 = .ok (.aload_n 0, 1) := by decide +kernel
theorem dX6_costAt_174 : decode cX6_costAt 174 = .ok (.getfield 57, 3) := by decide +kernel
theorem dX6_costAt_177 : decode cX6_costAt 177 = .ok (.iload 6, 2) := by decide +kernel
theorem dX6_costAt_179 : decode cX6_costAt 179 = .ok (.baload, 1) := by decide +kernel
theorem dX6_costAt_180 : decode cX6_costAt 180 = .ok (.bastore, 1) := by decide +kernel
theorem dX6_costAt_181 : decode cX6_costAt 181 = .ok (.iinc 6 1, 3) := by decide +kernel
theorem dX6_costAt_184 : decode cX6_costAt 184 = .ok (.goto (-26), 3) := by decide +kernel
theorem dX6_costAt_187 : decode cX6_costAt 187 = .ok (.iload_n 3, 1) := by decide +kernel
theorem dX6_costAt_188 : decode cX6_costAt 188 = .ok (.ifCond .ne 9, 3) := by decide +kernel
theorem dX6_costAt_191 : decode cX6_costAt 191 = .ok (.ldc2_w 198, 3) := by decide +kernel
theorem dX6_costAt_194 : decode cX6_costAt 194 = .ok (.goto 32, 3) := by decide +kernel
theorem dX6_costAt_197 : decode cX6_costAt 197 = .ok (.lload 4, 2) := by decide +kernel
theorem dX6_costAt_199 : decode cX6_costAt 199 = .ok (.lconst 0, 1) := by decide +kernel
theorem dX6_costAt_200 : decode cX6_costAt 200 = .ok (.lcmp, 1) := by decide +kernel
theorem dX6_costAt_201 : decode cX6_costAt 201 = .ok (.ifCond .ge 9, 3) := by decide +kernel
theorem dX6_costAt_204 : decode cX6_costAt 204 = .ok (.ldc2_w 196, 3) := by decide +kernel
theorem dX6_costAt_207 : decode cX6_costAt 207 = .ok (.goto 19, 3) := by decide +kernel
theorem dX6_costAt_210 : decode cX6_costAt 210 = .ok (.lload 4, 2) := by decide +kernel
theorem dX6_costAt_212 : decode cX6_costAt 212 = .ok (.iload_n 2, 1) := by decide +kernel
theorem dX6_costAt_213 : decode cX6_costAt 213 = .ok (.aload_n 0, 1) := by decide +kernel
theorem dX6_costAt_214 : decode cX6_costAt 214 = .ok (.getfield 77, 3) := by decide +kernel
theorem dX6_costAt_217 : decode cX6_costAt 217 = .ok (.isub, 1) := by decide +kernel
theorem dX6_costAt_218 : decode cX6_costAt 218 = .ok (.i2l, 1) := by decide +kernel
theorem dX6_costAt_219 : decode cX6_costAt 219 = .ok (.aload_n 0, 1) := by decide +kernel
theorem dX6_costAt_220 : decode cX6_costAt 220 = .ok (.getfield 35, 3) := by decide +kernel
theorem dX6_costAt_223 : decode cX6_costAt 223 = .ok (.i2l, 1) := by decide +kernel
theorem dX6_costAt_224 : decode cX6_costAt 224 = .ok (.lmul, 1) := by decide +kernel
theorem dX6_costAt_225 : decode cX6_costAt 225 = .ok (.ladd, 1) := by decide +kernel
theorem dX6_costAt_226 : decode cX6_costAt 226 = .ok (.lreturn, 1) := by decide +kernel
theorem dX6_wait_0 : decode cX6_wait 0 = .ok (.aload_n 0, 1) := by decide +kernel
theorem dX6_wait_1 : decode cX6_wait 1 = .ok (.iload_n 1, 1) := by decide +kernel
theorem dX6_wait_2 : decode cX6_wait 2 = .ok (.invokevirtual 73, 3) := by decide +kernel
theorem dX6_wait_5 : decode cX6_wait 5 = .ok (.ifCond .ne 6, 3) := by decide +kernel
theorem dX6_wait_8 : decode cX6_wait 8 = .ok (.bipush (-2), 2) := by decide +kernel
theorem dX6_wait_10 : decode cX6_wait 10 = .ok (.ireturn, 1) := by decide +kernel
theorem dX6_wait_11 : decode cX6_wait 11 = .ok (.aload_n 0, 1) := by decide +kernel
theorem dX6_wait_12 : decode cX6_wait 12 = .ok (.iload_n 1, 1) := by decide +kernel
theorem dX6_wait_13 : decode cX6_wait 13 = .ok (.invokevirtual 106, 3) := by decide +kernel
theorem dX6_wait_16 : decode cX6_wait 16 = .ok (.ifCond .ne 6, 3) := by decide +kernel
theorem dX6_wait_19 : decode cX6_wait 19 = .ok (.bipush (-3), 2) := by decide +kernel
theorem dX6_wait_21 : decode cX6_wait 21 = .ok (.ireturn, 1) := by decide +kernel
theorem dX6_wait_22 : decode cX6_wait 22 = .ok (.aload_n 0, 1) := by decide +kernel
theorem dX6_wait_23 : decode cX6_wait 23 = .ok (.getfield 132, 3) := by decide +kernel
theorem dX6_wait_26 : decode cX6_wait 26 = .ok (.istore_n 2, 1) := by decide +kernel
theorem dX6_wait_27 : decode cX6_wait 27 = .ok (.iconst 0, 1) := by decide +kernel
theorem dX6_wait_28 : decode cX6_wait 28 = .ok (.istore_n 3, 1) := by decide +kernel
theorem dX6_wait_29 : decode cX6_wait 29 = .ok (.iload_n 3, 1) := by decide +kernel
theorem dX6_wait_30 : decode cX6_wait 30 = .ok (.aload_n 0, 1) := by decide +kernel
theorem dX6_wait_31 : decode cX6_wait 31 = .ok (.getfield 67, 3) := by decide +kernel
theorem dX6_wait_34 : decode cX6_wait 34 = .ok (.if_icmp .ge 21, 3) := by decide +kernel
theorem dX6_wait_37 : decode cX6_wait 37 = .ok (.aload_n 0, 1) := by decide +kernel
theorem dX6_wait_38 : decode cX6_wait 38 = .ok (.getfield 57, 3) := by decide +kernel
theorem dX6_wait_41 : decode cX6_wait 41 = .ok (.iload_n 3, 1) := by decide +kernel
theorem dX6_wait_42 : decode cX6_wait 42 = .ok (.aload_n 0, 1) := by decide +kernel
theorem dX6_wait_43 : decode cX6_wait 43 = .ok (.getfield 31, 3) := by decide +kernel
theorem dX6_wait_46 : decode cX6_wait 46 = .ok (.iload_n 3, 1) := by decide +kernel
theorem dX6_wait_47 : decode cX6_wait 47 = .ok (.baload, 1) := by decide +kernel
theorem dX6_wait_48 : decode cX6_wait 48 = .ok (.bastore, 1) := by decide +kernel
theorem dX6_wait_49 : decode cX6_wait 49 = .ok (.iinc 3 1, 3) := by decide +kernel
theorem dX6_wait_52 : decode cX6_wait 52 = .ok (.goto (-23), 3) := by decide +kernel
theorem dX6_wait_55 : decode cX6_wait 55 = .ok (.aload_n 0, 1) := by decide +kernel
theorem dX6_wait_56 : decode cX6_wait 56 = .ok (.iload_n 1, 1) := by decide +kernel
theorem dX6_wait_57 : decode cX6_wait 57 = .ok (.aload_n 0, 1) := by decide +kernel
theorem dX6_wait_58 : decode cX6_wait 58 = .ok (.getfield 77, 3) := by decide +kernel
theorem dX6_wait_61 : decode cX6_wait 61 = .ok (.invokevirtual 200, 3) := by decide +kernel
theorem dX6_wait_64 : decode cX6_wait 64 = .ok (.lstore_n 3, 1) := by decide +kernel
theorem dX6_wait_65 : decode cX6_wait 65 = .ok (.lload_n 3, 1) := by decide +kernel
theorem dX6_wait_66 : decode cX6_wait 66 = .ok (.ldc2_w 196, 3) := by decide +kernel
theorem dX6_wait_69 : decode cX6_wait 69 = .ok (.lcmp, 1) := by decide +kernel
theorem dX6_wait_70 : decode cX6_wait 70 = .ok (.ifCond .ne 7, 3) := by decide +kernel
theorem dX6_wait_73 : decode cX6_wait 73 = .ok (.iconst (-1), 1) := by decide +kernel
theorem dX6_wait_74 : decode cX6_wait 74 = .ok (.goto 4, 3) := by decide +kernel
theorem dX6_wait_77 : decode cX6_wait 77 = .ok (.iconst 0, 1) := by decide +kernel
theorem dX6_wait_78 : decode cX6_wait 78 = .ok (.istore 5, 2) := by decide +kernel
theorem dX6_wait_80 : decode cX6_wait 80 = .ok (.lload_n 3, 1) := by decide +kernel
theorem dX6_wait_81 : decode cX6_wait 81 = .ok (.ldc2_w 198, 3) := by decide +kernel
theorem dX6_wait_84 : decode cX6_wait 84 = .ok (.lcmp, 1) := by decide +kernel
theorem dX6_wait_85 : decode cX6_wait 85 = .ok (.ifCond .ne 7, 3) := by decide +kernel
theorem dX6_wait_88 : decode cX6_wait 88 = .ok (.iconst 1, 1) := by decide +kernel
theorem dX6_wait_89 : decode cX6_wait 89 = .ok (.goto 4, 3) := by decide +kernel
theorem dX6_wait_92 : decode cX6_wait 92 = .ok (.iconst 0, 1) := by decide +kernel
theorem dX6_wait_93 : decode cX6_wait 93 = .ok (.istore 6, 2) := by decide +kernel
theorem dX6_wait_95 : decode cX6_wait 95 = .ok (.iconst 0, 1) := by decide +kernel
theorem dX6_wait_96 : decode cX6_wait 96 = .ok (.istore 7, 2) := by decide +kernel
theorem dX6_wait_98 : decode cX6_wait 98 = .ok (.iload 7, 2) := by decide +kernel
theorem dX6_wait_100 : decode cX6_wait 100 = .ok (.aload_n 0, 1) := by decide +kernel
theorem dX6_wait_101 : decode cX6_wait 101 = .ok (.getfield 67, 3) := by decide +kernel
theorem dX6_wait_104 : decode cX6_wait 104 = .ok (.if_icmp .ge 120, 3) := by decide +kernel
theorem dX6_wait_107 : decode cX6_wait 107 = .ok (.iload 6, 2) := by decide +kernel
theorem dX6_wait_109 : decode cX6_wait 109 = .ok (.ifCond .ne 115, 3) := by decide +kernel
theorem dX6_wait_112 : decode cX6_wait 112 = .ok (.aload_n 0, 1) := by decide +kernel
theorem dX6_wait_113 : decode cX6_wait 113 = .ok (.getfield 57, 3) := by decide +kernel
theorem dX6_wait_116 : decode cX6_wait 116 = .ok (.iload 7, 2) := by decide +kernel
theorem dX6_wait_118 : decode cX6_wait 118 = .ok (.baload, 1) := by decide +kernel
theorem dX6_wait_119 : decode cX6_wait 119 = .ok (.ifCond .ne 99, 3) := by decide +kernel
theorem dX6_wait_122 : decode cX6_wait 122 = .ok (.aload_n 0, 1) := by decide +kernel
theorem dX6_wait_123 : decode cX6_wait 123 = .ok (.getfield 22, 3) := by decide +kernel
theorem dX6_wait_126 : decode cX6_wait 126 = .ok (.iload 7, 2) := by decide +kernel
theorem dX6_wait_128 : decode cX6_wait 128 = .ok (.iaload, 1) := by decide +kernel
theorem dX6_wait_129 : decode cX6_wait 129 = .ok (.iconst 4, 1) := by decide +kernel
theorem dX6_wait_130 : decode cX6_wait 130 = .ok (.if_icmp .ne 88, 3) := by decide +kernel
theorem dX6_wait_133 : decode cX6_wait 133 = .ok (.aload_n 0, 1) := by decide +kernel
theorem dX6_wait_134 : decode cX6_wait 134 = .ok (.getfield 25, 3) := by decide +kernel
theorem dX6_wait_137 : decode cX6_wait 137 = .ok (.iload 7, 2) := by decide +kernel
theorem dX6_wait_139 : decode cX6_wait 139 = .ok (.iaload, 1) := by decide +kernel
theorem dX6_wait_140 : decode cX6_wait 140 = .ok (.istore 8, 2) := by decide +kernel
theorem dX6_wait_142 : decode cX6_wait 142 = .ok (.aload_n 0, 1) := by decide +kernel
theorem dX6_wait_143 : decode cX6_wait 143 = .ok (.iload_n 1, 1) := by decide +kernel
theorem dX6_wait_144 : decode cX6_wait 144 = .ok (.iload 8, 2) := by decide +kernel
theorem dX6_wait_146 : decode cX6_wait 146 = .ok (.invokevirtual 200, 3) := by decide +kernel
theorem dX6_wait_149 : decode cX6_wait 149 = .ok (.lstore 9, 2) := by decide +kernel
theorem dX6_wait_151 : decode cX6_wait 151 = .ok (.lload 9, 2) := by decide +kernel
theorem dX6_wait_153 : decode cX6_wait 153 = .ok (.ldc2_w 198, 3) := by decide +kernel
theorem dX6_wait_156 : decode cX6_wait 156 = .ok (.lcmp, 1) := by decide +kernel
theorem dX6_wait_157 : decode cX6_wait 157 = .ok (.ifCond .ne 7, 3) := by decide +kernel
theorem dX6_wait_160 : decode cX6_wait 160 = .ok (.iconst 1, 1) := by decide +kernel
theorem dX6_wait_161 : decode cX6_wait 161 = .ok (.goto 4, 3) := by decide +kernel
theorem dX6_wait_164 : decode cX6_wait 164 = .ok (.iconst 0, 1) := by decide +kernel
theorem dX6_wait_165 : decode cX6_wait 165 = .ok (.istore 6, 2) := by decide +kernel
theorem dX6_wait_167 : decode cX6_wait 167 = .ok (.lload 9, 2) := by decide +kernel
theorem dX6_wait_169 : decode cX6_wait 169 = .ok (.lconst 0, 1) := by decide +kernel
theorem dX6_wait_170 : decode cX6_wait 170 = .ok (.lcmp, 1) := by decide +kernel
theorem dX6_wait_171 : decode cX6_wait 171 = .ok (.ifCond .lt 47, 3) := by decide +kernel
theorem dX6_wait_174 : decode cX6_wait 174 = .ok (.iload 5, 2) := by decide +kernel
theorem dX6_wait_176 : decode cX6_wait 176 = .ok (.iconst (-1), 1) := by decide +kernel
theorem dX6_wait_177 : decode cX6_wait 177 = .ok (.if_icmp .eq 29, 3) := by decide +kernel
theorem dX6_wait_180 : decode cX6_wait 180 = .ok (.lload 9, 2) := by decide +kernel
theorem dX6_wait_182 : decode cX6_wait 182 = .ok (.lload_n 3, 1) := by decide +kernel
theorem dX6_wait_183 : decode cX6_wait 183 = .ok (.lcmp, 1) := by decide +kernel
theorem dX6_wait_184 : decode cX6_wait 184 = .ok (.ifCond .lt 22, 3) := by decide +kernel
theorem dX6_wait_187 : decode cX6_wait 187 = .ok (.lload 9, 2) := by decide +kernel
theorem dX6_wait_189 : decode cX6_wait 189 = .ok (.lload_n 3, 1) := by decide +kernel
theorem dX6_wait_190 : decode cX6_wait 190 = .ok (.lcmp, 1) := by decide +kernel
theorem dX6_wait_191 : decode cX6_wait 191 = .ok (.ifCond .ne 27, 3) := by decide +kernel
theorem dX6_wait_194 : decode cX6_wait 194 = .ok (.iload 8, 2) := by decide +kernel
theorem dX6_wait_196 : decode cX6_wait 196 = .ok (.aload_n 0, 1) := by decide +kernel
theorem dX6_wait_197 : decode cX6_wait 197 = .ok (.getfield 77, 3) := by decide +kernel
theorem dX6_wait_200 : decode cX6_wait 200 = .ok (.isub, 1) := by decide +kernel
theorem dX6_wait_201 : decode cX6_wait 201 = .ok (.iload 5, 2) := by decide +kernel
theorem dX6_wait_203 : decode cX6_wait 203 = .ok (.if_icmp .ge 15, 3) := by decide +kernel
theorem dX6_wait_206 : decode cX6_wait 206 = .ok (.lload 9, 2) := by decide +kernel
theorem dX6_wait_208 : decode cX6_wait 208 = .ok (.lstore_n 3, 1) := by decide +kernel
theorem dX6_wait_209 : decode cX6_wait 209 = .ok (.iload 8, 2) := by decide +kernel
theorem dX6_wait_211 : decode cX6_wait 211 = .ok (.aload_n 0, 1) := by decide +kernel
theorem dX6_wait_212 : decode cX6_wait 212 = .ok (.getfield 77, 3) := by decide +kernel
theorem dX6_wait_215 : decode cX6_wait 215 = .ok (.isub, 1) := by decide +kernel
theorem dX6_wait_216 : decode cX6_wait 216 = .ok (.istore 5, 2) := by decide +kernel
theorem dX6_wait_218 : decode cX6_wait 218 = .ok (.iinc 7 1, 3) := by decide +kernel
theorem dX6_wait_221 : decode cX6_wait 221 = .ok (.goto (-123), 3) := by decide +kernel
theorem dX6_wait_224 : decode cX6_wait 224 = .ok (.aload_n 0, 1) := by decide +kernel
theorem dX6_wait_225 : decode cX6_wait 225 = .ok (.iload_n 2, 1) := by decide +kernel
theorem dX6_wait_226 : decode cX6_wait 226 = .ok (.putfield 132, 3) := by decide +kernel
theorem dX6_wait_229 : decode cX6_wait 229 = .ok (.iload 6, 2) := by decide +kernel
theorem dX6_wait_231 : decode cX6_wait 231 = .ok (.ifCond .eq 8, 3) := by decide +kernel
theorem dX6_wait_234 : decode cX6_wait 234 = .ok (.bipush (-5), 2) := by decide +kernel
theorem dX6_wait_236 : decode cX6_wait 236 = .ok (.goto 5, 3) := by decide +kernel
theorem dX6_wait_239 : decode cX6_wait 239 = .ok (.iload 5, 2) := by decide +kernel
theorem dX6_wait_241 : decode cX6_wait 241 = .ok (.ireturn, 1) := by decide +kernel
theorem dX6_count_0 : decode cX6_count 0 = .ok (.iconst 0, 1) := by decide +kernel
theorem dX6_count_1 : decode cX6_count 1 = .ok (.istore_n 2, 1) := by decide +kernel
theorem dX6_count_2 : decode cX6_count 2 = .ok (.iload_n 1, 1) := by decide +kernel
theorem dX6_count_3 : decode cX6_count 3 = .ok (.tableswitch 135 0 6 #[41, 46, 51, 86, 91, 96, 130], 41) := by decide +kernel
theorem dX6_count_44 : decode cX6_count 44 = .ok (.aload_n 0, 1) := by decide +kernel
theorem dX6_count_45 : decode cX6_count 45 = .ok (.getfield 64, 3) := by decide +kernel
theorem dX6_count_48 : decode cX6_count 48 = .ok (.ireturn, 1) := by decide +kernel
theorem dX6_count_49 : decode cX6_count 49 = .ok (.aload_n 0, 1) := by decide +kernel
theorem dX6_count_50 : decode cX6_count 50 = .ok (.getfield 67, 3) := by decide +kernel
theorem dX6_count_53 : decode cX6_count 53 = .ok (.ireturn, 1) := by decide +kernel
theorem dX6_count_54 : decode cX6_count 54 = .ok (.iconst 0, 1) := by decide +kernel
theorem dX6_count_55 : decode cX6_count 55 = .ok (.istore_n 3, 1) := by decide +kernel
theorem dX6_count_56 : decode cX6_count 56 = .ok (.iload_n 3, 1) := by decide +kernel
theorem dX6_count_57 : decode cX6_count 57 = .ok (.aload_n 0, 1) := by decide +kernel
theorem dX6_count_58 : decode cX6_count 58 = .ok (.getfield 67, 3) := by decide +kernel
theorem dX6_count_61 : decode cX6_count 61 = .ok (.if_icmp .ge 26, 3) := by decide +kernel
theorem dX6_count_64 : decode cX6_count 64 = .ok (.iload_n 2, 1) := by decide +kernel
theorem dX6_count_65 : decode cX6_count 65 = .ok (.aload_n 0, 1) := by decide +kernel
theorem dX6_count_66 : decode cX6_count 66 = .ok (.getfield 31, 3) := by decide +kernel
theorem dX6_count_69 : decode cX6_count 69 = .ok (.iload_n 3, 1) := by decide +kernel
theorem dX6_count_70 : decode cX6_count 70 = .ok (.baload, 1) := by decide +kernel
theorem dX6_count_71 : decode cX6_count 71 = .ok (.ifCond .eq 7, 3) := by decide +kernel
theorem dX6_count_74 : decode cX6_count 74 = .ok (.iconst 1, 1) := by decide +kernel
theorem dX6_count_75 : decode cX6_count 75 = .ok (.goto 4, 3) := by decide +kernel
theorem dX6_count_78 : decode cX6_count 78 = .ok (.iconst 0, 1) := by decide +kernel
theorem dX6_count_79 : decode cX6_count 79 = .ok (.iadd, 1) := by decide +kernel
theorem dX6_count_80 : decode cX6_count 80 = .ok (.istore_n 2, 1) := by decide +kernel
theorem dX6_count_81 : decode cX6_count 81 = .ok (.iinc 3 1, 3) := by decide +kernel
theorem dX6_count_84 : decode cX6_count 84 = .ok (.goto (-28), 3) := by decide +kernel
theorem dX6_count_87 : decode cX6_count 87 = .ok (.iload_n 2, 1) := by decide +kernel
theorem dX6_count_88 : decode cX6_count 88 = .ok (.ireturn, 1) := by decide +kernel
theorem dX6_count_89 : decode cX6_count 89 = .ok (.aload_n 0, 1) := by decide +kernel
theorem dX6_count_90 : decode cX6_count 90 = .ok (.getfield 77, 3) := by decide +kernel
theorem dX6_count_93 : decode cX6_count 93 = .ok (.ireturn, 1) := by decide +kernel
theorem dX6_count_94 : decode cX6_count 94 = .ok (.aload_n 0, 1) := by decide +kernel
theorem dX6_count_95 : decode cX6_count 95 = .ok (.getfield 35, 3) := by decide +kernel
theorem dX6_count_98 : decode cX6_count 98 = .ok (.ireturn, 1) := by decide +kernel
theorem dX6_count_99 : decode cX6_count 99 = .ok (.iconst 0, 1) := by decide +kernel
theorem dX6_count_100 : decode cX6_count 100 = .ok (.istore_n 3, 1) := by decide +kernel
theorem dX6_count_101 : decode cX6_count 101 = .ok (.iload_n 3, 1) := by decide +kernel
theorem dX6_count_102 : decode cX6_count 102 = .ok (.aload_n 0, 1) := by decide +kernel
theorem dX6_count_103 : decode cX6_count 103 = .ok (.getfield 64, 3) := by decide +kernel
theorem dX6_count_106 : decode cX6_count 106 = .ok (.if_icmp .ge 25, 3) := by decide +kernel
theorem dX6_count_109 : decode cX6_count 109 = .ok (.iload_n 2, 1) := by decide +kernel
theorem dX6_count_110 : decode cX6_count 110 = .ok (.aload_n 0, 1) := by decide +kernel
theorem dX6_count_111 : decode cX6_count 111 = .ok (.iload_n 3, 1) := by decide +kernel
theorem dX6_count_112 : decode cX6_count 112 = .ok (.invokevirtual 106, 3) := by decide +kernel
theorem dX6_count_115 : decode cX6_count 115 = .ok (.ifCond .le 7, 3) := by decide +kernel
theorem dX6_count_118 : decode cX6_count 118 = .ok (.iconst 1, 1) := by decide +kernel
theorem dX6_count_119 : decode cX6_count 119 = .ok (.goto 4, 3) := by decide +kernel
theorem dX6_count_122 : decode cX6_count 122 = .ok (.iconst 0, 1) := by decide +kernel
theorem dX6_count_123 : decode cX6_count 123 = .ok (.iadd, 1) := by decide +kernel
theorem dX6_count_124 : decode cX6_count 124 = .ok (.istore_n 2, 1) := by decide +kernel
theorem dX6_count_125 : decode cX6_count 125 = .ok (.iinc 3 1, 3) := by decide +kernel
theorem dX6_count_128 : decode cX6_count 128 = .ok (.goto (-27), 3) := by decide +kernel
theorem dX6_count_131 : decode cX6_count 131 = .ok (.iload_n 2, 1) := by decide +kernel
theorem dX6_count_132 : decode cX6_count 132 = .ok (.ireturn, 1) := by decide +kernel
theorem dX6_count_133 : decode cX6_count 133 = .ok (.aload_n 0, 1) := by decide +kernel
theorem dX6_count_134 : decode cX6_count 134 = .ok (.getfield 189, 3) := by decide +kernel
theorem dX6_count_137 : decode cX6_count 137 = .ok (.ireturn, 1) := by decide +kernel
theorem dX6_count_138 : decode cX6_count 138 = .ok (.bipush (-2), 2) := by decide +kernel
theorem dX6_count_140 : decode cX6_count 140 = .ok (.ireturn, 1) := by decide +kernel
theorem dX6_digest_0 : decode cX6_digest 0 = .ok (.ldc2_w 204, 3) := by decide +kernel
theorem dX6_digest_3 : decode cX6_digest 3 = .ok (.lstore_n 1, 1) := by decide +kernel
theorem dX6_digest_4 : decode cX6_digest 4 = .ok (.iconst 0, 1) := by decide +kernel
theorem dX6_digest_5 : decode cX6_digest 5 = .ok (.istore_n 3, 1) := by decide +kernel
theorem dX6_digest_6 : decode cX6_digest 6 = .ok (.iload_n 3, 1) := by decide +kernel
theorem dX6_digest_7 : decode cX6_digest 7 = .ok (.bipush 7, 2) := by decide +kernel
theorem dX6_digest_9 : decode cX6_digest 9 = .ok (.if_icmp .ge 22, 3) := by decide +kernel
theorem dX6_digest_12 : decode cX6_digest 12 = .ok (.ldc2_w 206, 3) := by decide +kernel
theorem dX6_digest_15 : decode cX6_digest 15 = .ok (.lload_n 1, 1) := by decide +kernel
theorem dX6_digest_16 : decode cX6_digest 16 = .ok (.lmul, 1) := by decide +kernel
theorem dX6_digest_17 : decode cX6_digest 17 = .ok (.aload_n 0, 1) := by decide +kernel
theorem dX6_digest_18 : decode cX6_digest 18 = .ok (.iload_n 3, 1) := by decide +kernel
theorem dX6_digest_19 : decode cX6_digest 19 = .ok (.invokevirtual 208, 3) := by decide +kernel
theorem dX6_digest_22 : decode cX6_digest 22 = .ok (.i2l, 1) := by decide +kernel
theorem dX6_digest_23 : decode cX6_digest 23 = .ok (.ladd, 1) := by decide +kernel
theorem dX6_digest_24 : decode cX6_digest 24 = .ok (.lstore_n 1, 1) := by decide +kernel
theorem dX6_digest_25 : decode cX6_digest 25 = .ok (.iinc 3 1, 3) := by decide +kernel
theorem dX6_digest_28 : decode cX6_digest 28 = .ok (.goto (-22), 3) := by decide +kernel
theorem dX6_digest_31 : decode cX6_digest 31 = .ok (.iconst 0, 1) := by decide +kernel
theorem dX6_digest_32 : decode cX6_digest 32 = .ok (.istore_n 3, 1) := by decide +kernel
theorem dX6_digest_33 : decode cX6_digest 33 = .ok (.iload_n 3, 1) := by decide +kernel
theorem dX6_digest_34 : decode cX6_digest 34 = .ok (.aload_n 0, 1) := by decide +kernel
theorem dX6_digest_35 : decode cX6_digest 35 = .ok (.getfield 67, 3) := by decide +kernel
theorem dX6_digest_38 : decode cX6_digest 38 = .ok (.if_icmp .ge 53, 3) := by decide +kernel
theorem dX6_digest_41 : decode cX6_digest 41 = .ok (.iconst 0, 1) := by decide +kernel
theorem dX6_digest_42 : decode cX6_digest 42 = .ok (.istore 4, 2) := by decide +kernel
theorem dX6_digest_44 : decode cX6_digest 44 = .ok (.iload 4, 2) := by decide +kernel
theorem dX6_digest_46 : decode cX6_digest 46 = .ok (.bipush 6, 2) := by decide +kernel
theorem dX6_digest_48 : decode cX6_digest 48 = .ok (.if_icmp .ge 24, 3) := by decide +kernel
theorem dX6_digest_51 : decode cX6_digest 51 = .ok (.ldc2_w 206, 3) := by decide +kernel
theorem dX6_digest_54 : decode cX6_digest 54 = .ok (.lload_n 1, 1) := by decide +kernel
theorem dX6_digest_55 : decode cX6_digest 55 = .ok (.lmul, 1) := by decide +kernel
theorem dX6_digest_56 : decode cX6_digest 56 = .ok (.aload_n 0, 1) := by decide +kernel
theorem dX6_digest_57 : decode cX6_digest 57 = .ok (.iload_n 3, 1) := by decide +kernel
theorem dX6_digest_58 : decode cX6_digest 58 = .ok (.iload 4, 2) := by decide +kernel
theorem dX6_digest_60 : decode cX6_digest 60 = .ok (.invokevirtual 211, 3) := by decide +kernel
theorem dX6_digest_63 : decode cX6_digest 63 = .ok (.i2l, 1) := by decide +kernel
theorem dX6_digest_64 : decode cX6_digest 64 = .ok (.ladd, 1) := by decide +kernel
theorem dX6_digest_65 : decode cX6_digest 65 = .ok (.lstore_n 1, 1) := by decide +kernel
theorem dX6_digest_66 : decode cX6_digest 66 = .ok (.iinc 4 1, 3) := by decide +kernel
theorem dX6_digest_69 : decode cX6_digest 69 = .ok (.goto (-25), 3) := by decide +kernel
theorem dX6_digest_72 : decode cX6_digest 72 = .ok (.ldc2_w 206, 3) := by decide +kernel
theorem dX6_digest_75 : decode cX6_digest 75 = .ok (.lload_n 1, 1) := by decide +kernel
theorem dX6_digest_76 : decode cX6_digest 76 = .ok (.lmul, 1) := by decide +kernel
theorem dX6_digest_77 : decode cX6_digest 77 = .ok (.aload_n 0, 1) := by decide +kernel
theorem dX6_digest_78 : decode cX6_digest 78 = .ok (.iload_n 3, 1) := by decide +kernel
theorem dX6_digest_79 : decode cX6_digest 79 = .ok (.invokevirtual 214, 3) := by decide +kernel
theorem dX6_digest_82 : decode cX6_digest 82 = .ok (.i2l, 1) := by decide +kernel
theorem dX6_digest_83 : decode cX6_digest 83 = .ok (.ladd, 1) := by decide +kernel
theorem dX6_digest_84 : decode cX6_digest 84 = .ok (.lstore_n 1, 1) := by decide +kernel
theorem dX6_digest_85 : decode cX6_digest 85 = .ok (.iinc 3 1, 3) := by decide +kernel
theorem dX6_digest_88 : decode cX6_digest 88 = .ok (.goto (-55), 3) := by decide +kernel
theorem dX6_digest_91 : decode cX6_digest 91 = .ok (.iconst 0, 1) := by decide +kernel
theorem dX6_digest_92 : decode cX6_digest 92 = .ok (.istore_n 3, 1) := by decide +kernel
theorem dX6_digest_93 : decode cX6_digest 93 = .ok (.iload_n 3, 1) := by decide +kernel
theorem dX6_digest_94 : decode cX6_digest 94 = .ok (.aload_n 0, 1) := by decide +kernel
theorem dX6_digest_95 : decode cX6_digest 95 = .ok (.getfield 64, 3) := by decide +kernel
theorem dX6_digest_98 : decode cX6_digest 98 = .ok (.if_icmp .ge 39, 3) := by decide +kernel
theorem dX6_digest_101 : decode cX6_digest 101 = .ok (.iconst 0, 1) := by decide +kernel
theorem dX6_digest_102 : decode cX6_digest 102 = .ok (.istore 4, 2) := by decide +kernel
theorem dX6_digest_104 : decode cX6_digest 104 = .ok (.iload 4, 2) := by decide +kernel
theorem dX6_digest_106 : decode cX6_digest 106 = .ok (.iconst 3, 1) := by decide +kernel
theorem dX6_digest_107 : decode cX6_digest 107 = .ok (.if_icmp .ge 24, 3) := by decide +kernel
theorem dX6_digest_110 : decode cX6_digest 110 = .ok (.ldc2_w 206, 3) := by decide +kernel
theorem dX6_digest_113 : decode cX6_digest 113 = .ok (.lload_n 1, 1) := by decide +kernel
theorem dX6_digest_114 : decode cX6_digest 114 = .ok (.lmul, 1) := by decide +kernel
theorem dX6_digest_115 : decode cX6_digest 115 = .ok (.aload_n 0, 1) := by decide +kernel
theorem dX6_digest_116 : decode cX6_digest 116 = .ok (.iload_n 3, 1) := by decide +kernel
theorem dX6_digest_117 : decode cX6_digest 117 = .ok (.iload 4, 2) := by decide +kernel
theorem dX6_digest_119 : decode cX6_digest 119 = .ok (.invokevirtual 217, 3) := by decide +kernel
theorem dX6_digest_122 : decode cX6_digest 122 = .ok (.i2l, 1) := by decide +kernel
theorem dX6_digest_123 : decode cX6_digest 123 = .ok (.ladd, 1) := by decide +kernel
theorem dX6_digest_124 : decode cX6_digest 124 = .ok (.lstore_n 1, 1) := by decide +kernel
theorem dX6_digest_125 : decode cX6_digest 125 = .ok (.iinc 4 1, 3) := by decide +kernel
theorem dX6_digest_128 : decode cX6_digest 128 = .ok (.goto (-24), 3) := by decide +kernel
theorem dX6_digest_131 : decode cX6_digest 131 = .ok (.iinc 3 1, 3) := by decide +kernel
theorem dX6_digest_134 : decode cX6_digest 134 = .ok (.goto (-41), 3) := by decide +kernel
theorem dX6_digest_137 : decode cX6_digest 137 = .ok (.lload_n 1, 1) := by decide +kernel
theorem dX6_digest_138 : decode cX6_digest 138 = .ok (.lreturn, 1) := by decide +kernel
