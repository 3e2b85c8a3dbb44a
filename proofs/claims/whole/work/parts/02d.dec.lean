theorem dX9_first_21 : decode cX9_first 21 = .ok (.getfield 75, 3) := by decide +kernel
theorem dX9_first_24 : decode cX9_first 24 = .ok (.iconst 0, 1) := by decide +kernel
theorem dX9_first_25 : decode cX9_first 25 = .ok (.baload, 1) := by decide +kernel
theorem dX9_first_26 : decode cX9_first 26 = .ok (.ifCond .eq 6, 3) := by decide +kernel
theorem dX9_first_29 : decode cX9_first 29 = .ok (.bipush (-9), 2) := by decide +kernel
theorem dX9_first_31 : decode cX9_first 31 = .ok (.ireturn, 1) := by decide +kernel
theorem dX9_first_32 : decode cX9_first 32 = .ok (.aload_n 0, 1) := by decide +kernel
theorem dX9_first_33 : decode cX9_first 33 = .ok (.getfield 69, 3) := by decide +kernel
theorem dX9_first_36 : decode cX9_first 36 = .ok (.iconst 0, 1) := by decide +kernel
theorem dX9_first_37 : decode cX9_first 37 = .ok (.iaload, 1) := by decide +kernel
theorem dX9_first_38 : decode cX9_first 38 = .ok (.iconst 1, 1) := by decide +kernel
theorem dX9_first_39 : decode cX9_first 39 = .ok (.isub, 1) := by decide +kernel
theorem dX9_first_40 : decode cX9_first 40 = .ok (.istore_n 2, 1) := by decide +kernel
theorem dX9_first_41 : decode cX9_first 41 = .ok (.bipush 10, 2) := by decide +kernel
theorem dX9_first_43 : decode cX9_first 43 = .ok (.iload_n 2, 1) := by decide +kernel
theorem dX9_first_44 : decode cX9_first 44 = .ok (.iconst 4, 1) := by decide +kernel
theorem dX9_first_45 : decode cX9_first 45 = .ok (.idiv, 1) := by decide +kernel
theorem dX9_first_46 : decode cX9_first 46 = .ok (.imul, 1) := by decide +kernel
theorem dX9_first_47 : decode cX9_first 47 = .ok (.iload_n 2, 1) := by decide +kernel
theorem dX9_first_48 : decode cX9_first 48 = .ok (.iconst 4, 1) := by decide +kernel
theorem dX9_first_49 : decode cX9_first 49 = .ok (.irem, 1) := by decide +kernel
theorem dX9_first_50 : decode cX9_first 50 = .ok (.iadd, 1) := by decide +kernel
theorem dX9_first_51 : decode cX9_first 51 = .ok (.ireturn, 1) := by decide +kernel
theorem dX9_goRow_0 : decode cX9_goRow 0 = .ok (.iconst 1, 1) := by decide +kernel
theorem dX9_goRow_1 : decode cX9_goRow 1 = .ok (.istore_n 3, 1) := by decide +kernel
theorem dX9_goRow_2 : decode cX9_goRow 2 = .ok (.iconst 1, 1) := by decide +kernel
theorem dX9_goRow_3 : decode cX9_goRow 3 = .ok (.istore 4, 2) := by decide +kernel
theorem dX9_goRow_5 : decode cX9_goRow 5 = .ok (.iload 4, 2) := by decide +kernel
theorem dX9_goRow_7 : decode cX9_goRow 7 = .ok (.iload_n 2, 1) := by decide +kernel
theorem dX9_goRow_8 : decode cX9_goRow 8 = .ok (.if_icmp .ge 18, 3) := by decide +kernel
theorem dX9_goRow_11 : decode cX9_goRow 11 = .ok (.iload_n 3, 1) := by decide +kernel
theorem dX9_goRow_12 : decode cX9_goRow 12 = .ok (.iconst 4, 1) := by decide +kernel
theorem dX9_goRow_13 : decode cX9_goRow 13 = .ok (.aload_n 0, 1) := by decide +kernel
theorem dX9_goRow_14 : decode cX9_goRow 14 = .ok (.getfield 179, 3) := by decide +kernel
theorem dX9_goRow_17 : decode cX9_goRow 17 = .ok (.imul, 1) := by decide +kernel
theorem dX9_goRow_18 : decode cX9_goRow 18 = .ok (.imul, 1) := by decide +kernel
theorem dX9_goRow_19 : decode cX9_goRow 19 = .ok (.istore_n 3, 1) := by decide +kernel
theorem dX9_goRow_20 : decode cX9_goRow 20 = .ok (.iinc 4 1, 3) := by decide +kernel
theorem dX9_goRow_23 : decode cX9_goRow 23 = .ok (.goto (-18), 3) := by decide +kernel
theorem dX9_goRow_26 : decode cX9_goRow 26 = .ok (.aload_n 0, 1) := by decide +kernel
theorem dX9_goRow_27 : decode cX9_goRow 27 = .ok (.getfield 84, 3) := by decide +kernel
theorem dX9_goRow_30 : decode cX9_goRow 30 = .ok (.iconst 0, 1) := by decide +kernel
theorem dX9_goRow_31 : decode cX9_goRow 31 = .ok (.lconst 0, 1) := by decide +kernel
theorem dX9_goRow_32 : decode cX9_goRow 32 = .ok (.lastore, 1) := by decide +kernel
theorem dX9_goRow_33 : decode cX9_goRow 33 = .ok (.iconst 0, 1) := by decide +kernel
theorem dX9_goRow_34 : decode cX9_goRow 34 = .ok (.istore 4, 2) := by decide +kernel
theorem dX9_goRow_36 : decode cX9_goRow 36 = .ok (.iload 4, 2) := by decide +kernel
theorem dX9_goRow_38 : decode cX9_goRow 38 = .ok (.iload_n 2, 1) := by decide +kernel
theorem dX9_goRow_39 : decode cX9_goRow 39 = .ok (.if_icmp .ge 85, 3) := by decide +kernel
theorem dX9_goRow_42 : decode cX9_goRow 42 = .ok (.iload_n 1, 1) := by decide +kernel
theorem dX9_goRow_43 : decode cX9_goRow 43 = .ok (.iload_n 3, 1) := by decide +kernel
theorem dX9_goRow_44 : decode cX9_goRow 44 = .ok (.idiv, 1) := by decide +kernel
theorem dX9_goRow_45 : decode cX9_goRow 45 = .ok (.iconst 4, 1) := by decide +kernel
theorem dX9_goRow_46 : decode cX9_goRow 46 = .ok (.aload_n 0, 1) := by decide +kernel
theorem dX9_goRow_47 : decode cX9_goRow 47 = .ok (.getfield 179, 3) := by decide +kernel
theorem dX9_goRow_50 : decode cX9_goRow 50 = .ok (.imul, 1) := by decide +kernel
theorem dX9_goRow_51 : decode cX9_goRow 51 = .ok (.irem, 1) := by decide +kernel
theorem dX9_goRow_52 : decode cX9_goRow 52 = .ok (.istore 5, 2) := by decide +kernel
theorem dX9_goRow_54 : decode cX9_goRow 54 = .ok (.aload_n 0, 1) := by decide +kernel
theorem dX9_goRow_55 : decode cX9_goRow 55 = .ok (.getfield 87, 3) := by decide +kernel
theorem dX9_goRow_58 : decode cX9_goRow 58 = .ok (.iload 4, 2) := by decide +kernel
theorem dX9_goRow_60 : decode cX9_goRow 60 = .ok (.iload 5, 2) := by decide +kernel
theorem dX9_goRow_62 : decode cX9_goRow 62 = .ok (.iastore, 1) := by decide +kernel
theorem dX9_goRow_63 : decode cX9_goRow 63 = .ok (.aload_n 0, 1) := by decide +kernel
theorem dX9_goRow_64 : decode cX9_goRow 64 = .ok (.iload 5, 2) := by decide +kernel
theorem dX9_goRow_66 : decode cX9_goRow 66 = .ok (.iconst 4, 1) := by decide +kernel
theorem dX9_goRow_67 : decode cX9_goRow 67 = .ok (.idiv, 1) := by decide +kernel
theorem dX9_goRow_68 : decode cX9_goRow 68 = .ok (.iload 5, 2) := by decide +kernel
theorem dX9_goRow_70 : decode cX9_goRow 70 = .ok (.iconst 4, 1) := by decide +kernel
theorem dX9_goRow_71 : decode cX9_goRow 71 = .ok (.irem, 1) := by decide +kernel
theorem dX9_goRow_72 : decode cX9_goRow 72 = .ok (.invokevirtual 221, 3) := by decide +kernel
theorem dX9_goRow_75 : decode cX9_goRow 75 = .ok (.ifCond .ne 5, 3) := by decide +kernel
theorem dX9_goRow_78 : decode cX9_goRow 78 = .ok (.iconst 0, 1) := by decide +kernel
theorem dX9_goRow_79 : decode cX9_goRow 79 = .ok (.ireturn, 1) := by decide +kernel
theorem dX9_goRow_80 : decode cX9_goRow 80 = .ok (.aload_n 0, 1) := by decide +kernel
theorem dX9_goRow_81 : decode cX9_goRow 81 = .ok (.getfield 84, 3) := by decide +kernel
theorem dX9_goRow_84 : decode cX9_goRow 84 = .ok (.iconst 0, 1) := by decide +kernel
theorem dX9_goRow_85 : decode cX9_goRow 85 = .ok (.dup2, 1) := by decide +kernel
theorem dX9_goRow_86 : decode cX9_goRow 86 = .ok (.laload, 1) := by decide +kernel
theorem dX9_goRow_87 : decode cX9_goRow 87 = .ok (.aload_n 0, 1) := by decide +kernel
theorem dX9_goRow_88 : decode cX9_goRow 88 = .ok (.getfield 208, 3) := by decide +kernel
theorem dX9_goRow_91 : decode cX9_goRow 91 = .ok (.lor, 1) := by decide +kernel
theorem dX9_goRow_92 : decode cX9_goRow 92 = .ok (.lastore, 1) := by decide +kernel
theorem dX9_goRow_93 : decode cX9_goRow 93 = .ok (.iload_n 3, 1) := by decide +kernel
theorem dX9_goRow_94 : decode cX9_goRow 94 = .ok (.iconst 4, 1) := by decide +kernel
theorem dX9_goRow_95 : decode cX9_goRow 95 = .ok (.aload_n 0, 1) := by decide +kernel
theorem dX9_goRow_96 : decode cX9_goRow 96 = .ok (.getfield 179, 3) := by decide +kernel
theorem dX9_goRow_99 : decode cX9_goRow 99 = .ok (.imul, 1) := by decide +kernel
theorem dX9_goRow_100 : decode cX9_goRow 100 = .ok (.idiv, 1) := by decide +kernel
theorem dX9_goRow_101 : decode cX9_goRow 101 = .ok (.iconst 1, 1) := by decide +kernel
theorem dX9_goRow_102 : decode cX9_goRow 102 = .ok (.if_icmp .ge 7, 3) := by decide +kernel
theorem dX9_goRow_105 : decode cX9_goRow 105 = .ok (.iconst 1, 1) := by decide +kernel
theorem dX9_goRow_106 : decode cX9_goRow 106 = .ok (.goto 11, 3) := by decide +kernel
theorem dX9_goRow_109 : decode cX9_goRow 109 = .ok (.iload_n 3, 1) := by decide +kernel
theorem dX9_goRow_110 : decode cX9_goRow 110 = .ok (.iconst 4, 1) := by decide +kernel
theorem dX9_goRow_111 : decode cX9_goRow 111 = .ok (.aload_n 0, 1) := by decide +kernel
theorem dX9_goRow_112 : decode cX9_goRow 112 = .ok (.getfield 179, 3) := by decide +kernel
theorem dX9_goRow_115 : decode cX9_goRow 115 = .ok (.imul, 1) := by decide +kernel
theorem dX9_goRow_116 : decode cX9_goRow 116 = .ok (.idiv, 1) := by decide +kernel
theorem dX9_goRow_117 : decode cX9_goRow 117 = .ok (.istore_n 3, 1) := by decide +kernel
theorem dX9_goRow_118 : decode cX9_goRow 118 = .ok (.iinc 4 1, 3) := by decide +kernel
theorem dX9_goRow_121 : decode cX9_goRow 121 = .ok (.goto (-85), 3) := by decide +kernel
theorem dX9_goRow_124 : decode cX9_goRow 124 = .ok (.iconst 1, 1) := by decide +kernel
theorem dX9_goRow_125 : decode cX9_goRow 125 = .ok (.ireturn, 1) := by decide +kernel
theorem dX9_rows_0 : decode cX9_rows 0 = .ok (.iload_n 1, 1) := by decide +kernel
theorem dX9_rows_1 : decode cX9_rows 1 = .ok (.i2l, 1) := by decide +kernel
theorem dX9_rows_2 : decode cX9_rows 2 = .ok (.lconst 1, 1) := by decide +kernel
theorem dX9_rows_3 : decode cX9_rows 3 = .ok (.ldc2_w 138, 3) := by decide +kernel
theorem dX9_rows_6 : decode cX9_rows 6 = .ok (.invokestatic 142, 3) := by decide +kernel
theorem dX9_rows_9 : decode cX9_rows 9 = .ok (.ifCond .eq 20, 3) := by decide +kernel
theorem dX9_rows_12 : decode cX9_rows 12 = .ok (.lload_n 2, 1) := by decide +kernel
theorem dX9_rows_13 : decode cX9_rows 13 = .ok (.lconst 0, 1) := by decide +kernel
theorem dX9_rows_14 : decode cX9_rows 14 = .ok (.lcmp, 1) := by decide +kernel
theorem dX9_rows_15 : decode cX9_rows 15 = .ok (.ifCond .lt 14, 3) := by decide +kernel
theorem dX9_rows_18 : decode cX9_rows 18 = .ok (.lload_n 2, 1) := by decide +kernel
theorem dX9_rows_19 : decode cX9_rows 19 = .ok (.aload_n 0, 1) := by decide +kernel
theorem dX9_rows_20 : decode cX9_rows 20 = .ok (.invokevirtual 182, 3) := by decide +kernel
theorem dX9_rows_23 : decode cX9_rows 23 = .ok (.lshr, 1) := by decide +kernel
theorem dX9_rows_24 : decode cX9_rows 24 = .ok (.lconst 0, 1) := by decide +kernel
theorem dX9_rows_25 : decode cX9_rows 25 = .ok (.lcmp, 1) := by decide +kernel
theorem dX9_rows_26 : decode cX9_rows 26 = .ok (.ifCond .eq 6, 3) := by decide +kernel
theorem dX9_rows_29 : decode cX9_rows 29 = .ok (.bipush (-2), 2) := by decide +kernel
theorem dX9_rows_31 : decode cX9_rows 31 = .ok (.ireturn, 1) := by decide +kernel
theorem dX9_rows_32 : decode cX9_rows 32 = .ok (.iload 4, 2) := by decide +kernel
theorem dX9_rows_34 : decode cX9_rows 34 = .ok (.i2l, 1) := by decide +kernel
theorem dX9_rows_35 : decode cX9_rows 35 = .ok (.ldc2_w 297, 3) := by decide +kernel
theorem dX9_rows_38 : decode cX9_rows 38 = .ok (.iload_n 1, 1) := by decide +kernel
theorem dX9_rows_39 : decode cX9_rows 39 = .ok (.i2l, 1) := by decide +kernel
theorem dX9_rows_40 : decode cX9_rows 40 = .ok (.lconst 1, 1) := by decide +kernel
theorem dX9_rows_41 : decode cX9_rows 41 = .ok (.lsub, 1) := by decide +kernel
theorem dX9_rows_42 : decode cX9_rows 42 = .ok (.invokestatic 142, 3) := by decide +kernel
theorem dX9_rows_45 : decode cX9_rows 45 = .ok (.ifCond .ne 5, 3) := by decide +kernel
theorem dX9_rows_48 : decode cX9_rows 48 = .ok (.iconst (-1), 1) := by decide +kernel
theorem dX9_rows_49 : decode cX9_rows 49 = .ok (.ireturn, 1) := by decide +kernel
theorem dX9_rows_50 : decode cX9_rows 50 = .ok (.iconst 1, 1) := by decide +kernel
theorem dX9_rows_51 : decode cX9_rows 51 = .ok (.istore 5, 2) := by decide +kernel
theorem dX9_rows_53 : decode cX9_rows 53 = .ok (.iconst 0, 1) := by decide +kernel
theorem dX9_rows_54 : decode cX9_rows 54 = .ok (.istore 6, 2) := by decide +kernel
theorem dX9_rows_56 : decode cX9_rows 56 = .ok (.iload 6, 2) := by decide +kernel
theorem dX9_rows_58 : decode cX9_rows 58 = .ok (.iload_n 1, 1) := by decide +kernel
theorem dX9_rows_59 : decode cX9_rows 59 = .ok (.if_icmp .ge 20, 3) := by decide +kernel
theorem dX9_rows_62 : decode cX9_rows 62 = .ok (.iload 5, 2) := by decide +kernel
theorem dX9_rows_64 : decode cX9_rows 64 = .ok (.iconst 4, 1) := by decide +kernel
theorem dX9_rows_65 : decode cX9_rows 65 = .ok (.aload_n 0, 1) := by decide +kernel
theorem dX9_rows_66 : decode cX9_rows 66 = .ok (.getfield 179, 3) := by decide +kernel
theorem dX9_rows_69 : decode cX9_rows 69 = .ok (.imul, 1) := by decide +kernel
theorem dX9_rows_70 : decode cX9_rows 70 = .ok (.imul, 1) := by decide +kernel
theorem dX9_rows_71 : decode cX9_rows 71 = .ok (.istore 5, 2) := by decide +kernel
theorem dX9_rows_73 : decode cX9_rows 73 = .ok (.iinc 6 1, 3) := by decide +kernel
theorem dX9_rows_76 : decode cX9_rows 76 = .ok (.goto (-20), 3) := by decide +kernel
theorem dX9_rows_79 : decode cX9_rows 79 = .ok (.aload_n 0, 1) := by decide +kernel
theorem dX9_rows_80 : decode cX9_rows 80 = .ok (.iconst 0, 1) := by decide +kernel
theorem dX9_rows_81 : decode cX9_rows 81 = .ok (.invokevirtual 217, 3) := by decide +kernel
theorem dX9_rows_84 : decode cX9_rows 84 = .ok (.iconst 0, 1) := by decide +kernel
theorem dX9_rows_85 : decode cX9_rows 85 = .ok (.istore 6, 2) := by decide +kernel
theorem dX9_rows_87 : decode cX9_rows 87 = .ok (.iconst 0, 1) := by decide +kernel
theorem dX9_rows_88 : decode cX9_rows 88 = .ok (.istore 7, 2) := by decide +kernel
theorem dX9_rows_90 : decode cX9_rows 90 = .ok (.iload 7, 2) := by decide +kernel
theorem dX9_rows_92 : decode cX9_rows 92 = .ok (.iload 5, 2) := by decide +kernel
theorem dX9_rows_94 : decode cX9_rows 94 = .ok (.if_icmp .ge 72, 3) := by decide +kernel
theorem dX9_rows_97 : decode cX9_rows 97 = .ok (.aload_n 0, 1) := by decide +kernel
theorem dX9_rows_98 : decode cX9_rows 98 = .ok (.iconst 0, 1) := by decide +kernel
theorem dX9_rows_99 : decode cX9_rows 99 = .ok (.invokevirtual 227, 3) := by decide +kernel
theorem dX9_rows_102 : decode cX9_rows 102 = .ok (.aload_n 0, 1) := by decide +kernel
theorem dX9_rows_103 : decode cX9_rows 103 = .ok (.iload 7, 2) := by decide +kernel
theorem dX9_rows_105 : decode cX9_rows 105 = .ok (.iload_n 1, 1) := by decide +kernel
theorem dX9_rows_106 : decode cX9_rows 106 = .ok (.invokevirtual 299, 3) := by decide +kernel
theorem dX9_rows_109 : decode cX9_rows 109 = .ok (.ifCond .eq 51, 3) := by decide +kernel
theorem dX9_rows_112 : decode cX9_rows 112 = .ok (.aload_n 0, 1) := by decide +kernel
theorem dX9_rows_113 : decode cX9_rows 113 = .ok (.getfield 84, 3) := by decide +kernel
theorem dX9_rows_116 : decode cX9_rows 116 = .ok (.iconst 0, 1) := by decide +kernel
theorem dX9_rows_117 : decode cX9_rows 117 = .ok (.laload, 1) := by decide +kernel
theorem dX9_rows_118 : decode cX9_rows 118 = .ok (.lload_n 2, 1) := by decide +kernel
theorem dX9_rows_119 : decode cX9_rows 119 = .ok (.lcmp, 1) := by decide +kernel
theorem dX9_rows_120 : decode cX9_rows 120 = .ok (.ifCond .ne 40, 3) := by decide +kernel
theorem dX9_rows_123 : decode cX9_rows 123 = .ok (.iload 6, 2) := by decide +kernel
theorem dX9_rows_125 : decode cX9_rows 125 = .ok (.ifCond .ne 32, 3) := by decide +kernel
theorem dX9_rows_128 : decode cX9_rows 128 = .ok (.iconst 0, 1) := by decide +kernel
theorem dX9_rows_129 : decode cX9_rows 129 = .ok (.istore 8, 2) := by decide +kernel
theorem dX9_rows_131 : decode cX9_rows 131 = .ok (.iload 8, 2) := by decide +kernel
theorem dX9_rows_133 : decode cX9_rows 133 = .ok (.iload_n 1, 1) := by decide +kernel
theorem dX9_rows_134 : decode cX9_rows 134 = .ok (.if_icmp .ge 23, 3) := by decide +kernel
theorem dX9_rows_137 : decode cX9_rows 137 = .ok (.aload_n 0, 1) := by decide +kernel
theorem dX9_rows_138 : decode cX9_rows 138 = .ok (.getfield 90, 3) := by decide +kernel
theorem dX9_rows_141 : decode cX9_rows 141 = .ok (.iload 8, 2) := by decide +kernel
theorem dX9_rows_143 : decode cX9_rows 143 = .ok (.aload_n 0, 1) := by decide +kernel
theorem dX9_rows_144 : decode cX9_rows 144 = .ok (.getfield 87, 3) := by decide +kernel
theorem dX9_rows_147 : decode cX9_rows 147 = .ok (.iload 8, 2) := by decide +kernel
theorem dX9_rows_149 : decode cX9_rows 149 = .ok (.iaload, 1) := by decide +kernel
theorem dX9_rows_150 : decode cX9_rows 150 = .ok (.iastore, 1) := by decide +kernel
theorem dX9_rows_151 : decode cX9_rows 151 = .ok (.iinc 8 1, 3) := by decide +kernel
theorem dX9_rows_154 : decode cX9_rows 154 = .ok (.goto (-23), 3) := by decide +kernel
theorem dX9_rows_157 : decode cX9_rows 157 = .ok (.iinc 6 1, 3) := by decide +kernel
theorem dX9_rows_160 : decode cX9_rows 160 = .ok (.iinc 7 1, 3) := by decide +kernel
theorem dX9_rows_163 : decode cX9_rows 163 = .ok (.goto (-73), 3) := by decide +kernel
theorem dX9_rows_166 : decode cX9_rows 166 = .ok (.aload_n 0, 1) := by decide +kernel
theorem dX9_rows_167 : decode cX9_rows 167 = .ok (.iconst 0, 1) := by decide +kernel
theorem dX9_rows_168 : decode cX9_rows 168 = .ok (.invokevirtual 227, 3) := by decide +kernel
theorem dX9_rows_171 : decode cX9_rows 171 = .ok (.iload 4, 2) := by decide +kernel
theorem dX9_rows_173 : decode cX9_rows 173 = .ok (.ifCond .ge 8, 3) := by decide +kernel
theorem dX9_rows_176 : decode cX9_rows 176 = .ok (.iload 6, 2) := by decide +kernel
theorem dX9_rows_178 : decode cX9_rows 178 = .ok (.goto 35, 3) := by decide +kernel
theorem dX9_rows_181 : decode cX9_rows 181 = .ok (.iload 6, 2) := by decide +kernel
theorem dX9_rows_183 : decode cX9_rows 183 = .ok (.ifCond .ne 8, 3) := by decide +kernel
theorem dX9_rows_186 : decode cX9_rows 186 = .ok (.bipush (-9), 2) := by decide +kernel
theorem dX9_rows_188 : decode cX9_rows 188 = .ok (.goto 25, 3) := by decide +kernel
theorem dX9_rows_191 : decode cX9_rows 191 = .ok (.bipush 10, 2) := by decide +kernel
theorem dX9_rows_193 : decode cX9_rows 193 = .ok (.aload_n 0, 1) := by decide +kernel
theorem dX9_rows_194 : decode cX9_rows 194 = .ok (.getfield 90, 3) := by decide +kernel
theorem dX9_rows_197 : decode cX9_rows 197 = .ok (.iload 4, 2) := by decide +kernel
theorem dX9_rows_199 : decode cX9_rows 199 = .ok (.iaload, 1) := by decide +kernel
theorem dX9_rows_200 : decode cX9_rows 200 = .ok (.iconst 4, 1) := by decide +kernel
theorem dX9_rows_201 : decode cX9_rows 201 = .ok (.idiv, 1) := by decide +kernel
theorem dX9_rows_202 : decode cX9_rows 202 = .ok (.imul, 1) := by decide +kernel
theorem dX9_rows_203 : decode cX9_rows 203 = .ok (.aload_n 0, 1) := by decide +kernel
theorem dX9_rows_204 : decode cX9_rows 204 = .ok (.getfield 90, 3) := by decide +kernel
theorem dX9_rows_207 : decode cX9_rows 207 = .ok (.iload 4, 2) := by decide +kernel
theorem dX9_rows_209 : decode cX9_rows 209 = .ok (.iaload, 1) := by decide +kernel
theorem dX9_rows_210 : decode cX9_rows 210 = .ok (.iconst 4, 1) := by decide +kernel
theorem dX9_rows_211 : decode cX9_rows 211 = .ok (.irem, 1) := by decide +kernel
theorem dX9_rows_212 : decode cX9_rows 212 = .ok (.iadd, 1) := by decide +kernel
theorem dX9_rows_213 : decode cX9_rows 213 = .ok (.ireturn, 1) := by decide +kernel
theorem dX9_comesHome_0 : decode cX9_comesHome 0 = .ok (.iconst 0, 1) := by decide +kernel
theorem dX9_comesHome_1 : decode cX9_comesHome 1 = .ok (.istore 4, 2) := by decide +kernel
theorem dX9_comesHome_3 : decode cX9_comesHome 3 = .ok (.iconst 0, 1) := by decide +kernel
theorem dX9_comesHome_4 : decode cX9_comesHome 4 = .ok (.istore 5, 2) := by decide +kernel
theorem dX9_comesHome_6 : decode cX9_comesHome 6 = .ok (.iload 5, 2) := by decide +kernel
theorem dX9_comesHome_8 : decode cX9_comesHome 8 = .ok (.iconst 4, 1) := by decide +kernel
theorem dX9_comesHome_9 : decode cX9_comesHome 9 = .ok (.aload_n 0, 1) := by decide +kernel
theorem dX9_comesHome_10 : decode cX9_comesHome 10 = .ok (.getfield 179, 3) := by decide +kernel
theorem dX9_comesHome_13 : decode cX9_comesHome 13 = .ok (.imul, 1) := by decide +kernel
theorem dX9_comesHome_14 : decode cX9_comesHome 14 = .ok (.if_icmp .ge 129, 3) := by decide +kernel
theorem dX9_comesHome_17 : decode cX9_comesHome 17 = .ok (.iload 4, 2) := by decide +kernel
theorem dX9_comesHome_19 : decode cX9_comesHome 19 = .ok (.ifCond .ne 124, 3) := by decide +kernel
theorem dX9_comesHome_22 : decode cX9_comesHome 22 = .ok (.aload_n 0, 1) := by decide +kernel
theorem dX9_comesHome_23 : decode cX9_comesHome 23 = .ok (.iconst 0, 1) := by decide +kernel
theorem dX9_comesHome_24 : decode cX9_comesHome 24 = .ok (.invokevirtual 227, 3) := by decide +kernel
theorem dX9_comesHome_27 : decode cX9_comesHome 27 = .ok (.aload_n 0, 1) := by decide +kernel
theorem dX9_comesHome_28 : decode cX9_comesHome 28 = .ok (.iload 5, 2) := by decide +kernel
theorem dX9_comesHome_30 : decode cX9_comesHome 30 = .ok (.iconst 4, 1) := by decide +kernel
theorem dX9_comesHome_31 : decode cX9_comesHome 31 = .ok (.idiv, 1) := by decide +kernel
theorem dX9_comesHome_32 : decode cX9_comesHome 32 = .ok (.iload 5, 2) := by decide +kernel
theorem dX9_comesHome_34 : decode cX9_comesHome 34 = .ok (.iconst 4, 1) := by decide +kernel
theorem dX9_comesHome_35 : decode cX9_comesHome 35 = .ok (.irem, 1) := by decide +kernel
theorem dX9_comesHome_36 : decode cX9_comesHome 36 = .ok (.invokevirtual 221, 3) := by decide +kernel
theorem dX9_comesHome_39 : decode cX9_comesHome 39 = .ok (.ifCond .eq 98, 3) := by decide +kernel
theorem dX9_comesHome_42 : decode cX9_comesHome 42 = .ok (.aload_n 0, 1) := by decide +kernel
theorem dX9_comesHome_43 : decode cX9_comesHome 43 = .ok (.getfield 19, 3) := by decide +kernel
theorem dX9_comesHome_46 : decode cX9_comesHome 46 = .ok (.iload_n 1, 1) := by decide +kernel
theorem dX9_comesHome_47 : decode cX9_comesHome 47 = .ok (.iaload, 1) := by decide +kernel
theorem dX9_comesHome_48 : decode cX9_comesHome 48 = .ok (.bipush (-20), 2) := by decide +kernel
theorem dX9_comesHome_50 : decode cX9_comesHome 50 = .ok (.iload_n 2, 1) := by decide +kernel
theorem dX9_comesHome_51 : decode cX9_comesHome 51 = .ok (.isub, 1) := by decide +kernel
theorem dX9_comesHome_52 : decode cX9_comesHome 52 = .ok (.if_icmp .ne 7, 3) := by decide +kernel
theorem dX9_comesHome_55 : decode cX9_comesHome 55 = .ok (.iconst 1, 1) := by decide +kernel
theorem dX9_comesHome_56 : decode cX9_comesHome 56 = .ok (.goto 4, 3) := by decide +kernel
theorem dX9_comesHome_59 : decode cX9_comesHome 59 = .ok (.iconst 0, 1) := by decide +kernel
theorem dX9_comesHome_60 : decode cX9_comesHome 60 = .ok (.istore 4, 2) := by decide +kernel
theorem dX9_comesHome_62 : decode cX9_comesHome 62 = .ok (.aload_n 0, 1) := by decide +kernel
theorem dX9_comesHome_63 : decode cX9_comesHome 63 = .ok (.iconst 1, 1) := by decide +kernel
theorem dX9_comesHome_64 : decode cX9_comesHome 64 = .ok (.invokevirtual 217, 3) := by decide +kernel
theorem dX9_comesHome_67 : decode cX9_comesHome 67 = .ok (.iconst 0, 1) := by decide +kernel
theorem dX9_comesHome_68 : decode cX9_comesHome 68 = .ok (.istore 6, 2) := by decide +kernel
theorem dX9_comesHome_70 : decode cX9_comesHome 70 = .ok (.iload 6, 2) := by decide +kernel
theorem dX9_comesHome_72 : decode cX9_comesHome 72 = .ok (.iconst 4, 1) := by decide +kernel
theorem dX9_comesHome_73 : decode cX9_comesHome 73 = .ok (.aload_n 0, 1) := by decide +kernel
theorem dX9_comesHome_74 : decode cX9_comesHome 74 = .ok (.getfield 179, 3) := by decide +kernel
theorem dX9_comesHome_77 : decode cX9_comesHome 77 = .ok (.imul, 1) := by decide +kernel
theorem dX9_comesHome_78 : decode cX9_comesHome 78 = .ok (.if_icmp .ge 59, 3) := by decide +kernel
theorem dX9_comesHome_81 : decode cX9_comesHome 81 = .ok (.iload 4, 2) := by decide +kernel
theorem dX9_comesHome_83 : decode cX9_comesHome 83 = .ok (.ifCond .ne 54, 3) := by decide +kernel
theorem dX9_comesHome_86 : decode cX9_comesHome 86 = .ok (.iload_n 3, 1) := by decide +kernel
theorem dX9_comesHome_87 : decode cX9_comesHome 87 = .ok (.iconst 2, 1) := by decide +kernel
theorem dX9_comesHome_88 : decode cX9_comesHome 88 = .ok (.if_icmp .ne 49, 3) := by decide +kernel
theorem dX9_comesHome_91 : decode cX9_comesHome 91 = .ok (.aload_n 0, 1) := by decide +kernel
theorem dX9_comesHome_92 : decode cX9_comesHome 92 = .ok (.iconst 1, 1) := by decide +kernel
theorem dX9_comesHome_93 : decode cX9_comesHome 93 = .ok (.invokevirtual 227, 3) := by decide +kernel
theorem dX9_comesHome_96 : decode cX9_comesHome 96 = .ok (.aload_n 0, 1) := by decide +kernel
theorem dX9_comesHome_97 : decode cX9_comesHome 97 = .ok (.iload 6, 2) := by decide +kernel
theorem dX9_comesHome_99 : decode cX9_comesHome 99 = .ok (.iconst 4, 1) := by decide +kernel
theorem dX9_comesHome_100 : decode cX9_comesHome 100 = .ok (.idiv, 1) := by decide +kernel
theorem dX9_comesHome_101 : decode cX9_comesHome 101 = .ok (.iload 6, 2) := by decide +kernel
theorem dX9_comesHome_103 : decode cX9_comesHome 103 = .ok (.iconst 4, 1) := by decide +kernel
theorem dX9_comesHome_104 : decode cX9_comesHome 104 = .ok (.irem, 1) := by decide +kernel
theorem dX9_comesHome_105 : decode cX9_comesHome 105 = .ok (.invokevirtual 221, 3) := by decide +kernel
theorem dX9_comesHome_108 : decode cX9_comesHome 108 = .ok (.ifCond .eq 20, 3) := by decide +kernel
theorem dX9_comesHome_111 : decode cX9_comesHome 111 = .ok (.aload_n 0, 1) := by decide +kernel
theorem dX9_comesHome_112 : decode cX9_comesHome 112 = .ok (.getfield 19, 3) := by decide +kernel
theorem dX9_comesHome_115 : decode cX9_comesHome 115 = .ok (.iload_n 1, 1) := by decide +kernel
theorem dX9_comesHome_116 : decode cX9_comesHome 116 = .ok (.iaload, 1) := by decide +kernel
theorem dX9_comesHome_117 : decode cX9_comesHome 117 = .ok (.bipush (-20), 2) := by decide +kernel
theorem dX9_comesHome_119 : decode cX9_comesHome 119 = .ok (.iload_n 2, 1) := by decide +kernel
theorem dX9_comesHome_120 : decode cX9_comesHome 120 = .ok (.isub, 1) := by decide +kernel
theorem dX9_comesHome_121 : decode cX9_comesHome 121 = .ok (.if_icmp .ne 7, 3) := by decide +kernel
theorem dX9_comesHome_124 : decode cX9_comesHome 124 = .ok (.iconst 1, 1) := by decide +kernel
theorem dX9_comesHome_125 : decode cX9_comesHome 125 = .ok (.goto 4, 3) := by decide +kernel
theorem dX9_comesHome_128 : decode cX9_comesHome 128 = .ok (.iconst 0, 1) := by decide +kernel
theorem dX9_comesHome_129 : decode cX9_comesHome 129 = .ok (.istore 4, 2) := by decide +kernel
theorem dX9_comesHome_131 : decode cX9_comesHome 131 = .ok (.iinc 6 1, 3) := by decide +kernel
theorem dX9_comesHome_134 : decode cX9_comesHome 134 = .ok (.goto (-64), 3) := by decide +kernel
theorem dX9_comesHome_137 : decode cX9_comesHome 137 = .ok (.iinc 5 1, 3) := by decide +kernel
theorem dX9_comesHome_140 : decode cX9_comesHome 140 = .ok (.goto (-134), 3) := by decide +kernel
theorem dX9_comesHome_143 : decode cX9_comesHome 143 = .ok (.aload_n 0, 1) := by decide +kernel
theorem dX9_comesHome_144 : decode cX9_comesHome 144 = .ok (.iconst 0, 1) := by decide +kernel
theorem dX9_comesHome_145 : decode cX9_comesHome 145 = .ok (.invokevirtual 227, 3) := by decide +kernel
theorem dX9_comesHome_148 : decode cX9_comesHome 148 = .ok (.iload 4, 2) := by decide +kernel
theorem dX9_comesHome_150 : decode cX9_comesHome 150 = .ok (.ireturn, 1) := by decide +kernel
theorem dX9_maySand_0 : decode cX9_maySand 0 = .ok (.aload_n 0, 1) := by decide +kernel
theorem dX9_maySand_1 : decode cX9_maySand 1 = .ok (.getfield 7, 3) := by decide +kernel
theorem dX9_maySand_4 : decode cX9_maySand 4 = .ok (.iload_n 1, 1) := by decide +kernel
theorem dX9_maySand_5 : decode cX9_maySand 5 = .ok (.iaload, 1) := by decide +kernel
theorem dX9_maySand_6 : decode cX9_maySand 6 = .ok (.ifCond .ne 15, 3) := by decide +kernel
theorem dX9_maySand_9 : decode cX9_maySand 9 = .ok (.aload_n 0, 1) := by decide +kernel
theorem dX9_maySand_10 : decode cX9_maySand 10 = .ok (.iload_n 1, 1) := by decide +kernel
theorem dX9_maySand_11 : decode cX9_maySand 11 = .ok (.invokevirtual 196, 3) := by decide +kernel
theorem dX9_maySand_14 : decode cX9_maySand 14 = .ok (.ifCond .ge 7, 3) := by decide +kernel
theorem dX9_maySand_17 : decode cX9_maySand 17 = .ok (.iconst 1, 1) := by decide +kernel
theorem dX9_maySand_18 : decode cX9_maySand 18 = .ok (.goto 4, 3) := by decide +kernel
theorem dX9_maySand_21 : decode cX9_maySand 21 = .ok (.iconst 0, 1) := by decide +kernel
theorem dX9_maySand_22 : decode cX9_maySand 22 = .ok (.ireturn, 1) := by decide +kernel
theorem dX9_sand_0 : decode cX9_sand 0 = .ok (.aload_n 0, 1) := by decide +kernel
theorem dX9_sand_1 : decode cX9_sand 1 = .ok (.iload_n 1, 1) := by decide +kernel
theorem dX9_sand_2 : decode cX9_sand 2 = .ok (.invokevirtual 202, 3) := by decide +kernel
theorem dX9_sand_5 : decode cX9_sand 5 = .ok (.ifCond .ne 26, 3) := by decide +kernel
theorem dX9_sand_8 : decode cX9_sand 8 = .ok (.iload_n 2, 1) := by decide +kernel
theorem dX9_sand_9 : decode cX9_sand 9 = .ok (.i2l, 1) := by decide +kernel
theorem dX9_sand_10 : decode cX9_sand 10 = .ok (.lconst 0, 1) := by decide +kernel
theorem dX9_sand_11 : decode cX9_sand 11 = .ok (.lconst 1, 1) := by decide +kernel
theorem dX9_sand_12 : decode cX9_sand 12 = .ok (.invokestatic 142, 3) := by decide +kernel
theorem dX9_sand_15 : decode cX9_sand 15 = .ok (.ifCond .eq 16, 3) := by decide +kernel
theorem dX9_sand_18 : decode cX9_sand 18 = .ok (.iload 4, 2) := by decide +kernel
theorem dX9_sand_20 : decode cX9_sand 20 = .ok (.i2l, 1) := by decide +kernel
theorem dX9_sand_21 : decode cX9_sand 21 = .ok (.ldc2_w 297, 3) := by decide +kernel
theorem dX9_sand_24 : decode cX9_sand 24 = .ok (.lconst 1, 1) := by decide +kernel
theorem dX9_sand_25 : decode cX9_sand 25 = .ok (.invokestatic 142, 3) := by decide +kernel
theorem dX9_sand_28 : decode cX9_sand 28 = .ok (.ifCond .ne 5, 3) := by decide +kernel
theorem dX9_sand_31 : decode cX9_sand 31 = .ok (.iconst (-1), 1) := by decide +kernel
theorem dX9_sand_32 : decode cX9_sand 32 = .ok (.ireturn, 1) := by decide +kernel
theorem dX9_sand_33 : decode cX9_sand 33 = .ok (.iload_n 3, 1) := by decide +kernel
theorem dX9_sand_34 : decode cX9_sand 34 = .ok (.i2l, 1) := by decide +kernel
theorem dX9_sand_35 : decode cX9_sand 35 = .ok (.lconst 1, 1) := by decide +kernel
theorem dX9_sand_36 : decode cX9_sand 36 = .ok (.ldc2_w 166, 3) := by decide +kernel
theorem dX9_sand_39 : decode cX9_sand 39 = .ok (.invokestatic 142, 3) := by decide +kernel
theorem dX9_sand_42 : decode cX9_sand 42 = .ok (.ifCond .ne 6, 3) := by decide +kernel
theorem dX9_sand_45 : decode cX9_sand 45 = .ok (.bipush (-2), 2) := by decide +kernel
theorem dX9_sand_47 : decode cX9_sand 47 = .ok (.ireturn, 1) := by decide +kernel
theorem dX9_sand_48 : decode cX9_sand 48 = .ok (.aload_n 0, 1) := by decide +kernel
theorem dX9_sand_49 : decode cX9_sand 49 = .ok (.getfield 19, 3) := by decide +kernel
theorem dX9_sand_52 : decode cX9_sand 52 = .ok (.iload_n 1, 1) := by decide +kernel
theorem dX9_sand_53 : decode cX9_sand 53 = .ok (.iaload, 1) := by decide +kernel
theorem dX9_sand_54 : decode cX9_sand 54 = .ok (.ifCond .ge 6, 3) := by decide +kernel
theorem dX9_sand_57 : decode cX9_sand 57 = .ok (.bipush (-9), 2) := by decide +kernel
theorem dX9_sand_59 : decode cX9_sand 59 = .ok (.ireturn, 1) := by decide +kernel
theorem dX9_sand_60 : decode cX9_sand 60 = .ok (.aload_n 0, 1) := by decide +kernel
theorem dX9_sand_61 : decode cX9_sand 61 = .ok (.iconst 0, 1) := by decide +kernel
theorem dX9_sand_62 : decode cX9_sand 62 = .ok (.invokevirtual 217, 3) := by decide +kernel
theorem dX9_sand_65 : decode cX9_sand 65 = .ok (.bipush (-9), 2) := by decide +kernel
theorem dX9_sand_67 : decode cX9_sand 67 = .ok (.istore 5, 2) := by decide +kernel
theorem dX9_sand_69 : decode cX9_sand 69 = .ok (.bipush (-9), 2) := by decide +kernel
theorem dX9_sand_71 : decode cX9_sand 71 = .ok (.istore 6, 2) := by decide +kernel
theorem dX9_sand_73 : decode cX9_sand 73 = .ok (.bipush (-9), 2) := by decide +kernel
theorem dX9_sand_75 : decode cX9_sand 75 = .ok (.istore 7, 2) := by decide +kernel
theorem dX9_sand_77 : decode cX9_sand 77 = .ok (.aload_n 0, 1) := by decide +kernel
theorem dX9_sand_78 : decode cX9_sand 78 = .ok (.iload_n 1, 1) := by decide +kernel
theorem dX9_sand_79 : decode cX9_sand 79 = .ok (.iload_n 2, 1) := by decide +kernel
theorem dX9_sand_80 : decode cX9_sand 80 = .ok (.iload_n 3, 1) := by decide +kernel
theorem dX9_sand_81 : decode cX9_sand 81 = .ok (.invokevirtual 302, 3) := by decide +kernel
theorem dX9_sand_84 : decode cX9_sand 84 = .ok (.ifCond .eq 6, 3) := by decide +kernel
theorem dX9_sand_87 : decode cX9_sand 87 = .ok (.iconst 0, 1) := by decide +kernel
theorem dX9_sand_88 : decode cX9_sand 88 = .ok (.istore 5, 2) := by decide +kernel
theorem dX9_sand_90 : decode cX9_sand 90 = .ok (.iconst 0, 1) := by decide +kernel
theorem dX9_sand_91 : decode cX9_sand 91 = .ok (.istore 8, 2) := by decide +kernel
theorem dX9_sand_93 : decode cX9_sand 93 = .ok (.iload 8, 2) := by decide +kernel
theorem dX9_sand_95 : decode cX9_sand 95 = .ok (.aload_n 0, 1) := by decide +kernel
theorem dX9_sand_96 : decode cX9_sand 96 = .ok (.invokevirtual 182, 3) := by decide +kernel
theorem dX9_sand_99 : decode cX9_sand 99 = .ok (.if_icmp .ge 53, 3) := by decide +kernel
theorem dX9_sand_102 : decode cX9_sand 102 = .ok (.iload 5, 2) := by decide +kernel
theorem dX9_sand_104 : decode cX9_sand 104 = .ok (.ifCond .ge 48, 3) := by decide +kernel
theorem dX9_sand_107 : decode cX9_sand 107 = .ok (.aload_n 0, 1) := by decide +kernel
theorem dX9_sand_108 : decode cX9_sand 108 = .ok (.iload 8, 2) := by decide +kernel
theorem dX9_sand_110 : decode cX9_sand 110 = .ok (.invokevirtual 305, 3) := by decide +kernel
theorem dX9_sand_113 : decode cX9_sand 113 = .ok (.ifCond .eq 33, 3) := by decide +kernel
theorem dX9_sand_116 : decode cX9_sand 116 = .ok (.aload_n 0, 1) := by decide +kernel
theorem dX9_sand_117 : decode cX9_sand 117 = .ok (.lconst 1, 1) := by decide +kernel
theorem dX9_sand_118 : decode cX9_sand 118 = .ok (.iload 8, 2) := by decide +kernel
theorem dX9_sand_120 : decode cX9_sand 120 = .ok (.lshl, 1) := by decide +kernel
theorem dX9_sand_121 : decode cX9_sand 121 = .ok (.putfield 190, 3) := by decide +kernel
theorem dX9_sand_124 : decode cX9_sand 124 = .ok (.aload_n 0, 1) := by decide +kernel
theorem dX9_sand_125 : decode cX9_sand 125 = .ok (.iload_n 1, 1) := by decide +kernel
theorem dX9_sand_126 : decode cX9_sand 126 = .ok (.iload_n 2, 1) := by decide +kernel
theorem dX9_sand_127 : decode cX9_sand 127 = .ok (.iload_n 3, 1) := by decide +kernel
theorem dX9_sand_128 : decode cX9_sand 128 = .ok (.invokevirtual 302, 3) := by decide +kernel
theorem dX9_sand_131 : decode cX9_sand 131 = .ok (.ifCond .eq 10, 3) := by decide +kernel
theorem dX9_sand_134 : decode cX9_sand 134 = .ok (.iconst 1, 1) := by decide +kernel
theorem dX9_sand_135 : decode cX9_sand 135 = .ok (.istore 5, 2) := by decide +kernel
theorem dX9_sand_137 : decode cX9_sand 137 = .ok (.iload 8, 2) := by decide +kernel
theorem dX9_sand_139 : decode cX9_sand 139 = .ok (.istore 6, 2) := by decide +kernel
theorem dX9_sand_141 : decode cX9_sand 141 = .ok (.aload_n 0, 1) := by decide +kernel
theorem dX9_sand_142 : decode cX9_sand 142 = .ok (.lconst 0, 1) := by decide +kernel
theorem dX9_sand_143 : decode cX9_sand 143 = .ok (.putfield 190, 3) := by decide +kernel
theorem dX9_sand_146 : decode cX9_sand 146 = .ok (.iinc 8 1, 3) := by decide +kernel
theorem dX9_sand_149 : decode cX9_sand 149 = .ok (.goto (-56), 3) := by decide +kernel
theorem dX9_sand_152 : decode cX9_sand 152 = .ok (.iconst 0, 1) := by decide +kernel
theorem dX9_sand_153 : decode cX9_sand 153 = .ok (.istore 8, 2) := by decide +kernel
theorem dX9_sand_155 : decode cX9_sand 155 = .ok (.iload 8, 2) := by decide +kernel
theorem dX9_sand_157 : decode cX9_sand 157 = .ok (.aload_n 0, 1) := by decide +kernel
theorem dX9_sand_158 : decode cX9_sand 158 = .ok (.invokevirtual 182, 3) := by decide +kernel
theorem dX9_sand_161 : decode cX9_sand 161 = .ok (.if_icmp .ge 97, 3) := by decide +kernel
theorem dX9_sand_164 : decode cX9_sand 164 = .ok (.iload 5, 2) := by decide +kernel
theorem dX9_sand_166 : decode cX9_sand 166 = .ok (.ifCond .ge 92, 3) := by decide +kernel
theorem dX9_sand_169 : decode cX9_sand 169 = .ok (.iload 8, 2) := by decide +kernel
theorem dX9_sand_171 : decode cX9_sand 171 = .ok (.iconst 1, 1) := by decide +kernel
theorem dX9_sand_172 : decode cX9_sand 172 = .ok (.iadd, 1) := by decide +kernel
theorem dX9_sand_173 : decode cX9_sand 173 = .ok (.istore 9, 2) := by decide +kernel
theorem dX9_sand_175 : decode cX9_sand 175 = .ok (.iload 9, 2) := by decide +kernel
theorem dX9_sand_177 : decode cX9_sand 177 = .ok (.aload_n 0, 1) := by decide +kernel
theorem dX9_sand_178 : decode cX9_sand 178 = .ok (.invokevirtual 182, 3) := by decide +kernel
theorem dX9_sand_181 : decode cX9_sand 181 = .ok (.if_icmp .ge 71, 3) := by decide +kernel
theorem dX9_sand_184 : decode cX9_sand 184 = .ok (.iload 5, 2) := by decide +kernel
theorem dX9_sand_186 : decode cX9_sand 186 = .ok (.ifCond .ge 66, 3) := by decide +kernel
theorem dX9_sand_189 : decode cX9_sand 189 = .ok (.aload_n 0, 1) := by decide +kernel
theorem dX9_sand_190 : decode cX9_sand 190 = .ok (.iload 8, 2) := by decide +kernel
theorem dX9_sand_192 : decode cX9_sand 192 = .ok (.invokevirtual 305, 3) := by decide +kernel
theorem dX9_sand_195 : decode cX9_sand 195 = .ok (.ifCond .eq 51, 3) := by decide +kernel
theorem dX9_sand_198 : decode cX9_sand 198 = .ok (.aload_n 0, 1) := by decide +kernel
theorem dX9_sand_199 : decode cX9_sand 199 = .ok (.iload 9, 2) := by decide +kernel
theorem dX9_sand_201 : decode cX9_sand 201 = .ok (.invokevirtual 305, 3) := by decide +kernel
theorem dX9_sand_204 : decode cX9_sand 204 = .ok (.ifCond .eq 42, 3) := by decide +kernel
theorem dX9_sand_207 : decode cX9_sand 207 = .ok (.aload_n 0, 1) := by decide +kernel
theorem dX9_sand_208 : decode cX9_sand 208 = .ok (.lconst 1, 1) := by decide +kernel
theorem dX9_sand_209 : decode cX9_sand 209 = .ok (.iload 8, 2) := by decide +kernel
theorem dX9_sand_211 : decode cX9_sand 211 = .ok (.lshl, 1) := by decide +kernel
theorem dX9_sand_212 : decode cX9_sand 212 = .ok (.lconst 1, 1) := by decide +kernel
theorem dX9_sand_213 : decode cX9_sand 213 = .ok (.iload 9, 2) := by decide +kernel
theorem dX9_sand_215 : decode cX9_sand 215 = .ok (.lshl, 1) := by decide +kernel
theorem dX9_sand_216 : decode cX9_sand 216 = .ok (.lor, 1) := by decide +kernel
theorem dX9_sand_217 : decode cX9_sand 217 = .ok (.putfield 190, 3) := by decide +kernel
theorem dX9_sand_220 : decode cX9_sand 220 = .ok (.aload_n 0, 1) := by decide +kernel
theorem dX9_sand_221 : decode cX9_sand 221 = .ok (.iload_n 1, 1) := by decide +kernel
theorem dX9_sand_222 : decode cX9_sand 222 = .ok (.iload_n 2, 1) := by decide +kernel
theorem dX9_sand_223 : decode cX9_sand 223 = .ok (.iload_n 3, 1) := by decide +kernel
theorem dX9_sand_224 : decode cX9_sand 224 = .ok (.invokevirtual 302, 3) := by decide +kernel
theorem dX9_sand_227 : decode cX9_sand 227 = .ok (.ifCond .eq 14, 3) := by decide +kernel
theorem dX9_sand_230 : decode cX9_sand 230 = .ok (.iconst 2, 1) := by decide +kernel
theorem dX9_sand_231 : decode cX9_sand 231 = .ok (.istore 5, 2) := by decide +kernel
theorem dX9_sand_233 : decode cX9_sand 233 = .ok (.iload 8, 2) := by decide +kernel
theorem dX9_sand_235 : decode cX9_sand 235 = .ok (.istore 6, 2) := by decide +kernel
theorem dX9_sand_237 : decode cX9_sand 237 = .ok (.iload 9, 2) := by decide +kernel
theorem dX9_sand_239 : decode cX9_sand 239 = .ok (.istore 7, 2) := by decide +kernel
theorem dX9_sand_241 : decode cX9_sand 241 = .ok (.aload_n 0, 1) := by decide +kernel
theorem dX9_sand_242 : decode cX9_sand 242 = .ok (.lconst 0, 1) := by decide +kernel
theorem dX9_sand_243 : decode cX9_sand 243 = .ok (.putfield 190, 3) := by decide +kernel
theorem dX9_sand_246 : decode cX9_sand 246 = .ok (.iinc 9 1, 3) := by decide +kernel
theorem dX9_sand_249 : decode cX9_sand 249 = .ok (.goto (-74), 3) := by decide +kernel
theorem dX9_sand_252 : decode cX9_sand 252 = .ok (.iinc 8 1, 3) := by decide +kernel
theorem dX9_sand_255 : decode cX9_sand 255 = .ok (.goto (-100), 3) := by decide +kernel
theorem dX9_sand_258 : decode cX9_sand 258 = .ok (.iload 4, 2) := by decide +kernel
theorem dX9_sand_260 : decode cX9_sand 260 = .ok (.ifCond .ge 8, 3) := by decide +kernel
theorem dX9_sand_263 : decode cX9_sand 263 = .ok (.iload 5, 2) := by decide +kernel
theorem dX9_sand_265 : decode cX9_sand 265 = .ok (.goto 15, 3) := by decide +kernel
theorem dX9_sand_268 : decode cX9_sand 268 = .ok (.iload 4, 2) := by decide +kernel
theorem dX9_sand_270 : decode cX9_sand 270 = .ok (.ifCond .ne 8, 3) := by decide +kernel
theorem dX9_sand_273 : decode cX9_sand 273 = .ok (.iload 6, 2) := by decide +kernel
theorem dX9_sand_275 : decode cX9_sand 275 = .ok (.goto 5, 3) := by decide +kernel
theorem dX9_sand_278 : decode cX9_sand 278 = .ok (.iload 7, 2) := by decide +kernel
theorem dX9_sand_280 : decode cX9_sand 280 = .ok (.ireturn, 1) := by decide +kernel
theorem dX9_thaw_0 : decode cX9_thaw 0 = .ok (.iload_n 1, 1) := by decide +kernel
theorem dX9_thaw_1 : decode cX9_thaw 1 = .ok (.i2l, 1) := by decide +kernel
theorem dX9_thaw_2 : decode cX9_thaw 2 = .ok (.lconst 0, 1) := by decide +kernel
theorem dX9_thaw_3 : decode cX9_thaw 3 = .ok (.ldc2_w 308, 3) := by decide +kernel
theorem dX9_thaw_6 : decode cX9_thaw 6 = .ok (.invokestatic 142, 3) := by decide +kernel
theorem dX9_thaw_9 : decode cX9_thaw 9 = .ok (.ifCond .ne 6, 3) := by decide +kernel
theorem dX9_thaw_12 : decode cX9_thaw 12 = .ok (.bipush (-2), 2) := by decide +kernel
theorem dX9_thaw_14 : decode cX9_thaw 14 = .ok (.ireturn, 1) := by decide +kernel
theorem dX9_thaw_15 : decode cX9_thaw 15 = .ok (.iconst 0, 1) := by decide +kernel
theorem dX9_thaw_16 : decode cX9_thaw 16 = .ok (.istore_n 2, 1) := by decide +kernel
theorem dX9_thaw_17 : decode cX9_thaw 17 = .ok (.iconst 0, 1) := by decide +kernel
theorem dX9_thaw_18 : decode cX9_thaw 18 = .ok (.istore_n 3, 1) := by decide +kernel
theorem dX9_thaw_19 : decode cX9_thaw 19 = .ok (.iload_n 3, 1) := by decide +kernel
theorem dX9_thaw_20 : decode cX9_thaw 20 = .ok (.aload_n 0, 1) := by decide +kernel
theorem dX9_thaw_21 : decode cX9_thaw 21 = .ok (.getfield 179, 3) := by decide +kernel
theorem dX9_thaw_24 : decode cX9_thaw 24 = .ok (.if_icmp .ge 59, 3) := by decide +kernel
theorem dX9_thaw_27 : decode cX9_thaw 27 = .ok (.aload_n 0, 1) := by decide +kernel
theorem dX9_thaw_28 : decode cX9_thaw 28 = .ok (.getfield 19, 3) := by decide +kernel
theorem dX9_thaw_31 : decode cX9_thaw 31 = .ok (.iload_n 3, 1) := by decide +kernel
theorem dX9_thaw_32 : decode cX9_thaw 32 = .ok (.iaload, 1) := by decide +kernel
theorem dX9_thaw_33 : decode cX9_thaw 33 = .ok (.ifCond .ge 8, 3) := by decide +kernel
theorem dX9_thaw_36 : decode cX9_thaw 36 = .ok (.bipush 99, 2) := by decide +kernel
theorem dX9_thaw_38 : decode cX9_thaw 38 = .ok (.goto 19, 3) := by decide +kernel
theorem dX9_thaw_41 : decode cX9_thaw 41 = .ok (.aload_n 0, 1) := by decide +kernel
theorem dX9_thaw_42 : decode cX9_thaw 42 = .ok (.getfield 115, 3) := by decide +kernel
theorem dX9_thaw_45 : decode cX9_thaw 45 = .ok (.aload_n 0, 1) := by decide +kernel
theorem dX9_thaw_46 : decode cX9_thaw 46 = .ok (.getfield 19, 3) := by decide +kernel
theorem dX9_thaw_49 : decode cX9_thaw 49 = .ok (.iload_n 3, 1) := by decide +kernel
theorem dX9_thaw_50 : decode cX9_thaw 50 = .ok (.iaload, 1) := by decide +kernel
theorem dX9_thaw_51 : decode cX9_thaw 51 = .ok (.aload_n 0, 1) := by decide +kernel
theorem dX9_thaw_52 : decode cX9_thaw 52 = .ok (.getfield 118, 3) := by decide +kernel
theorem dX9_thaw_55 : decode cX9_thaw 55 = .ok (.idiv, 1) := by decide +kernel
theorem dX9_thaw_56 : decode cX9_thaw 56 = .ok (.isub, 1) := by decide +kernel
theorem dX9_thaw_57 : decode cX9_thaw 57 = .ok (.istore 4, 2) := by decide +kernel
theorem dX9_thaw_59 : decode cX9_thaw 59 = .ok (.iload_n 2, 1) := by decide +kernel
theorem dX9_thaw_60 : decode cX9_thaw 60 = .ok (.iconst 2, 1) := by decide +kernel
theorem dX9_thaw_61 : decode cX9_thaw 61 = .ok (.iload 4, 2) := by decide +kernel
theorem dX9_thaw_63 : decode cX9_thaw 63 = .ok (.imul, 1) := by decide +kernel
theorem dX9_thaw_64 : decode cX9_thaw 64 = .ok (.iload_n 1, 1) := by decide +kernel
theorem dX9_thaw_65 : decode cX9_thaw 65 = .ok (.if_icmp .gt 9, 3) := by decide +kernel
theorem dX9_thaw_68 : decode cX9_thaw 68 = .ok (.iconst 1, 1) := by decide +kernel
theorem dX9_thaw_69 : decode cX9_thaw 69 = .ok (.iload_n 3, 1) := by decide +kernel
theorem dX9_thaw_70 : decode cX9_thaw 70 = .ok (.ishl, 1) := by decide +kernel
theorem dX9_thaw_71 : decode cX9_thaw 71 = .ok (.goto 4, 3) := by decide +kernel
theorem dX9_thaw_74 : decode cX9_thaw 74 = .ok (.iconst 0, 1) := by decide +kernel
theorem dX9_thaw_75 : decode cX9_thaw 75 = .ok (.ior, 1) := by decide +kernel
theorem dX9_thaw_76 : decode cX9_thaw 76 = .ok (.istore_n 2, 1) := by decide +kernel
theorem dX9_thaw_77 : decode cX9_thaw 77 = .ok (.iinc 3 1, 3) := by decide +kernel
theorem dX9_thaw_80 : decode cX9_thaw 80 = .ok (.goto (-61), 3) := by decide +kernel
theorem dX9_thaw_83 : decode cX9_thaw 83 = .ok (.iload_n 2, 1) := by decide +kernel
theorem dX9_thaw_84 : decode cX9_thaw 84 = .ok (.ireturn, 1) := by decide +kernel
theorem dX9_noSheet_0 : decode cX9_noSheet 0 = .ok (.iload_n 0, 1) := by decide +kernel
theorem dX9_noSheet_1 : decode cX9_noSheet 1 = .ok (.i2l, 1) := by decide +kernel
theorem dX9_noSheet_2 : decode cX9_noSheet 2 = .ok (.lconst 0, 1) := by decide +kernel
theorem dX9_noSheet_3 : decode cX9_noSheet 3 = .ok (.ldc2_w 138, 3) := by decide +kernel
theorem dX9_noSheet_6 : decode cX9_noSheet 6 = .ok (.invokestatic 142, 3) := by decide +kernel
theorem dX9_noSheet_9 : decode cX9_noSheet 9 = .ok (.ifCond .ne 7, 3) := by decide +kernel
theorem dX9_noSheet_12 : decode cX9_noSheet 12 = .ok (.iconst 1, 1) := by decide +kernel
theorem dX9_noSheet_13 : decode cX9_noSheet 13 = .ok (.goto 4, 3) := by decide +kernel
theorem dX9_noSheet_16 : decode cX9_noSheet 16 = .ok (.iconst 0, 1) := by decide +kernel
theorem dX9_noSheet_17 : decode cX9_noSheet 17 = .ok (.ireturn, 1) := by decide +kernel
theorem dX9_sheet_0 : decode cX9_sheet 0 = .ok (.iload_n 1, 1) := by decide +kernel
theorem dX9_sheet_1 : decode cX9_sheet 1 = .ok (.invokestatic 159, 3) := by decide +kernel
theorem dX9_sheet_4 : decode cX9_sheet 4 = .ok (.ifCond .eq 9, 3) := by decide +kernel
theorem dX9_sheet_7 : decode cX9_sheet 7 = .ok (.aload_n 0, 1) := by decide +kernel
theorem dX9_sheet_8 : decode cX9_sheet 8 = .ok (.iconst (-1), 1) := by decide +kernel
theorem dX9_sheet_9 : decode cX9_sheet 9 = .ok (.invokevirtual 163, 3) := by decide +kernel
theorem dX9_sheet_12 : decode cX9_sheet 12 = .ok (.ireturn, 1) := by decide +kernel
theorem dX9_sheet_13 : decode cX9_sheet 13 = .ok (.iload_n 2, 1) := by decide +kernel
theorem dX9_sheet_14 : decode cX9_sheet 14 = .ok (.i2l, 1) := by decide +kernel
theorem dX9_sheet_15 : decode cX9_sheet 15 = .ok (.lconst 0, 1) := by decide +kernel
theorem dX9_sheet_16 : decode cX9_sheet 16 = .ok (.ldc2_w 166, 3) := by decide +kernel
theorem dX9_sheet_19 : decode cX9_sheet 19 = .ok (.invokestatic 142, 3) := by decide +kernel
theorem dX9_sheet_22 : decode cX9_sheet 22 = .ok (.ifCond .eq 9, 3) := by decide +kernel
theorem dX9_sheet_25 : decode cX9_sheet 25 = .ok (.iload_n 3, 1) := by decide +kernel
theorem dX9_sheet_26 : decode cX9_sheet 26 = .ok (.bipush 60, 2) := by decide +kernel
theorem dX9_sheet_28 : decode cX9_sheet 28 = .ok (.if_icmp .le 10, 3) := by decide +kernel
theorem dX9_sheet_31 : decode cX9_sheet 31 = .ok (.aload_n 0, 1) := by decide +kernel
theorem dX9_sheet_32 : decode cX9_sheet 32 = .ok (.bipush (-2), 2) := by decide +kernel
theorem dX9_sheet_34 : decode cX9_sheet 34 = .ok (.invokevirtual 163, 3) := by decide +kernel
theorem dX9_sheet_37 : decode cX9_sheet 37 = .ok (.ireturn, 1) := by decide +kernel
theorem dX9_sheet_38 : decode cX9_sheet 38 = .ok (.iload_n 3, 1) := by decide +kernel
theorem dX9_sheet_39 : decode cX9_sheet 39 = .ok (.ifCond .ge 9, 3) := by decide +kernel
theorem dX9_sheet_42 : decode cX9_sheet 42 = .ok (.aload_n 0, 1) := by decide +kernel
theorem dX9_sheet_43 : decode cX9_sheet 43 = .ok (.iconst 4, 1) := by decide +kernel
theorem dX9_sheet_44 : decode cX9_sheet 44 = .ok (.invokevirtual 168, 3) := by decide +kernel
theorem dX9_sheet_47 : decode cX9_sheet 47 = .ok (.ireturn, 1) := by decide +kernel
theorem dX9_sheet_48 : decode cX9_sheet 48 = .ok (.aload_n 0, 1) := by decide +kernel
theorem dX9_sheet_49 : decode cX9_sheet 49 = .ok (.getfield 93, 3) := by decide +kernel
theorem dX9_sheet_52 : decode cX9_sheet 52 = .ok (.iload_n 1, 1) := by decide +kernel
theorem dX9_sheet_53 : decode cX9_sheet 53 = .ok (.iload_n 3, 1) := by decide +kernel
theorem dX9_sheet_54 : decode cX9_sheet 54 = .ok (.iastore, 1) := by decide +kernel
theorem dX9_sheet_55 : decode cX9_sheet 55 = .ok (.aload_n 0, 1) := by decide +kernel
theorem dX9_sheet_56 : decode cX9_sheet 56 = .ok (.getfield 96, 3) := by decide +kernel
theorem dX9_sheet_59 : decode cX9_sheet 59 = .ok (.iload_n 1, 1) := by decide +kernel
theorem dX9_sheet_60 : decode cX9_sheet 60 = .ok (.iload_n 2, 1) := by decide +kernel
theorem dX9_sheet_61 : decode cX9_sheet 61 = .ok (.iastore, 1) := by decide +kernel
theorem dX9_sheet_62 : decode cX9_sheet 62 = .ok (.iconst 0, 1) := by decide +kernel
theorem dX9_sheet_63 : decode cX9_sheet 63 = .ok (.istore 4, 2) := by decide +kernel
theorem dX9_sheet_65 : decode cX9_sheet 65 = .ok (.iload 4, 2) := by decide +kernel
theorem dX9_sheet_67 : decode cX9_sheet 67 = .ok (.iload_n 3, 1) := by decide +kernel
theorem dX9_sheet_68 : decode cX9_sheet 68 = .ok (.if_icmp .ge 22, 3) := by decide +kernel
theorem dX9_sheet_71 : decode cX9_sheet 71 = .ok (.aload_n 0, 1) := by decide +kernel
theorem dX9_sheet_72 : decode cX9_sheet 72 = .ok (.getfield 99, 3) := by decide +kernel
theorem dX9_sheet_75 : decode cX9_sheet 75 = .ok (.bipush 60, 2) := by decide +kernel
theorem dX9_sheet_77 : decode cX9_sheet 77 = .ok (.iload_n 1, 1) := by decide +kernel
theorem dX9_sheet_78 : decode cX9_sheet 78 = .ok (.imul, 1) := by decide +kernel
theorem dX9_sheet_79 : decode cX9_sheet 79 = .ok (.iload 4, 2) := by decide +kernel
theorem dX9_sheet_81 : decode cX9_sheet 81 = .ok (.iadd, 1) := by decide +kernel
theorem dX9_sheet_82 : decode cX9_sheet 82 = .ok (.iconst 0, 1) := by decide +kernel
theorem dX9_sheet_83 : decode cX9_sheet 83 = .ok (.iastore, 1) := by decide +kernel
theorem dX9_sheet_84 : decode cX9_sheet 84 = .ok (.iinc 4 1, 3) := by decide +kernel
theorem dX9_sheet_87 : decode cX9_sheet 87 = .ok (.goto (-22), 3) := by decide +kernel
theorem dX9_sheet_90 : decode cX9_sheet 90 = .ok (.aload_n 0, 1) := by decide +kernel
theorem dX9_sheet_91 : decode cX9_sheet 91 = .ok (.iconst 1, 1) := by decide +kernel
theorem dX9_sheet_92 : decode cX9_sheet 92 = .ok (.invokevirtual 163, 3) := by decide +kernel
theorem dX9_sheet_95 : decode cX9_sheet 95 = .ok (.ireturn, 1) := by decide +kernel
theorem dX9_lose_0 : decode cX9_lose 0 = .ok (.iload_n 1, 1) := by decide +kernel
theorem dX9_lose_1 : decode cX9_lose 1 = .ok (.invokestatic 159, 3) := by decide +kernel
theorem dX9_lose_4 : decode cX9_lose 4 = .ok (.ifCond .eq 5, 3) := by decide +kernel
theorem dX9_lose_7 : decode cX9_lose 7 = .ok (.iconst (-1), 1) := by decide +kernel
theorem dX9_lose_8 : decode cX9_lose 8 = .ok (.ireturn, 1) := by decide +kernel
theorem dX9_lose_9 : decode cX9_lose 9 = .ok (.aload_n 0, 1) := by decide +kernel
theorem dX9_lose_10 : decode cX9_lose 10 = .ok (.getfield 93, 3) := by decide +kernel
theorem dX9_lose_13 : decode cX9_lose 13 = .ok (.iload_n 1, 1) := by decide +kernel
theorem dX9_lose_14 : decode cX9_lose 14 = .ok (.iaload, 1) := by decide +kernel
theorem dX9_lose_15 : decode cX9_lose 15 = .ok (.ifCond .ge 7, 3) := by decide +kernel
theorem dX9_lose_18 : decode cX9_lose 18 = .ok (.iconst 0, 1) := by decide +kernel
theorem dX9_lose_19 : decode cX9_lose 19 = .ok (.goto 4, 3) := by decide +kernel
theorem dX9_lose_22 : decode cX9_lose 22 = .ok (.iconst 1, 1) := by decide +kernel
theorem dX9_lose_23 : decode cX9_lose 23 = .ok (.istore_n 2, 1) := by decide +kernel
theorem dX9_lose_24 : decode cX9_lose 24 = .ok (.aload_n 0, 1) := by decide +kernel
theorem dX9_lose_25 : decode cX9_lose 25 = .ok (.getfield 93, 3) := by decide +kernel
theorem dX9_lose_28 : decode cX9_lose 28 = .ok (.iload_n 1, 1) := by decide +kernel
theorem dX9_lose_29 : decode cX9_lose 29 = .ok (.iconst (-1), 1) := by decide +kernel
theorem dX9_lose_30 : decode cX9_lose 30 = .ok (.iastore, 1) := by decide +kernel
theorem dX9_lose_31 : decode cX9_lose 31 = .ok (.iload_n 2, 1) := by decide +kernel
theorem dX9_lose_32 : decode cX9_lose 32 = .ok (.ireturn, 1) := by decide +kernel
theorem dX9_noCell_0 : decode cX9_noCell 0 = .ok (.aload_n 0, 1) := by decide +kernel
theorem dX9_noCell_1 : decode cX9_noCell 1 = .ok (.getfield 93, 3) := by decide +kernel
theorem dX9_noCell_4 : decode cX9_noCell 4 = .ok (.iload_n 1, 1) := by decide +kernel
theorem dX9_noCell_5 : decode cX9_noCell 5 = .ok (.iaload, 1) := by decide +kernel
theorem dX9_noCell_6 : decode cX9_noCell 6 = .ok (.ifCond .ge 7, 3) := by decide +kernel
theorem dX9_noCell_9 : decode cX9_noCell 9 = .ok (.iconst 1, 1) := by decide +kernel
theorem dX9_noCell_10 : decode cX9_noCell 10 = .ok (.goto 26, 3) := by decide +kernel
theorem dX9_noCell_13 : decode cX9_noCell 13 = .ok (.iload_n 2, 1) := by decide +kernel
theorem dX9_noCell_14 : decode cX9_noCell 14 = .ok (.i2l, 1) := by decide +kernel
theorem dX9_noCell_15 : decode cX9_noCell 15 = .ok (.lconst 0, 1) := by decide +kernel
theorem dX9_noCell_16 : decode cX9_noCell 16 = .ok (.aload_n 0, 1) := by decide +kernel
theorem dX9_noCell_17 : decode cX9_noCell 17 = .ok (.getfield 93, 3) := by decide +kernel
theorem dX9_noCell_20 : decode cX9_noCell 20 = .ok (.iload_n 1, 1) := by decide +kernel
theorem dX9_noCell_21 : decode cX9_noCell 21 = .ok (.iaload, 1) := by decide +kernel
theorem dX9_noCell_22 : decode cX9_noCell 22 = .ok (.i2l, 1) := by decide +kernel
theorem dX9_noCell_23 : decode cX9_noCell 23 = .ok (.lconst 1, 1) := by decide +kernel
theorem dX9_noCell_24 : decode cX9_noCell 24 = .ok (.lsub, 1) := by decide +kernel
theorem dX9_noCell_25 : decode cX9_noCell 25 = .ok (.invokestatic 142, 3) := by decide +kernel
theorem dX9_noCell_28 : decode cX9_noCell 28 = .ok (.ifCond .eq 7, 3) := by decide +kernel
theorem dX9_noCell_31 : decode cX9_noCell 31 = .ok (.iconst 0, 1) := by decide +kernel
theorem dX9_noCell_32 : decode cX9_noCell 32 = .ok (.goto 4, 3) := by decide +kernel
theorem dX9_noCell_35 : decode cX9_noCell 35 = .ok (.iconst 3, 1) := by decide +kernel
theorem dX9_noCell_36 : decode cX9_noCell 36 = .ok (.ireturn, 1) := by decide +kernel
theorem dX9_put_0 : decode cX9_put 0 = .ok (.iload_n 1, 1) := by decide +kernel
theorem dX9_put_1 : decode cX9_put 1 = .ok (.invokestatic 159, 3) := by decide +kernel
theorem dX9_put_4 : decode cX9_put 4 = .ok (.ifCond .eq 9, 3) := by decide +kernel
theorem dX9_put_7 : decode cX9_put 7 = .ok (.aload_n 0, 1) := by decide +kernel
theorem dX9_put_8 : decode cX9_put 8 = .ok (.iconst (-1), 1) := by decide +kernel
theorem dX9_put_9 : decode cX9_put 9 = .ok (.invokevirtual 163, 3) := by decide +kernel
theorem dX9_put_12 : decode cX9_put 12 = .ok (.ireturn, 1) := by decide +kernel
theorem dX9_put_13 : decode cX9_put 13 = .ok (.aload_n 0, 1) := by decide +kernel
theorem dX9_put_14 : decode cX9_put 14 = .ok (.iload_n 1, 1) := by decide +kernel
theorem dX9_put_15 : decode cX9_put 15 = .ok (.iload_n 2, 1) := by decide +kernel
theorem dX9_put_16 : decode cX9_put 16 = .ok (.invokevirtual 310, 3) := by decide +kernel
theorem dX9_put_19 : decode cX9_put 19 = .ok (.ifCond .le 14, 3) := by decide +kernel
theorem dX9_put_22 : decode cX9_put 22 = .ok (.aload_n 0, 1) := by decide +kernel
theorem dX9_put_23 : decode cX9_put 23 = .ok (.aload_n 0, 1) := by decide +kernel
theorem dX9_put_24 : decode cX9_put 24 = .ok (.iload_n 1, 1) := by decide +kernel
theorem dX9_put_25 : decode cX9_put 25 = .ok (.iload_n 2, 1) := by decide +kernel
theorem dX9_put_26 : decode cX9_put 26 = .ok (.invokevirtual 310, 3) := by decide +kernel
theorem dX9_put_29 : decode cX9_put 29 = .ok (.invokevirtual 168, 3) := by decide +kernel
theorem dX9_put_32 : decode cX9_put 32 = .ok (.ireturn, 1) := by decide +kernel
theorem dX9_put_33 : decode cX9_put 33 = .ok (.aload_n 0, 1) := by decide +kernel
theorem dX9_put_34 : decode cX9_put 34 = .ok (.getfield 99, 3) := by decide +kernel
theorem dX9_put_37 : decode cX9_put 37 = .ok (.bipush 60, 2) := by decide +kernel
theorem dX9_put_39 : decode cX9_put 39 = .ok (.iload_n 1, 1) := by decide +kernel
theorem dX9_put_40 : decode cX9_put 40 = .ok (.imul, 1) := by decide +kernel
theorem dX9_put_41 : decode cX9_put 41 = .ok (.iload_n 2, 1) := by decide +kernel
theorem dX9_put_42 : decode cX9_put 42 = .ok (.iadd, 1) := by decide +kernel
theorem dX9_put_43 : decode cX9_put 43 = .ok (.aload_n 0, 1) := by decide +kernel
theorem dX9_put_44 : decode cX9_put 44 = .ok (.getfield 96, 3) := by decide +kernel
theorem dX9_put_47 : decode cX9_put 47 = .ok (.iload_n 1, 1) := by decide +kernel
theorem dX9_put_48 : decode cX9_put 48 = .ok (.iaload, 1) := by decide +kernel
theorem dX9_put_49 : decode cX9_put 49 = .ok (.ifCond .ne 8, 3) := by decide +kernel
theorem dX9_put_52 : decode cX9_put 52 = .ok (.iload_n 3, 1) := by decide +kernel
theorem dX9_put_53 : decode cX9_put 53 = .ok (.i2b, 1) := by decide +kernel
theorem dX9_put_54 : decode cX9_put 54 = .ok (.goto 19, 3) := by decide +kernel
theorem dX9_put_57 : decode cX9_put 57 = .ok (.aload_n 0, 1) := by decide +kernel
theorem dX9_put_58 : decode cX9_put 58 = .ok (.getfield 96, 3) := by decide +kernel
theorem dX9_put_61 : decode cX9_put 61 = .ok (.iload_n 1, 1) := by decide +kernel
theorem dX9_put_62 : decode cX9_put 62 = .ok (.iaload, 1) := by decide +kernel
theorem dX9_put_63 : decode cX9_put 63 = .ok (.iconst 1, 1) := by decide +kernel
theorem dX9_put_64 : decode cX9_put 64 = .ok (.if_icmp .ne 8, 3) := by decide +kernel
theorem dX9_put_67 : decode cX9_put 67 = .ok (.iload_n 3, 1) := by decide +kernel
theorem dX9_put_68 : decode cX9_put 68 = .ok (.i2s, 1) := by decide +kernel
theorem dX9_put_69 : decode cX9_put 69 = .ok (.goto 4, 3) := by decide +kernel
theorem dX9_put_72 : decode cX9_put 72 = .ok (.iload_n 3, 1) := by decide +kernel
theorem dX9_put_73 : decode cX9_put 73 = .ok (.iastore, 1) := by decide +kernel
theorem dX9_put_74 : decode cX9_put 74 = .ok (.aload_n 0, 1) := by decide +kernel
theorem dX9_put_75 : decode cX9_put 75 = .ok (.iconst 1, 1) := by decide +kernel
theorem dX9_put_76 : decode cX9_put 76 = .ok (.invokevirtual 163, 3) := by decide +kernel
theorem dX9_put_79 : decode cX9_put 79 = .ok (.ireturn, 1) := by decide +kernel
theorem dX9_cell_0 : decode cX9_cell 0 = .ok (.aload_n 0, 1) := by decide +kernel
theorem dX9_cell_1 : decode cX9_cell 1 = .ok (.iconst 0, 1) := by decide +kernel
theorem dX9_cell_2 : decode cX9_cell 2 = .ok (.putfield 107, 3) := by decide +kernel
theorem dX9_cell_5 : decode cX9_cell 5 = .ok (.iload_n 1, 1) := by decide +kernel
theorem dX9_cell_6 : decode cX9_cell 6 = .ok (.invokestatic 159, 3) := by decide +kernel
theorem dX9_cell_9 : decode cX9_cell 9 = .ok (.ifCond .ne 15, 3) := by decide +kernel
theorem dX9_cell_12 : decode cX9_cell 12 = .ok (.iload_n 3, 1) := by decide +kernel
theorem dX9_cell_13 : decode cX9_cell 13 = .ok (.i2l, 1) := by decide +kernel
theorem dX9_cell_14 : decode cX9_cell 14 = .ok (.lconst 0, 1) := by decide +kernel
theorem dX9_cell_15 : decode cX9_cell 15 = .ok (.ldc2_w 166, 3) := by decide +kernel
theorem dX9_cell_18 : decode cX9_cell 18 = .ok (.invokestatic 142, 3) := by decide +kernel
theorem dX9_cell_21 : decode cX9_cell 21 = .ok (.ifCond .ne 7, 3) := by decide +kernel
theorem dX9_cell_24 : decode cX9_cell 24 = .ok (.invokestatic 111, 3) := by decide +kernel
theorem dX9_cell_27 : decode cX9_cell 27 = .ok (.lreturn, 1) := by decide +kernel
theorem dX9_cell_28 : decode cX9_cell 28 = .ok (.aload_n 0, 1) := by decide +kernel
theorem dX9_cell_29 : decode cX9_cell 29 = .ok (.getfield 93, 3) := by decide +kernel
theorem dX9_cell_32 : decode cX9_cell 32 = .ok (.iload_n 1, 1) := by decide +kernel
theorem dX9_cell_33 : decode cX9_cell 33 = .ok (.iaload, 1) := by decide +kernel
theorem dX9_cell_34 : decode cX9_cell 34 = .ok (.ifCond .lt 19, 3) := by decide +kernel
theorem dX9_cell_37 : decode cX9_cell 37 = .ok (.aload_n 0, 1) := by decide +kernel
theorem dX9_cell_38 : decode cX9_cell 38 = .ok (.getfield 96, 3) := by decide +kernel
theorem dX9_cell_41 : decode cX9_cell 41 = .ok (.iload_n 1, 1) := by decide +kernel
theorem dX9_cell_42 : decode cX9_cell 42 = .ok (.iaload, 1) := by decide +kernel
theorem dX9_cell_43 : decode cX9_cell 43 = .ok (.iload_n 3, 1) := by decide +kernel
theorem dX9_cell_44 : decode cX9_cell 44 = .ok (.if_icmp .eq 9, 3) := by decide +kernel
theorem dX9_cell_47 : decode cX9_cell 47 = .ok (.aload_n 0, 1) := by decide +kernel
theorem dX9_cell_48 : decode cX9_cell 48 = .ok (.iconst 2, 1) := by decide +kernel
theorem dX9_cell_49 : decode cX9_cell 49 = .ok (.invokevirtual 313, 3) := by decide +kernel
theorem dX9_cell_52 : decode cX9_cell 52 = .ok (.lreturn, 1) := by decide +kernel
theorem dX9_cell_53 : decode cX9_cell 53 = .ok (.aload_n 0, 1) := by decide +kernel
theorem dX9_cell_54 : decode cX9_cell 54 = .ok (.iload_n 1, 1) := by decide +kernel
theorem dX9_cell_55 : decode cX9_cell 55 = .ok (.iload_n 2, 1) := by decide +kernel
theorem dX9_cell_56 : decode cX9_cell 56 = .ok (.invokevirtual 310, 3) := by decide +kernel
theorem dX9_cell_59 : decode cX9_cell 59 = .ok (.ifCond .le 16, 3) := by decide +kernel
theorem dX9_cell_62 : decode cX9_cell 62 = .ok (.aload_n 0, 1) := by decide +kernel
theorem dX9_cell_63 : decode cX9_cell 63 = .ok (.aload_n 0, 1) := by decide +kernel
theorem dX9_cell_64 : decode cX9_cell 64 = .ok (.iload_n 1, 1) := by decide +kernel
theorem dX9_cell_65 : decode cX9_cell 65 = .ok (.iload_n 2, 1) := by decide +kernel
theorem dX9_cell_66 : decode cX9_cell 66 = .ok (.invokevirtual 310, 3) := by decide +kernel
theorem dX9_cell_69 : decode cX9_cell 69 = .ok (.invokevirtual 313, 3) := by decide +kernel
theorem dX9_cell_72 : decode cX9_cell 72 = .ok (.goto 15, 3) := by decide +kernel
theorem dX9_cell_75 : decode cX9_cell 75 = .ok (.aload_n 0, 1) := by decide +kernel
theorem dX9_cell_76 : decode cX9_cell 76 = .ok (.getfield 99, 3) := by decide +kernel
theorem dX9_cell_79 : decode cX9_cell 79 = .ok (.bipush 60, 2) := by decide +kernel
theorem dX9_cell_81 : decode cX9_cell 81 = .ok (.iload_n 1, 1) := by decide +kernel
theorem dX9_cell_82 : decode cX9_cell 82 = .ok (.imul, 1) := by decide +kernel
theorem dX9_cell_83 : decode cX9_cell 83 = .ok (.iload_n 2, 1) := by decide +kernel
theorem dX9_cell_84 : decode cX9_cell 84 = .ok (.iadd, 1) := by decide +kernel
theorem dX9_cell_85 : decode cX9_cell 85 = .ok (.iaload, 1) := by decide +kernel
theorem dX9_cell_86 : decode cX9_cell 86 = .ok (.i2l, 1) := by decide +kernel
theorem dX9_cell_87 : decode cX9_cell 87 = .ok (.lreturn, 1) := by decide +kernel
theorem dX9_isBeyond_0 : decode cX9_isBeyond 0 = .ok (.iload_n 0, 1) := by decide +kernel
theorem dX9_isBeyond_1 : decode cX9_isBeyond 1 = .ok (.ifCond .lt 19, 3) := by decide +kernel
theorem dX9_isBeyond_4 : decode cX9_isBeyond 4 = .ok (.lload_n 1, 1) := by decide +kernel
theorem dX9_isBeyond_5 : decode cX9_isBeyond 5 = .ok (.lconst 0, 1) := by decide +kernel
theorem dX9_isBeyond_6 : decode cX9_isBeyond 6 = .ok (.lcmp, 1) := by decide +kernel
theorem dX9_isBeyond_7 : decode cX9_isBeyond 7 = .ok (.ifCond .lt 13, 3) := by decide +kernel
theorem dX9_isBeyond_10 : decode cX9_isBeyond 10 = .ok (.iload_n 0, 1) := by decide +kernel
theorem dX9_isBeyond_11 : decode cX9_isBeyond 11 = .ok (.i2l, 1) := by decide +kernel
theorem dX9_isBeyond_12 : decode cX9_isBeyond 12 = .ok (.lload_n 1, 1) := by decide +kernel
theorem dX9_isBeyond_13 : decode cX9_isBeyond 13 = .ok (.ladd, 1) := by decide +kernel
theorem dX9_isBeyond_14 : decode cX9_isBeyond 14 = .ok (.iload_n 3, 1) := by decide +kernel
theorem dX9_isBeyond_15 : decode cX9_isBeyond 15 = .ok (.i2l, 1) := by decide +kernel
theorem dX9_isBeyond_16 : decode cX9_isBeyond 16 = .ok (.lcmp, 1) := by decide +kernel
theorem dX9_isBeyond_17 : decode cX9_isBeyond 17 = .ok (.ifCond .le 7, 3) := by decide +kernel
theorem dX9_isBeyond_20 : decode cX9_isBeyond 20 = .ok (.iconst 1, 1) := by decide +kernel
theorem dX9_isBeyond_21 : decode cX9_isBeyond 21 = .ok (.goto 4, 3) := by decide +kernel
theorem dX9_isBeyond_24 : decode cX9_isBeyond 24 = .ok (.iconst 0, 1) := by decide +kernel
theorem dX9_isBeyond_25 : decode cX9_isBeyond 25 = .ok (.ireturn, 1) := by decide +kernel
theorem dX9_copy_0 : decode cX9_copy 0 = .ok (.iload_n 1, 1) := by decide +kernel
theorem dX9_copy_1 : decode cX9_copy 1 = .ok (.invokestatic 159, 3) := by decide +kernel
theorem dX9_copy_4 : decode cX9_copy 4 = .ok (.ifCond .ne 10, 3) := by decide +kernel
theorem dX9_copy_7 : decode cX9_copy 7 = .ok (.iload_n 3, 1) := by decide +kernel
theorem dX9_copy_8 : decode cX9_copy 8 = .ok (.invokestatic 159, 3) := by decide +kernel
theorem dX9_copy_11 : decode cX9_copy 11 = .ok (.ifCond .eq 9, 3) := by decide +kernel
theorem dX9_copy_14 : decode cX9_copy 14 = .ok (.aload_n 0, 1) := by decide +kernel
theorem dX9_copy_15 : decode cX9_copy 15 = .ok (.iconst (-1), 1) := by decide +kernel
theorem dX9_copy_16 : decode cX9_copy 16 = .ok (.invokevirtual 163, 3) := by decide +kernel
theorem dX9_copy_19 : decode cX9_copy 19 = .ok (.ireturn, 1) := by decide +kernel
theorem dX9_copy_20 : decode cX9_copy 20 = .ok (.aload_n 0, 1) := by decide +kernel
theorem dX9_copy_21 : decode cX9_copy 21 = .ok (.getfield 93, 3) := by decide +kernel
theorem dX9_copy_24 : decode cX9_copy 24 = .ok (.iload_n 1, 1) := by decide +kernel
theorem dX9_copy_25 : decode cX9_copy 25 = .ok (.iaload, 1) := by decide +kernel
theorem dX9_copy_26 : decode cX9_copy 26 = .ok (.ifCond .lt 12, 3) := by decide +kernel
theorem dX9_copy_29 : decode cX9_copy 29 = .ok (.aload_n 0, 1) := by decide +kernel
theorem dX9_copy_30 : decode cX9_copy 30 = .ok (.getfield 93, 3) := by decide +kernel
theorem dX9_copy_33 : decode cX9_copy 33 = .ok (.iload_n 3, 1) := by decide +kernel
theorem dX9_copy_34 : decode cX9_copy 34 = .ok (.iaload, 1) := by decide +kernel
theorem dX9_copy_35 : decode cX9_copy 35 = .ok (.ifCond .ge 9, 3) := by decide +kernel
theorem dX9_copy_38 : decode cX9_copy 38 = .ok (.aload_n 0, 1) := by decide +kernel
theorem dX9_copy_39 : decode cX9_copy 39 = .ok (.iconst 1, 1) := by decide +kernel
theorem dX9_copy_40 : decode cX9_copy 40 = .ok (.invokevirtual 168, 3) := by decide +kernel
theorem dX9_copy_43 : decode cX9_copy 43 = .ok (.ireturn, 1) := by decide +kernel
theorem dX9_copy_44 : decode cX9_copy 44 = .ok (.aload_n 0, 1) := by decide +kernel
theorem dX9_copy_45 : decode cX9_copy 45 = .ok (.getfield 96, 3) := by decide +kernel
theorem dX9_copy_48 : decode cX9_copy 48 = .ok (.iload_n 1, 1) := by decide +kernel
theorem dX9_copy_49 : decode cX9_copy 49 = .ok (.iaload, 1) := by decide +kernel
theorem dX9_copy_50 : decode cX9_copy 50 = .ok (.aload_n 0, 1) := by decide +kernel
theorem dX9_copy_51 : decode cX9_copy 51 = .ok (.getfield 96, 3) := by decide +kernel
theorem dX9_copy_54 : decode cX9_copy 54 = .ok (.iload_n 3, 1) := by decide +kernel
theorem dX9_copy_55 : decode cX9_copy 55 = .ok (.iaload, 1) := by decide +kernel
theorem dX9_copy_56 : decode cX9_copy 56 = .ok (.if_icmp .eq 9, 3) := by decide +kernel
theorem dX9_copy_59 : decode cX9_copy 59 = .ok (.aload_n 0, 1) := by decide +kernel
theorem dX9_copy_60 : decode cX9_copy 60 = .ok (.iconst 2, 1) := by decide +kernel
theorem dX9_copy_61 : decode cX9_copy 61 = .ok (.invokevirtual 168, 3) := by decide +kernel
theorem dX9_copy_64 : decode cX9_copy 64 = .ok (.ireturn, 1) := by decide +kernel
theorem dX9_copy_65 : decode cX9_copy 65 = .ok (.iload_n 2, 1) := by decide +kernel
theorem dX9_copy_66 : decode cX9_copy 66 = .ok (.iload 5, 2) := by decide +kernel
theorem dX9_copy_68 : decode cX9_copy 68 = .ok (.i2l, 1) := by decide +kernel
theorem dX9_copy_69 : decode cX9_copy 69 = .ok (.aload_n 0, 1) := by decide +kernel
theorem dX9_copy_70 : decode cX9_copy 70 = .ok (.getfield 93, 3) := by decide +kernel
theorem dX9_copy_73 : decode cX9_copy 73 = .ok (.iload_n 1, 1) := by decide +kernel
theorem dX9_copy_74 : decode cX9_copy 74 = .ok (.iaload, 1) := by decide +kernel
theorem dX9_copy_75 : decode cX9_copy 75 = .ok (.invokestatic 171, 3) := by decide +kernel
theorem dX9_copy_78 : decode cX9_copy 78 = .ok (.ifCond .ne 20, 3) := by decide +kernel
theorem dX9_copy_81 : decode cX9_copy 81 = .ok (.iload 4, 2) := by decide +kernel
theorem dX9_copy_83 : decode cX9_copy 83 = .ok (.iload 5, 2) := by decide +kernel
theorem dX9_copy_85 : decode cX9_copy 85 = .ok (.i2l, 1) := by decide +kernel
theorem dX9_copy_86 : decode cX9_copy 86 = .ok (.aload_n 0, 1) := by decide +kernel
theorem dX9_copy_87 : decode cX9_copy 87 = .ok (.getfield 93, 3) := by decide +kernel
theorem dX9_copy_90 : decode cX9_copy 90 = .ok (.iload_n 3, 1) := by decide +kernel
theorem dX9_copy_91 : decode cX9_copy 91 = .ok (.iaload, 1) := by decide +kernel
theorem dX9_copy_92 : decode cX9_copy 92 = .ok (.invokestatic 171, 3) := by decide +kernel
theorem dX9_copy_95 : decode cX9_copy 95 = .ok (.ifCond .eq 9, 3) := by decide +kernel
theorem dX9_copy_98 : decode cX9_copy 98 = .ok (.aload_n 0, 1) := by decide +kernel
theorem dX9_copy_99 : decode cX9_copy 99 = .ok (.iconst 3, 1) := by decide +kernel
theorem dX9_copy_100 : decode cX9_copy 100 = .ok (.invokevirtual 168, 3) := by decide +kernel
theorem dX9_copy_103 : decode cX9_copy 103 = .ok (.ireturn, 1) := by decide +kernel
theorem dX9_copy_104 : decode cX9_copy 104 = .ok (.iconst 0, 1) := by decide +kernel
theorem dX9_copy_105 : decode cX9_copy 105 = .ok (.istore 6, 2) := by decide +kernel
theorem dX9_copy_107 : decode cX9_copy 107 = .ok (.iload 6, 2) := by decide +kernel
theorem dX9_copy_109 : decode cX9_copy 109 = .ok (.iload 5, 2) := by decide +kernel
theorem dX9_copy_111 : decode cX9_copy 111 = .ok (.if_icmp .ge 30, 3) := by decide +kernel
theorem dX9_copy_114 : decode cX9_copy 114 = .ok (.aload_n 0, 1) := by decide +kernel
theorem dX9_copy_115 : decode cX9_copy 115 = .ok (.getfield 102, 3) := by decide +kernel
theorem dX9_copy_118 : decode cX9_copy 118 = .ok (.iload 6, 2) := by decide +kernel
theorem dX9_copy_120 : decode cX9_copy 120 = .ok (.aload_n 0, 1) := by decide +kernel
theorem dX9_copy_121 : decode cX9_copy 121 = .ok (.getfield 99, 3) := by decide +kernel
theorem dX9_copy_124 : decode cX9_copy 124 = .ok (.bipush 60, 2) := by decide +kernel
theorem dX9_copy_126 : decode cX9_copy 126 = .ok (.iload_n 1, 1) := by decide +kernel
theorem dX9_copy_127 : decode cX9_copy 127 = .ok (.imul, 1) := by decide +kernel
theorem dX9_copy_128 : decode cX9_copy 128 = .ok (.iload_n 2, 1) := by decide +kernel
theorem dX9_copy_129 : decode cX9_copy 129 = .ok (.iadd, 1) := by decide +kernel
theorem dX9_copy_130 : decode cX9_copy 130 = .ok (.iload 6, 2) := by decide +kernel
theorem dX9_copy_132 : decode cX9_copy 132 = .ok (.iadd, 1) := by decide +kernel
theorem dX9_copy_133 : decode cX9_copy 133 = .ok (.iaload, 1) := by decide +kernel
theorem dX9_copy_134 : decode cX9_copy 134 = .ok (.iastore, 1) := by decide +kernel
theorem dX9_copy_135 : decode cX9_copy 135 = .ok (.iinc 6 1, 3) := by decide +kernel
theorem dX9_copy_138 : decode cX9_copy 138 = .ok (.goto (-31), 3) := by decide +kernel
theorem dX9_copy_141 : decode cX9_copy 141 = .ok (.iconst 0, 1) := by decide +kernel
theorem dX9_copy_142 : decode cX9_copy 142 = .ok (.istore 6, 2) := by decide +kernel
theorem dX9_copy_144 : decode cX9_copy 144 = .ok (.iload 6, 2) := by decide +kernel
theorem dX9_copy_146 : decode cX9_copy 146 = .ok (.iload 5, 2) := by decide +kernel
theorem dX9_copy_148 : decode cX9_copy 148 = .ok (.if_icmp .ge 31, 3) := by decide +kernel
theorem dX9_copy_151 : decode cX9_copy 151 = .ok (.aload_n 0, 1) := by decide +kernel
theorem dX9_copy_152 : decode cX9_copy 152 = .ok (.getfield 99, 3) := by decide +kernel
theorem dX9_copy_155 : decode cX9_copy 155 = .ok (.bipush 60, 2) := by decide +kernel
theorem dX9_copy_157 : decode cX9_copy 157 = .ok (.iload_n 3, 1) := by decide +kernel
theorem dX9_copy_158 : decode cX9_copy 158 = .ok (.imul, 1) := by decide +kernel
theorem dX9_copy_159 : decode cX9_copy 159 = .ok (.iload 4, 2) := by decide +kernel
theorem dX9_copy_161 : decode cX9_copy 161 = .ok (.iadd, 1) := by decide +kernel
theorem dX9_copy_162 : decode cX9_copy 162 = .ok (.iload 6, 2) := by decide +kernel
theorem dX9_copy_164 : decode cX9_copy 164 = .ok (.iadd, 1) := by decide +kernel
theorem dX9_copy_165 : decode cX9_copy 165 = .ok (.aload_n 0, 1) := by decide +kernel
theorem dX9_copy_166 : decode cX9_copy 166 = .ok (.getfield 102, 3) := by decide +kernel
theorem dX9_copy_169 : decode cX9_copy 169 = .ok (.iload 6, 2) := by decide +kernel
theorem dX9_copy_171 : decode cX9_copy 171 = .ok (.iaload, 1) := by decide +kernel
theorem dX9_copy_172 : decode cX9_copy 172 = .ok (.iastore, 1) := by decide +kernel
theorem dX9_copy_173 : decode cX9_copy 173 = .ok (.iinc 6 1, 3) := by decide +kernel
theorem dX9_copy_176 : decode cX9_copy 176 = .ok (.goto (-32), 3) := by decide +kernel
theorem dX9_copy_179 : decode cX9_copy 179 = .ok (.aload_n 0, 1) := by decide +kernel
theorem dX9_copy_180 : decode cX9_copy 180 = .ok (.iload 5, 2) := by decide +kernel
theorem dX9_copy_182 : decode cX9_copy 182 = .ok (.invokevirtual 163, 3) := by decide +kernel
theorem dX9_copy_185 : decode cX9_copy 185 = .ok (.ireturn, 1) := by decide +kernel
theorem dX9_traced_0 : decode cX9_traced 0 = .ok (.aload_n 0, 1) := by decide +kernel
theorem dX9_traced_1 : decode cX9_traced 1 = .ok (.bipush 31, 2) := by decide +kernel
theorem dX9_traced_3 : decode cX9_traced 3 = .ok (.aload_n 0, 1) := by decide +kernel
theorem dX9_traced_4 : decode cX9_traced 4 = .ok (.getfield 317, 3) := by decide +kernel
theorem dX9_traced_7 : decode cX9_traced 7 = .ok (.imul, 1) := by decide +kernel
theorem dX9_traced_8 : decode cX9_traced 8 = .ok (.iload_n 1, 1) := by decide +kernel
theorem dX9_traced_9 : decode cX9_traced 9 = .ok (.iadd, 1) := by decide +kernel
theorem dX9_traced_10 : decode cX9_traced 10 = .ok (.putfield 317, 3) := by decide +kernel
theorem dX9_traced_13 : decode cX9_traced 13 = .ok (.return_, 1) := by decide +kernel
theorem dX9_tell_0 : decode cX9_tell 0 = .ok (.aload_n 0, 1) := by decide +kernel
theorem dX9_tell_1 : decode cX9_tell 1 = .ok (.iload_n 1, 1) := by decide +kernel
theorem dX9_tell_2 : decode cX9_tell 2 = .ok (.invokevirtual 202, 3) := by decide +kernel
theorem dX9_tell_5 : decode cX9_tell 5 = .ok (.ifCond .eq 5, 3) := by decide +kernel
theorem dX9_tell_8 : decode cX9_tell 8 = .ok (.iconst (-1), 1) := by decide +kernel
theorem dX9_tell_9 : decode cX9_tell 9 = .ok (.ireturn, 1) := by decide +kernel
theorem dX9_tell_10 : decode cX9_tell 10 = .ok (.aload_n 0, 1) := by decide +kernel
theorem dX9_tell_11 : decode cX9_tell 11 = .ok (.getfield 13, 3) := by decide +kernel
theorem dX9_tell_14 : decode cX9_tell 14 = .ok (.iload_n 1, 1) := by decide +kernel
theorem dX9_tell_15 : decode cX9_tell 15 = .ok (.iaload, 1) := by decide +kernel
theorem dX9_tell_16 : decode cX9_tell 16 = .ok (.istore_n 2, 1) := by decide +kernel
theorem dX9_tell_17 : decode cX9_tell 17 = .ok (.iload_n 2, 1) := by decide +kernel
theorem dX9_tell_18 : decode cX9_tell 18 = .ok (.iconst 2, 1) := by decide +kernel
theorem dX9_tell_19 : decode cX9_tell 19 = .ok (.if_icmp .ne 8, 3) := by decide +kernel
theorem dX9_tell_22 : decode cX9_tell 22 = .ok (.aload_n 0, 1) := by decide +kernel
theorem dX9_tell_23 : decode cX9_tell 23 = .ok (.iconst 3, 1) := by decide +kernel
theorem dX9_tell_24 : decode cX9_tell 24 = .ok (.invokevirtual 320, 3) := by decide +kernel
theorem dX9_tell_27 : decode cX9_tell 27 = .ok (.iload_n 2, 1) := by decide +kernel
theorem dX9_tell_28 : decode cX9_tell 28 = .ok (.ifCond .le 8, 3) := by decide +kernel
theorem dX9_tell_31 : decode cX9_tell 31 = .ok (.aload_n 0, 1) := by decide +kernel
theorem dX9_tell_32 : decode cX9_tell 32 = .ok (.iconst 2, 1) := by decide +kernel
theorem dX9_tell_33 : decode cX9_tell 33 = .ok (.invokevirtual 320, 3) := by decide +kernel
theorem dX9_tell_36 : decode cX9_tell 36 = .ok (.aload_n 0, 1) := by decide +kernel
theorem dX9_tell_37 : decode cX9_tell 37 = .ok (.iconst 1, 1) := by decide +kernel
theorem dX9_tell_38 : decode cX9_tell 38 = .ok (.invokevirtual 320, 3) := by decide +kernel
theorem dX9_tell_41 : decode cX9_tell 41 = .ok (.iload_n 2, 1) := by decide +kernel
theorem dX9_tell_42 : decode cX9_tell 42 = .ok (.iconst 2, 1) := by decide +kernel
theorem dX9_tell_43 : decode cX9_tell 43 = .ok (.if_icmp .ne 8, 3) := by decide +kernel
theorem dX9_tell_46 : decode cX9_tell 46 = .ok (.aload_n 0, 1) := by decide +kernel
theorem dX9_tell_47 : decode cX9_tell 47 = .ok (.iconst 1, 1) := by decide +kernel
theorem dX9_tell_48 : decode cX9_tell 48 = .ok (.invokevirtual 320, 3) := by decide +kernel
theorem dX9_tell_51 : decode cX9_tell 51 = .ok (.aload_n 0, 1) := by decide +kernel
theorem dX9_tell_52 : decode cX9_tell 52 = .ok (.getfield 16, 3) := by decide +kernel
theorem dX9_tell_55 : decode cX9_tell 55 = .ok (.iload_n 1, 1) := by decide +kernel
theorem dX9_tell_56 : decode cX9_tell 56 = .ok (.iaload, 1) := by decide +kernel
theorem dX9_tell_57 : decode cX9_tell 57 = .ok (.istore_n 3, 1) := by decide +kernel
theorem dX9_tell_58 : decode cX9_tell 58 = .ok (.iload_n 2, 1) := by decide +kernel
theorem dX9_tell_59 : decode cX9_tell 59 = .ok (.ifCond .ne 7, 3) := by decide +kernel
theorem dX9_tell_62 : decode cX9_tell 62 = .ok (.iload_n 3, 1) := by decide +kernel
theorem dX9_tell_63 : decode cX9_tell 63 = .ok (.goto 21, 3) := by decide +kernel
theorem dX9_tell_66 : decode cX9_tell 66 = .ok (.iload_n 2, 1) := by decide +kernel
theorem dX9_tell_67 : decode cX9_tell 67 = .ok (.iconst 1, 1) := by decide +kernel
theorem dX9_tell_68 : decode cX9_tell 68 = .ok (.if_icmp .ne 10, 3) := by decide +kernel
theorem dX9_tell_71 : decode cX9_tell 71 = .ok (.iload_n 3, 1) := by decide +kernel
theorem dX9_tell_72 : decode cX9_tell 72 = .ok (.bipush 100, 2) := by decide +kernel
theorem dX9_tell_74 : decode cX9_tell 74 = .ok (.iadd, 1) := by decide +kernel
theorem dX9_tell_75 : decode cX9_tell 75 = .ok (.goto 9, 3) := by decide +kernel
theorem dX9_tell_78 : decode cX9_tell 78 = .ok (.iconst 2, 1) := by decide +kernel
theorem dX9_tell_79 : decode cX9_tell 79 = .ok (.iload_n 3, 1) := by decide +kernel
theorem dX9_tell_80 : decode cX9_tell 80 = .ok (.imul, 1) := by decide +kernel
theorem dX9_tell_81 : decode cX9_tell 81 = .ok (.bipush 100, 2) := by decide +kernel
theorem dX9_tell_83 : decode cX9_tell 83 = .ok (.iadd, 1) := by decide +kernel
theorem dX9_tell_84 : decode cX9_tell 84 = .ok (.ireturn, 1) := by decide +kernel
theorem dX9_kick_0 : decode cX9_kick 0 = .ok (.aload_n 0, 1) := by decide +kernel
theorem dX9_kick_1 : decode cX9_kick 1 = .ok (.iload_n 1, 1) := by decide +kernel
theorem dX9_kick_2 : decode cX9_kick 2 = .ok (.invokevirtual 202, 3) := by decide +kernel
theorem dX9_kick_5 : decode cX9_kick 5 = .ok (.ifCond .eq 5, 3) := by decide +kernel
theorem dX9_kick_8 : decode cX9_kick 8 = .ok (.iconst (-1), 1) := by decide +kernel
theorem dX9_kick_9 : decode cX9_kick 9 = .ok (.ireturn, 1) := by decide +kernel
theorem dX9_kick_10 : decode cX9_kick 10 = .ok (.aload_n 0, 1) := by decide +kernel
theorem dX9_kick_11 : decode cX9_kick 11 = .ok (.aload_n 0, 1) := by decide +kernel
theorem dX9_kick_12 : decode cX9_kick 12 = .ok (.getfield 13, 3) := by decide +kernel
theorem dX9_kick_15 : decode cX9_kick 15 = .ok (.iload_n 1, 1) := by decide +kernel
theorem dX9_kick_16 : decode cX9_kick 16 = .ok (.iaload, 1) := by decide +kernel
theorem dX9_kick_17 : decode cX9_kick 17 = .ok (.iconst 2, 1) := by decide +kernel
theorem dX9_kick_18 : decode cX9_kick 18 = .ok (.if_icmp .ne 7, 3) := by decide +kernel
theorem dX9_kick_21 : decode cX9_kick 21 = .ok (.iconst 5, 1) := by decide +kernel
theorem dX9_kick_22 : decode cX9_kick 22 = .ok (.goto 4, 3) := by decide +kernel
theorem dX9_kick_25 : decode cX9_kick 25 = .ok (.iconst 4, 1) := by decide +kernel
theorem dX9_kick_26 : decode cX9_kick 26 = .ok (.invokevirtual 320, 3) := by decide +kernel
theorem dX9_kick_29 : decode cX9_kick 29 = .ok (.aload_n 0, 1) := by decide +kernel
theorem dX9_kick_30 : decode cX9_kick 30 = .ok (.getfield 13, 3) := by decide +kernel
theorem dX9_kick_33 : decode cX9_kick 33 = .ok (.iload_n 1, 1) := by decide +kernel
theorem dX9_kick_34 : decode cX9_kick 34 = .ok (.iaload, 1) := by decide +kernel
theorem dX9_kick_35 : decode cX9_kick 35 = .ok (.iconst 2, 1) := by decide +kernel
theorem dX9_kick_36 : decode cX9_kick 36 = .ok (.if_icmp .ne 8, 3) := by decide +kernel
theorem dX9_kick_39 : decode cX9_kick 39 = .ok (.bipush 60, 2) := by decide +kernel
theorem dX9_kick_41 : decode cX9_kick 41 = .ok (.goto 4, 3) := by decide +kernel
theorem dX9_kick_44 : decode cX9_kick 44 = .ok (.iload_n 1, 1) := by decide +kernel
theorem dX9_kick_45 : decode cX9_kick 45 = .ok (.ireturn, 1) := by decide +kernel
theorem dX9_as_0 : decode cX9_as 0 = .ok (.aload_n 0, 1) := by decide +kernel
theorem dX9_as_1 : decode cX9_as 1 = .ok (.iload_n 1, 1) := by decide +kernel
theorem dX9_as_2 : decode cX9_as 2 = .ok (.invokevirtual 202, 3) := by decide +kernel
theorem dX9_as_5 : decode cX9_as 5 = .ok (.ifCond .eq 9, 3) := by decide +kernel
theorem dX9_as_8 : decode cX9_as 8 = .ok (.aload_n 0, 1) := by decide +kernel
theorem dX9_as_9 : decode cX9_as 9 = .ok (.iconst (-1), 1) := by decide +kernel
theorem dX9_as_10 : decode cX9_as 10 = .ok (.invokevirtual 163, 3) := by decide +kernel
theorem dX9_as_13 : decode cX9_as 13 = .ok (.ireturn, 1) := by decide +kernel
theorem dX9_as_14 : decode cX9_as 14 = .ok (.iload_n 2, 1) := by decide +kernel
theorem dX9_as_15 : decode cX9_as 15 = .ok (.i2l, 1) := by decide +kernel
theorem dX9_as_16 : decode cX9_as 16 = .ok (.lconst 0, 1) := by decide +kernel
theorem dX9_as_17 : decode cX9_as 17 = .ok (.ldc2_w 166, 3) := by decide +kernel
theorem dX9_as_20 : decode cX9_as 20 = .ok (.invokestatic 142, 3) := by decide +kernel
theorem dX9_as_23 : decode cX9_as 23 = .ok (.ifCond .ne 10, 3) := by decide +kernel
theorem dX9_as_26 : decode cX9_as 26 = .ok (.aload_n 0, 1) := by decide +kernel
theorem dX9_as_27 : decode cX9_as 27 = .ok (.bipush (-2), 2) := by decide +kernel
theorem dX9_as_29 : decode cX9_as 29 = .ok (.invokevirtual 163, 3) := by decide +kernel
theorem dX9_as_32 : decode cX9_as 32 = .ok (.ireturn, 1) := by decide +kernel
theorem dX9_as_33 : decode cX9_as 33 = .ok (.aload_n 0, 1) := by decide +kernel
theorem dX9_as_34 : decode cX9_as 34 = .ok (.getfield 13, 3) := by decide +kernel
theorem dX9_as_37 : decode cX9_as 37 = .ok (.iload_n 1, 1) := by decide +kernel
theorem dX9_as_38 : decode cX9_as 38 = .ok (.iaload, 1) := by decide +kernel
theorem dX9_as_39 : decode cX9_as 39 = .ok (.iload_n 2, 1) := by decide +kernel
theorem dX9_as_40 : decode cX9_as 40 = .ok (.if_icmp .lt 11, 3) := by decide +kernel
theorem dX9_as_43 : decode cX9_as 43 = .ok (.aload_n 0, 1) := by decide +kernel
theorem dX9_as_44 : decode cX9_as 44 = .ok (.iconst 1, 1) := by decide +kernel
theorem dX9_as_45 : decode cX9_as 45 = .ok (.invokevirtual 163, 3) := by decide +kernel
theorem dX9_as_48 : decode cX9_as 48 = .ok (.goto 8, 3) := by decide +kernel
theorem dX9_as_51 : decode cX9_as 51 = .ok (.aload_n 0, 1) := by decide +kernel
theorem dX9_as_52 : decode cX9_as 52 = .ok (.iconst 2, 1) := by decide +kernel
theorem dX9_as_53 : decode cX9_as 53 = .ok (.invokevirtual 168, 3) := by decide +kernel
theorem dX9_as_56 : decode cX9_as 56 = .ok (.ireturn, 1) := by decide +kernel
theorem dX9_trace_0 : decode cX9_trace 0 = .ok (.aload_n 0, 1) := by decide +kernel
theorem dX9_trace_1 : decode cX9_trace 1 = .ok (.getfield 317, 3) := by decide +kernel
theorem dX9_trace_4 : decode cX9_trace 4 = .ok (.ireturn, 1) := by decide +kernel
theorem dX9_fault_0 : decode cX9_fault 0 = .ok (.aload_n 0, 1) := by decide +kernel
theorem dX9_fault_1 : decode cX9_fault 1 = .ok (.getfield 107, 3) := by decide +kernel
theorem dX9_fault_4 : decode cX9_fault 4 = .ok (.ireturn, 1) := by decide +kernel
theorem dX9_cracksOpen_0 : decode cX9_cracksOpen 0 = .ok (.iconst 0, 1) := by decide +kernel
theorem dX9_cracksOpen_1 : decode cX9_cracksOpen 1 = .ok (.istore_n 1, 1) := by decide +kernel
theorem dX9_cracksOpen_2 : decode cX9_cracksOpen 2 = .ok (.iconst 0, 1) := by decide +kernel
theorem dX9_cracksOpen_3 : decode cX9_cracksOpen 3 = .ok (.istore_n 2, 1) := by decide +kernel
theorem dX9_cracksOpen_4 : decode cX9_cracksOpen 4 = .ok (.iload_n 2, 1) := by decide +kernel
theorem dX9_cracksOpen_5 : decode cX9_cracksOpen 5 = .ok (.aload_n 0, 1) := by decide +kernel
theorem dX9_cracksOpen_6 : decode cX9_cracksOpen 6 = .ok (.invokevirtual 182, 3) := by decide +kernel
theorem dX9_cracksOpen_9 : decode cX9_cracksOpen 9 = .ok (.if_icmp .ge 40, 3) := by decide +kernel
theorem dX9_cracksOpen_12 : decode cX9_cracksOpen 12 = .ok (.iload_n 1, 1) := by decide +kernel
theorem dX9_cracksOpen_13 : decode cX9_cracksOpen 13 = .ok (.aload_n 0, 1) := by decide +kernel
theorem dX9_cracksOpen_14 : decode cX9_cracksOpen 14 = .ok (.getfield 7, 3) := by decide +kernel
theorem dX9_cracksOpen_17 : decode cX9_cracksOpen 17 = .ok (.iload_n 2, 1) := by decide +kernel
theorem dX9_cracksOpen_18 : decode cX9_cracksOpen 18 = .ok (.iaload, 1) := by decide +kernel
theorem dX9_cracksOpen_19 : decode cX9_cracksOpen 19 = .ok (.iconst 3, 1) := by decide +kernel
theorem dX9_cracksOpen_20 : decode cX9_cracksOpen 20 = .ok (.if_icmp .ne 20, 3) := by decide +kernel
theorem dX9_cracksOpen_23 : decode cX9_cracksOpen 23 = .ok (.aload_n 0, 1) := by decide +kernel
theorem dX9_cracksOpen_24 : decode cX9_cracksOpen 24 = .ok (.getfield 186, 3) := by decide +kernel
theorem dX9_cracksOpen_27 : decode cX9_cracksOpen 27 = .ok (.iload_n 2, 1) := by decide +kernel
theorem dX9_cracksOpen_28 : decode cX9_cracksOpen 28 = .ok (.lshr, 1) := by decide +kernel
theorem dX9_cracksOpen_29 : decode cX9_cracksOpen 29 = .ok (.lconst 1, 1) := by decide +kernel
theorem dX9_cracksOpen_30 : decode cX9_cracksOpen 30 = .ok (.land, 1) := by decide +kernel
theorem dX9_cracksOpen_31 : decode cX9_cracksOpen 31 = .ok (.lconst 0, 1) := by decide +kernel
theorem dX9_cracksOpen_32 : decode cX9_cracksOpen 32 = .ok (.lcmp, 1) := by decide +kernel
theorem dX9_cracksOpen_33 : decode cX9_cracksOpen 33 = .ok (.ifCond .ne 7, 3) := by decide +kernel
theorem dX9_cracksOpen_36 : decode cX9_cracksOpen 36 = .ok (.iconst 1, 1) := by decide +kernel
theorem dX9_cracksOpen_37 : decode cX9_cracksOpen 37 = .ok (.goto 4, 3) := by decide +kernel
theorem dX9_cracksOpen_40 : decode cX9_cracksOpen 40 = .ok (.iconst 0, 1) := by decide +kernel
theorem dX9_cracksOpen_41 : decode cX9_cracksOpen 41 = .ok (.iadd, 1) := by decide +kernel
theorem dX9_cracksOpen_42 : decode cX9_cracksOpen 42 = .ok (.istore_n 1, 1) := by decide +kernel
theorem dX9_cracksOpen_43 : decode cX9_cracksOpen 43 = .ok (.iinc 2 1, 3) := by decide +kernel
theorem dX9_cracksOpen_46 : decode cX9_cracksOpen 46 = .ok (.goto (-42), 3) := by decide +kernel
theorem dX9_cracksOpen_49 : decode cX9_cracksOpen 49 = .ok (.iload_n 1, 1) := by decide +kernel
theorem dX9_cracksOpen_50 : decode cX9_cracksOpen 50 = .ok (.ireturn, 1) := by decide +kernel
theorem dX9_many_0 : decode cX9_many 0 = .ok (.iload_n 1, 1) := by decide +kernel
theorem dX9_many_1 : decode cX9_many 1 = .ok (.tableswitch 60 0 4 #[35, 40, 45, 50, 55], 35) := by decide +kernel
theorem dX9_many_36 : decode cX9_many 36 = .ok (.aload_n 0, 1) := by decide +kernel
theorem dX9_many_37 : decode cX9_many 37 = .ok (.getfield 115, 3) := by decide +kernel
theorem dX9_many_40 : decode cX9_many 40 = .ok (.ireturn, 1) := by decide +kernel
theorem dX9_many_41 : decode cX9_many 41 = .ok (.aload_n 0, 1) := by decide +kernel
theorem dX9_many_42 : decode cX9_many 42 = .ok (.getfield 118, 3) := by decide +kernel
theorem dX9_many_45 : decode cX9_many 45 = .ok (.ireturn, 1) := by decide +kernel
theorem dX9_many_46 : decode cX9_many 46 = .ok (.aload_n 0, 1) := by decide +kernel
theorem dX9_many_47 : decode cX9_many 47 = .ok (.getfield 179, 3) := by decide +kernel
theorem dX9_many_50 : decode cX9_many 50 = .ok (.ireturn, 1) := by decide +kernel
theorem dX9_many_51 : decode cX9_many 51 = .ok (.aload_n 0, 1) := by decide +kernel
theorem dX9_many_52 : decode cX9_many 52 = .ok (.invokevirtual 323, 3) := by decide +kernel
theorem dX9_many_55 : decode cX9_many 55 = .ok (.ireturn, 1) := by decide +kernel
theorem dX9_many_56 : decode cX9_many 56 = .ok (.aload_n 0, 1) := by decide +kernel
theorem dX9_many_57 : decode cX9_many 57 = .ok (.getfield 193, 3) := by decide +kernel
theorem dX9_many_60 : decode cX9_many 60 = .ok (.ireturn, 1) := by decide +kernel
theorem dX9_many_61 : decode cX9_many 61 = .ok (.bipush (-2), 2) := by decide +kernel
theorem dX9_many_63 : decode cX9_many 63 = .ok (.ireturn, 1) := by decide +kernel
theorem dJ13_bitCount_95d88_0 : decode cJ13_bitCount_95d88 0 = .ok (.lload_n 0, 1) := by decide +kernel
theorem dJ13_bitCount_95d88_1 : decode cJ13_bitCount_95d88 1 = .ok (.lload_n 0, 1) := by decide +kernel
theorem dJ13_bitCount_95d88_2 : decode cJ13_bitCount_95d88 2 = .ok (.iconst 1, 1) := by decide +kernel
theorem dJ13_bitCount_95d88_3 : decode cJ13_bitCount_95d88 3 = .ok (.lushr, 1) := by decide +kernel
theorem dJ13_bitCount_95d88_4 : decode cJ13_bitCount_95d88 4 = .ok (.ldc2_w 314, 3) := by decide +kernel
theorem dJ13_bitCount_95d88_7 : decode cJ13_bitCount_95d88 7 = .ok (.land, 1) := by decide +kernel
theorem dJ13_bitCount_95d88_8 : decode cJ13_bitCount_95d88 8 = .ok (.lsub, 1) := by decide +kernel
theorem dJ13_bitCount_95d88_9 : decode cJ13_bitCount_95d88 9 = .ok (.lstore_n 0, 1) := by decide +kernel
theorem dJ13_bitCount_95d88_10 : decode cJ13_bitCount_95d88 10 = .ok (.lload_n 0, 1) := by decide +kernel
theorem dJ13_bitCount_95d88_11 : decode cJ13_bitCount_95d88 11 = .ok (.ldc2_w 316, 3) := by decide +kernel
theorem dJ13_bitCount_95d88_14 : decode cJ13_bitCount_95d88 14 = .ok (.land, 1) := by decide +kernel
theorem dJ13_bitCount_95d88_15 : decode cJ13_bitCount_95d88 15 = .ok (.lload_n 0, 1) := by decide +kernel
theorem dJ13_bitCount_95d88_16 : decode cJ13_bitCount_95d88 16 = .ok (.iconst 2, 1) := by decide +kernel
theorem dJ13_bitCount_95d88_17 : decode cJ13_bitCount_95d88 17 = .ok (.lushr, 1) := by decide +kernel
theorem dJ13_bitCount_95d88_18 : decode cJ13_bitCount_95d88 18 = .ok (.ldc2_w 316, 3) := by decide +kernel
theorem dJ13_bitCount_95d88_21 : decode cJ13_bitCount_95d88 21 = .ok (.land, 1) := by decide +kernel
theorem dJ13_bitCount_95d88_22 : decode cJ13_bitCount_95d88 22 = .ok (.ladd, 1) := by decide +kernel
theorem dJ13_bitCount_95d88_23 : decode cJ13_bitCount_95d88 23 = .ok (.lstore_n 0, 1) := by decide +kernel
theorem dJ13_bitCount_95d88_24 : decode cJ13_bitCount_95d88 24 = .ok (.lload_n 0, 1) := by decide +kernel
theorem dJ13_bitCount_95d88_25 : decode cJ13_bitCount_95d88 25 = .ok (.lload_n 0, 1) := by decide +kernel
theorem dJ13_bitCount_95d88_26 : decode cJ13_bitCount_95d88 26 = .ok (.iconst 4, 1) := by decide +kernel
theorem dJ13_bitCount_95d88_27 : decode cJ13_bitCount_95d88 27 = .ok (.lushr, 1) := by decide +kernel
theorem dJ13_bitCount_95d88_28 : decode cJ13_bitCount_95d88 28 = .ok (.ladd, 1) := by decide +kernel
theorem dJ13_bitCount_95d88_29 : decode cJ13_bitCount_95d88 29 = .ok (.ldc2_w 318, 3) := by decide +kernel
theorem dJ13_bitCount_95d88_32 : decode cJ13_bitCount_95d88 32 = .ok (.land, 1) := by decide +kernel
theorem dJ13_bitCount_95d88_33 : decode cJ13_bitCount_95d88 33 = .ok (.lstore_n 0, 1) := by decide +kernel
theorem dJ13_bitCount_95d88_34 : decode cJ13_bitCount_95d88 34 = .ok (.lload_n 0, 1) := by decide +kernel
theorem dJ13_bitCount_95d88_35 : decode cJ13_bitCount_95d88 35 = .ok (.lload_n 0, 1) := by decide +kernel
theorem dJ13_bitCount_95d88_36 : decode cJ13_bitCount_95d88 36 = .ok (.bipush 8, 2) := by decide +kernel
theorem dJ13_bitCount_95d88_38 : decode cJ13_bitCount_95d88 38 = .ok (.lushr, 1) := by decide +kernel
theorem dJ13_bitCount_95d88_39 : decode cJ13_bitCount_95d88 39 = .ok (.ladd, 1) := by decide +kernel
theorem dJ13_bitCount_95d88_40 : decode cJ13_bitCount_95d88 40 = .ok (.lstore_n 0, 1) := by decide +kernel
theorem dJ13_bitCount_95d88_41 : decode cJ13_bitCount_95d88 41 = .ok (.lload_n 0, 1) := by decide +kernel
theorem dJ13_bitCount_95d88_42 : decode cJ13_bitCount_95d88 42 = .ok (.lload_n 0, 1) := by decide +kernel
theorem dJ13_bitCount_95d88_43 : decode cJ13_bitCount_95d88 43 = .ok (.bipush 16, 2) := by decide +kernel
theorem dJ13_bitCount_95d88_45 : decode cJ13_bitCount_95d88 45 = .ok (.lushr, 1) := by decide +kernel
theorem dJ13_bitCount_95d88_46 : decode cJ13_bitCount_95d88 46 = .ok (.ladd, 1) := by decide +kernel
theorem dJ13_bitCount_95d88_47 : decode cJ13_bitCount_95d88 47 = .ok (.lstore_n 0, 1) := by decide +kernel
theorem dJ13_bitCount_95d88_48 : decode cJ13_bitCount_95d88 48 = .ok (.lload_n 0, 1) := by decide +kernel
theorem dJ13_bitCount_95d88_49 : decode cJ13_bitCount_95d88 49 = .ok (.lload_n 0, 1) := by decide +kernel
theorem dJ13_bitCount_95d88_50 : decode cJ13_bitCount_95d88 50 = .ok (.bipush 32, 2) := by decide +kernel
theorem dJ13_bitCount_95d88_52 : decode cJ13_bitCount_95d88 52 = .ok (.lushr, 1) := by decide +kernel
theorem dJ13_bitCount_95d88_53 : decode cJ13_bitCount_95d88 53 = .ok (.ladd, 1) := by decide +kernel
theorem dJ13_bitCount_95d88_54 : decode cJ13_bitCount_95d88 54 = .ok (.lstore_n 0, 1) := by decide +kernel
theorem dJ13_bitCount_95d88_55 : decode cJ13_bitCount_95d88 55 = .ok (.lload_n 0, 1) := by decide +kernel
theorem dJ13_bitCount_95d88_56 : decode cJ13_bitCount_95d88 56 = .ok (.l2i, 1) := by decide +kernel
theorem dJ13_bitCount_95d88_57 : decode cJ13_bitCount_95d88 57 = .ok (.bipush 127, 2) := by decide +kernel
theorem dJ13_bitCount_95d88_59 : decode cJ13_bitCount_95d88 59 = .ok (.iand, 1) := by decide +kernel
theorem dJ13_bitCount_95d88_60 : decode cJ13_bitCount_95d88 60 = .ok (.ireturn, 1) := by decide +kernel
theorem dJ9_min_7cf53_0 : decode cJ9_min_7cf53 0 = .ok (.iload_n 0, 1) := by decide +kernel
theorem dJ9_min_7cf53_1 : decode cJ9_min_7cf53 1 = .ok (.iload_n 1, 1) := by decide +kernel
theorem dJ9_min_7cf53_2 : decode cJ9_min_7cf53 2 = .ok (.if_icmp .gt 7, 3) := by decide +kernel
theorem dJ9_min_7cf53_5 : decode cJ9_min_7cf53 5 = .ok (.iload_n 0, 1) := by decide +kernel
theorem dJ9_min_7cf53_6 : decode cJ9_min_7cf53 6 = .ok (.goto 4, 3) := by decide +kernel
theorem dJ9_min_7cf53_9 : decode cJ9_min_7cf53 9 = .ok (.iload_n 1, 1) := by decide +kernel
theorem dJ9_min_7cf53_10 : decode cJ9_min_7cf53 10 = .ok (.ireturn, 1) := by decide +kernel
theorem dJ7_fill_d0a16_0 : decode cJ7_fill_d0a16 0 = .ok (.iconst 0, 1) := by decide +kernel
theorem dJ7_fill_d0a16_1 : decode cJ7_fill_d0a16 1 = .ok (.istore_n 3, 1) := by decide +kernel
theorem dJ7_fill_d0a16_2 : decode cJ7_fill_d0a16 2 = .ok (.aload_n 0, 1) := by decide +kernel
theorem dJ7_fill_d0a16_3 : decode cJ7_fill_d0a16 3 = .ok (.arraylength, 1) := by decide +kernel
theorem dJ7_fill_d0a16_4 : decode cJ7_fill_d0a16 4 = .ok (.istore 4, 2) := by decide +kernel
theorem dJ7_fill_d0a16_6 : decode cJ7_fill_d0a16 6 = .ok (.iload_n 3, 1) := by decide +kernel
theorem dJ7_fill_d0a16_7 : decode cJ7_fill_d0a16 7 = .ok (.iload 4, 2) := by decide +kernel
theorem dJ7_fill_d0a16_9 : decode cJ7_fill_d0a16 9 = .ok (.if_icmp .ge 13, 3) := by decide +kernel
theorem dJ7_fill_d0a16_12 : decode cJ7_fill_d0a16 12 = .ok (.aload_n 0, 1) := by decide +kernel
theorem dJ7_fill_d0a16_13 : decode cJ7_fill_d0a16 13 = .ok (.iload_n 3, 1) := by decide +kernel
theorem dJ7_fill_d0a16_14 : decode cJ7_fill_d0a16 14 = .ok (.lload_n 1, 1) := by decide +kernel
theorem dJ7_fill_d0a16_15 : decode cJ7_fill_d0a16 15 = .ok (.lastore, 1) := by decide +kernel
theorem dJ7_fill_d0a16_16 : decode cJ7_fill_d0a16 16 = .ok (.iinc 3 1, 3) := by decide +kernel
theorem dJ7_fill_d0a16_19 : decode cJ7_fill_d0a16 19 = .ok (.goto (-13), 3) := by decide +kernel
theorem dJ7_fill_d0a16_22 : decode cJ7_fill_d0a16 22 = .ok (.return_, 1) := by decide +kernel
theorem dJ7_fill_53178_0 : decode cJ7_fill_53178 0 = .ok (.iconst 0, 1) := by decide +kernel
theorem dJ7_fill_53178_1 : decode cJ7_fill_53178 1 = .ok (.istore_n 2, 1) := by decide +kernel
theorem dJ7_fill_53178_2 : decode cJ7_fill_53178 2 = .ok (.aload_n 0, 1) := by decide +kernel
theorem dJ7_fill_53178_3 : decode cJ7_fill_53178 3 = .ok (.arraylength, 1) := by decide +kernel
theorem dJ7_fill_53178_4 : decode cJ7_fill_53178 4 = .ok (.istore_n 3, 1) := by decide +kernel
theorem dJ7_fill_53178_5 : decode cJ7_fill_53178 5 = .ok (.iload_n 2, 1) := by decide +kernel
theorem dJ7_fill_53178_6 : decode cJ7_fill_53178 6 = .ok (.iload_n 3, 1) := by decide +kernel
theorem dJ7_fill_53178_7 : decode cJ7_fill_53178 7 = .ok (.if_icmp .ge 13, 3) := by decide +kernel
theorem dJ7_fill_53178_10 : decode cJ7_fill_53178 10 = .ok (.aload_n 0, 1) := by decide +kernel
theorem dJ7_fill_53178_11 : decode cJ7_fill_53178 11 = .ok (.iload_n 2, 1) := by decide +kernel
theorem dJ7_fill_53178_12 : decode cJ7_fill_53178 12 = .ok (.iload_n 1, 1) := by decide +kernel
theorem dJ7_fill_53178_13 : decode cJ7_fill_53178 13 = .ok (.iastore, 1) := by decide +kernel
theorem dJ7_fill_53178_14 : decode cJ7_fill_53178 14 = .ok (.iinc 2 1, 3) := by decide +kernel
theorem dJ7_fill_53178_17 : decode cJ7_fill_53178 17 = .ok (.goto (-12), 3) := by decide +kernel
theorem dJ7_fill_53178_20 : decode cJ7_fill_53178 20 = .ok (.return_, 1) := by decide +kernel
theorem dL_law_0 : decode cL_law 0 = .ok (.new 7, 3) := by decide +kernel
theorem dL_law_3 : decode cL_law 3 = .ok (.dup, 1) := by decide +kernel
theorem dL_law_4 : decode cL_law 4 = .ok (.invokespecial 9, 3) := by decide +kernel
theorem dL_law_7 : decode cL_law 7 = .ok (.astore_n 1, 1) := by decide +kernel
theorem dL_law_8 : decode cL_law 8 = .ok (.new 10, 3) := by decide +kernel
theorem dL_law_11 : decode cL_law 11 = .ok (.dup, 1) := by decide +kernel
theorem dL_law_12 : decode cL_law 12 = .ok (.invokespecial 12, 3) := by decide +kernel
theorem dL_law_15 : decode cL_law 15 = .ok (.astore_n 2, 1) := by decide +kernel
theorem dL_law_16 : decode cL_law 16 = .ok (.iconst 0, 1) := by decide +kernel
theorem dL_law_17 : decode cL_law 17 = .ok (.istore_n 3, 1) := by decide +kernel
theorem dL_law_18 : decode cL_law 18 = .ok (.iload_n 3, 1) := by decide +kernel
theorem dL_law_19 : decode cL_law 19 = .ok (.aload_n 0, 1) := by decide +kernel
theorem dL_law_20 : decode cL_law 20 = .ok (.arraylength, 1) := by decide +kernel
theorem dL_law_21 : decode cL_law 21 = .ok (.bipush 6, 2) := by decide +kernel
theorem dL_law_23 : decode cL_law 23 = .ok (.isub, 1) := by decide +kernel
theorem dL_law_24 : decode cL_law 24 = .ok (.if_icmp .gt 984, 3) := by decide +kernel
theorem dL_law_27 : decode cL_law 27 = .ok (.aload_n 0, 1) := by decide +kernel
theorem dL_law_28 : decode cL_law 28 = .ok (.iload_n 3, 1) := by decide +kernel
theorem dL_law_29 : decode cL_law 29 = .ok (.iaload, 1) := by decide +kernel
theorem dL_law_30 : decode cL_law 30 = .ok (.bipush 31, 2) := by decide +kernel
theorem dL_law_32 : decode cL_law 32 = .ok (.iand, 1) := by decide +kernel
theorem dL_law_33 : decode cL_law 33 = .ok (.tableswitch 969 0 25 #[119, 172, 195, 228, 261, 294, 328, 351, 374, 397, 430, 453, 476, 549, 602, 625, 668, 691, 734, 778, 841, 864, 887, 920, 933, 946], 119) := by decide +kernel
theorem dL_law_152 : decode cL_law 152 = .ok (.aload_n 1, 1) := by decide +kernel
theorem dL_law_153 : decode cL_law 153 = .ok (.aload_n 0, 1) := by decide +kernel
theorem dL_law_154 : decode cL_law 154 = .ok (.iload_n 3, 1) := by decide +kernel
theorem dL_law_155 : decode cL_law 155 = .ok (.iconst 1, 1) := by decide +kernel
theorem dL_law_156 : decode cL_law 156 = .ok (.iadd, 1) := by decide +kernel
theorem dL_law_157 : decode cL_law 157 = .ok (.iaload, 1) := by decide +kernel
theorem dL_law_158 : decode cL_law 158 = .ok (.aload_n 0, 1) := by decide +kernel
theorem dL_law_159 : decode cL_law 159 = .ok (.iload_n 3, 1) := by decide +kernel
theorem dL_law_160 : decode cL_law 160 = .ok (.iconst 2, 1) := by decide +kernel
theorem dL_law_161 : decode cL_law 161 = .ok (.iadd, 1) := by decide +kernel
theorem dL_law_162 : decode cL_law 162 = .ok (.iaload, 1) := by decide +kernel
theorem dL_law_163 : decode cL_law 163 = .ok (.aload_n 0, 1) := by decide +kernel
theorem dL_law_164 : decode cL_law 164 = .ok (.iload_n 3, 1) := by decide +kernel
theorem dL_law_165 : decode cL_law 165 = .ok (.iconst 3, 1) := by decide +kernel
theorem dL_law_166 : decode cL_law 166 = .ok (.iadd, 1) := by decide +kernel
theorem dL_law_167 : decode cL_law 167 = .ok (.iaload, 1) := by decide +kernel
theorem dL_law_168 : decode cL_law 168 = .ok (.aload_n 0, 1) := by decide +kernel
theorem dL_law_169 : decode cL_law 169 = .ok (.iload_n 3, 1) := by decide +kernel
theorem dL_law_170 : decode cL_law 170 = .ok (.iconst 4, 1) := by decide +kernel
theorem dL_law_171 : decode cL_law 171 = .ok (.iadd, 1) := by decide +kernel
theorem dL_law_172 : decode cL_law 172 = .ok (.iaload, 1) := by decide +kernel
theorem dL_law_173 : decode cL_law 173 = .ok (.invokevirtual 13, 3) := by decide +kernel
theorem dL_law_176 : decode cL_law 176 = .ok (.aload_n 2, 1) := by decide +kernel
theorem dL_law_177 : decode cL_law 177 = .ok (.aload_n 0, 1) := by decide +kernel
theorem dL_law_178 : decode cL_law 178 = .ok (.iload_n 3, 1) := by decide +kernel
theorem dL_law_179 : decode cL_law 179 = .ok (.iconst 1, 1) := by decide +kernel
theorem dL_law_180 : decode cL_law 180 = .ok (.iadd, 1) := by decide +kernel
theorem dL_law_181 : decode cL_law 181 = .ok (.iaload, 1) := by decide +kernel
theorem dL_law_182 : decode cL_law 182 = .ok (.aload_n 0, 1) := by decide +kernel
theorem dL_law_183 : decode cL_law 183 = .ok (.iload_n 3, 1) := by decide +kernel
theorem dL_law_184 : decode cL_law 184 = .ok (.iconst 2, 1) := by decide +kernel
theorem dL_law_185 : decode cL_law 185 = .ok (.iadd, 1) := by decide +kernel
theorem dL_law_186 : decode cL_law 186 = .ok (.iaload, 1) := by decide +kernel
theorem dL_law_187 : decode cL_law 187 = .ok (.aload_n 0, 1) := by decide +kernel
theorem dL_law_188 : decode cL_law 188 = .ok (.iload_n 3, 1) := by decide +kernel
theorem dL_law_189 : decode cL_law 189 = .ok (.iconst 3, 1) := by decide +kernel
theorem dL_law_190 : decode cL_law 190 = .ok (.iadd, 1) := by decide +kernel
theorem dL_law_191 : decode cL_law 191 = .ok (.iaload, 1) := by decide +kernel
theorem dL_law_192 : decode cL_law 192 = .ok (.aload_n 0, 1) := by decide +kernel
theorem dL_law_193 : decode cL_law 193 = .ok (.iload_n 3, 1) := by decide +kernel
theorem dL_law_194 : decode cL_law 194 = .ok (.iconst 4, 1) := by decide +kernel
theorem dL_law_195 : decode cL_law 195 = .ok (.iadd, 1) := by decide +kernel
theorem dL_law_196 : decode cL_law 196 = .ok (.iaload, 1) := by decide +kernel
theorem dL_law_197 : decode cL_law 197 = .ok (.invokevirtual 17, 3) := by decide +kernel
theorem dL_law_200 : decode cL_law 200 = .ok (.if_icmp .eq 802, 3) := by decide +kernel
theorem dL_law_203 : decode cL_law 203 = .ok (.iconst 0, 1) := by decide +kernel
theorem dL_law_204 : decode cL_law 204 = .ok (.ireturn, 1) := by decide +kernel
theorem dL_law_205 : decode cL_law 205 = .ok (.aload_n 1, 1) := by decide +kernel
theorem dL_law_206 : decode cL_law 206 = .ok (.aload_n 0, 1) := by decide +kernel
theorem dL_law_207 : decode cL_law 207 = .ok (.iload_n 3, 1) := by decide +kernel
theorem dL_law_208 : decode cL_law 208 = .ok (.iconst 1, 1) := by decide +kernel
theorem dL_law_209 : decode cL_law 209 = .ok (.iadd, 1) := by decide +kernel
theorem dL_law_210 : decode cL_law 210 = .ok (.iaload, 1) := by decide +kernel
theorem dL_law_211 : decode cL_law 211 = .ok (.invokevirtual 18, 3) := by decide +kernel
theorem dL_law_214 : decode cL_law 214 = .ok (.aload_n 2, 1) := by decide +kernel
theorem dL_law_215 : decode cL_law 215 = .ok (.aload_n 0, 1) := by decide +kernel
theorem dL_law_216 : decode cL_law 216 = .ok (.iload_n 3, 1) := by decide +kernel
theorem dL_law_217 : decode cL_law 217 = .ok (.iconst 1, 1) := by decide +kernel
theorem dL_law_218 : decode cL_law 218 = .ok (.iadd, 1) := by decide +kernel
theorem dL_law_219 : decode cL_law 219 = .ok (.iaload, 1) := by decide +kernel
theorem dL_law_220 : decode cL_law 220 = .ok (.invokevirtual 22, 3) := by decide +kernel
theorem dL_law_223 : decode cL_law 223 = .ok (.if_icmp .eq 779, 3) := by decide +kernel
theorem dL_law_226 : decode cL_law 226 = .ok (.iconst 0, 1) := by decide +kernel
theorem dL_law_227 : decode cL_law 227 = .ok (.ireturn, 1) := by decide +kernel
theorem dL_law_228 : decode cL_law 228 = .ok (.aload_n 1, 1) := by decide +kernel
theorem dL_law_229 : decode cL_law 229 = .ok (.aload_n 0, 1) := by decide +kernel
theorem dL_law_230 : decode cL_law 230 = .ok (.iload_n 3, 1) := by decide +kernel
theorem dL_law_231 : decode cL_law 231 = .ok (.iconst 1, 1) := by decide +kernel
theorem dL_law_232 : decode cL_law 232 = .ok (.iadd, 1) := by decide +kernel
theorem dL_law_233 : decode cL_law 233 = .ok (.iaload, 1) := by decide +kernel
theorem dL_law_234 : decode cL_law 234 = .ok (.aload_n 0, 1) := by decide +kernel
theorem dL_law_235 : decode cL_law 235 = .ok (.iload_n 3, 1) := by decide +kernel
theorem dL_law_236 : decode cL_law 236 = .ok (.iconst 2, 1) := by decide +kernel
theorem dL_law_237 : decode cL_law 237 = .ok (.iadd, 1) := by decide +kernel
theorem dL_law_238 : decode cL_law 238 = .ok (.iaload, 1) := by decide +kernel
theorem dL_law_239 : decode cL_law 239 = .ok (.invokevirtual 23, 3) := by decide +kernel
theorem dL_law_242 : decode cL_law 242 = .ok (.aload_n 2, 1) := by decide +kernel
theorem dL_law_243 : decode cL_law 243 = .ok (.aload_n 0, 1) := by decide +kernel
theorem dL_law_244 : decode cL_law 244 = .ok (.iload_n 3, 1) := by decide +kernel
theorem dL_law_245 : decode cL_law 245 = .ok (.iconst 1, 1) := by decide +kernel
theorem dL_law_246 : decode cL_law 246 = .ok (.iadd, 1) := by decide +kernel
theorem dL_law_247 : decode cL_law 247 = .ok (.iaload, 1) := by decide +kernel
theorem dL_law_248 : decode cL_law 248 = .ok (.aload_n 0, 1) := by decide +kernel
theorem dL_law_249 : decode cL_law 249 = .ok (.iload_n 3, 1) := by decide +kernel
theorem dL_law_250 : decode cL_law 250 = .ok (.iconst 2, 1) := by decide +kernel
theorem dL_law_251 : decode cL_law 251 = .ok (.iadd, 1) := by decide +kernel
theorem dL_law_252 : decode cL_law 252 = .ok (.iaload, 1) := by decide +kernel
theorem dL_law_253 : decode cL_law 253 = .ok (.invokevirtual 27, 3) := by decide +kernel
theorem dL_law_256 : decode cL_law 256 = .ok (.if_icmp .eq 746, 3) := by decide +kernel
theorem dL_law_259 : decode cL_law 259 = .ok (.iconst 0, 1) := by decide +kernel
theorem dL_law_260 : decode cL_law 260 = .ok (.ireturn, 1) := by decide +kernel
theorem dL_law_261 : decode cL_law 261 = .ok (.aload_n 1, 1) := by decide +kernel
theorem dL_law_262 : decode cL_law 262 = .ok (.aload_n 0, 1) := by decide +kernel
theorem dL_law_263 : decode cL_law 263 = .ok (.iload_n 3, 1) := by decide +kernel
theorem dL_law_264 : decode cL_law 264 = .ok (.iconst 1, 1) := by decide +kernel
theorem dL_law_265 : decode cL_law 265 = .ok (.iadd, 1) := by decide +kernel
theorem dL_law_266 : decode cL_law 266 = .ok (.iaload, 1) := by decide +kernel
theorem dL_law_267 : decode cL_law 267 = .ok (.aload_n 0, 1) := by decide +kernel
theorem dL_law_268 : decode cL_law 268 = .ok (.iload_n 3, 1) := by decide +kernel
theorem dL_law_269 : decode cL_law 269 = .ok (.iconst 2, 1) := by decide +kernel
theorem dL_law_270 : decode cL_law 270 = .ok (.iadd, 1) := by decide +kernel
theorem dL_law_271 : decode cL_law 271 = .ok (.iaload, 1) := by decide +kernel
theorem dL_law_272 : decode cL_law 272 = .ok (.invokevirtual 28, 3) := by decide +kernel
theorem dL_law_275 : decode cL_law 275 = .ok (.aload_n 2, 1) := by decide +kernel
theorem dL_law_276 : decode cL_law 276 = .ok (.aload_n 0, 1) := by decide +kernel
theorem dL_law_277 : decode cL_law 277 = .ok (.iload_n 3, 1) := by decide +kernel
theorem dL_law_278 : decode cL_law 278 = .ok (.iconst 1, 1) := by decide +kernel
theorem dL_law_279 : decode cL_law 279 = .ok (.iadd, 1) := by decide +kernel
theorem dL_law_280 : decode cL_law 280 = .ok (.iaload, 1) := by decide +kernel
theorem dL_law_281 : decode cL_law 281 = .ok (.aload_n 0, 1) := by decide +kernel
theorem dL_law_282 : decode cL_law 282 = .ok (.iload_n 3, 1) := by decide +kernel
theorem dL_law_283 : decode cL_law 283 = .ok (.iconst 2, 1) := by decide +kernel
theorem dL_law_284 : decode cL_law 284 = .ok (.iadd, 1) := by decide +kernel
theorem dL_law_285 : decode cL_law 285 = .ok (.iaload, 1) := by decide +kernel
theorem dL_law_286 : decode cL_law 286 = .ok (.invokevirtual 31, 3) := by decide +kernel
theorem dL_law_289 : decode cL_law 289 = .ok (.if_icmp .eq 713, 3) := by decide +kernel
theorem dL_law_292 : decode cL_law 292 = .ok (.iconst 0, 1) := by decide +kernel
theorem dL_law_293 : decode cL_law 293 = .ok (.ireturn, 1) := by decide +kernel
theorem dL_law_294 : decode cL_law 294 = .ok (.aload_n 1, 1) := by decide +kernel
theorem dL_law_295 : decode cL_law 295 = .ok (.aload_n 0, 1) := by decide +kernel
theorem dL_law_296 : decode cL_law 296 = .ok (.iload_n 3, 1) := by decide +kernel
theorem dL_law_297 : decode cL_law 297 = .ok (.iconst 1, 1) := by decide +kernel
theorem dL_law_298 : decode cL_law 298 = .ok (.iadd, 1) := by decide +kernel
theorem dL_law_299 : decode cL_law 299 = .ok (.iaload, 1) := by decide +kernel
theorem dL_law_300 : decode cL_law 300 = .ok (.aload_n 0, 1) := by decide +kernel
theorem dL_law_301 : decode cL_law 301 = .ok (.iload_n 3, 1) := by decide +kernel
theorem dL_law_302 : decode cL_law 302 = .ok (.iconst 2, 1) := by decide +kernel
theorem dL_law_303 : decode cL_law 303 = .ok (.iadd, 1) := by decide +kernel
theorem dL_law_304 : decode cL_law 304 = .ok (.iaload, 1) := by decide +kernel
theorem dL_law_305 : decode cL_law 305 = .ok (.invokevirtual 32, 3) := by decide +kernel
theorem dL_law_308 : decode cL_law 308 = .ok (.aload_n 2, 1) := by decide +kernel
theorem dL_law_309 : decode cL_law 309 = .ok (.aload_n 0, 1) := by decide +kernel
theorem dL_law_310 : decode cL_law 310 = .ok (.iload_n 3, 1) := by decide +kernel
theorem dL_law_311 : decode cL_law 311 = .ok (.iconst 1, 1) := by decide +kernel
theorem dL_law_312 : decode cL_law 312 = .ok (.iadd, 1) := by decide +kernel
theorem dL_law_313 : decode cL_law 313 = .ok (.iaload, 1) := by decide +kernel
theorem dL_law_314 : decode cL_law 314 = .ok (.aload_n 0, 1) := by decide +kernel
theorem dL_law_315 : decode cL_law 315 = .ok (.iload_n 3, 1) := by decide +kernel
theorem dL_law_316 : decode cL_law 316 = .ok (.iconst 2, 1) := by decide +kernel
theorem dL_law_317 : decode cL_law 317 = .ok (.iadd, 1) := by decide +kernel
theorem dL_law_318 : decode cL_law 318 = .ok (.iaload, 1) := by decide +kernel
theorem dL_law_319 : decode cL_law 319 = .ok (.invokevirtual 35, 3) := by decide +kernel
theorem dL_law_322 : decode cL_law 322 = .ok (.if_icmp .eq 680, 3) := by decide +kernel
theorem dL_law_325 : decode cL_law 325 = .ok (.iconst 0, 1) := by decide +kernel
theorem dL_law_326 : decode cL_law 326 = .ok (.ireturn, 1) := by decide +kernel
theorem dL_law_327 : decode cL_law 327 = .ok (.aload_n 1, 1) := by decide +kernel
theorem dL_law_328 : decode cL_law 328 = .ok (.aload_n 0, 1) := by decide +kernel
theorem dL_law_329 : decode cL_law 329 = .ok (.iload_n 3, 1) := by decide +kernel
theorem dL_law_330 : decode cL_law 330 = .ok (.iconst 1, 1) := by decide +kernel
theorem dL_law_331 : decode cL_law 331 = .ok (.iadd, 1) := by decide +kernel
theorem dL_law_332 : decode cL_law 332 = .ok (.iaload, 1) := by decide +kernel
theorem dL_law_333 : decode cL_law 333 = .ok (.aload_n 0, 1) := by decide +kernel
theorem dL_law_334 : decode cL_law 334 = .ok (.iload_n 3, 1) := by decide +kernel
theorem dL_law_335 : decode cL_law 335 = .ok (.iconst 2, 1) := by decide +kernel
theorem dL_law_336 : decode cL_law 336 = .ok (.iadd, 1) := by decide +kernel
theorem dL_law_337 : decode cL_law 337 = .ok (.iaload, 1) := by decide +kernel
theorem dL_law_338 : decode cL_law 338 = .ok (.invokevirtual 36, 3) := by decide +kernel
theorem dL_law_341 : decode cL_law 341 = .ok (.aload_n 2, 1) := by decide +kernel
theorem dL_law_342 : decode cL_law 342 = .ok (.aload_n 0, 1) := by decide +kernel
theorem dL_law_343 : decode cL_law 343 = .ok (.iload_n 3, 1) := by decide +kernel
theorem dL_law_344 : decode cL_law 344 = .ok (.iconst 1, 1) := by decide +kernel
theorem dL_law_345 : decode cL_law 345 = .ok (.iadd, 1) := by decide +kernel
theorem dL_law_346 : decode cL_law 346 = .ok (.iaload, 1) := by decide +kernel
theorem dL_law_347 : decode cL_law 347 = .ok (.aload_n 0, 1) := by decide +kernel
theorem dL_law_348 : decode cL_law 348 = .ok (.iload_n 3, 1) := by decide +kernel
theorem dL_law_349 : decode cL_law 349 = .ok (.iconst 2, 1) := by decide +kernel
theorem dL_law_350 : decode cL_law 350 = .ok (.iadd, 1) := by decide +kernel
theorem dL_law_351 : decode cL_law 351 = .ok (.iaload, 1) := by decide +kernel
theorem dL_law_352 : decode cL_law 352 = .ok (.invokevirtual 40, 3) := by decide +kernel
theorem dL_law_355 : decode cL_law 355 = .ok (.lcmp, 1) := by decide +kernel
theorem dL_law_356 : decode cL_law 356 = .ok (.ifCond .eq 646, 3) := by decide +kernel
theorem dL_law_359 : decode cL_law 359 = .ok (.iconst 0, 1) := by decide +kernel
theorem dL_law_360 : decode cL_law 360 = .ok (.ireturn, 1) := by decide +kernel
theorem dL_law_361 : decode cL_law 361 = .ok (.aload_n 1, 1) := by decide +kernel
theorem dL_law_362 : decode cL_law 362 = .ok (.aload_n 0, 1) := by decide +kernel
theorem dL_law_363 : decode cL_law 363 = .ok (.iload_n 3, 1) := by decide +kernel
theorem dL_law_364 : decode cL_law 364 = .ok (.iconst 1, 1) := by decide +kernel
theorem dL_law_365 : decode cL_law 365 = .ok (.iadd, 1) := by decide +kernel
theorem dL_law_366 : decode cL_law 366 = .ok (.iaload, 1) := by decide +kernel
theorem dL_law_367 : decode cL_law 367 = .ok (.invokevirtual 41, 3) := by decide +kernel
theorem dL_law_370 : decode cL_law 370 = .ok (.aload_n 2, 1) := by decide +kernel
theorem dL_law_371 : decode cL_law 371 = .ok (.aload_n 0, 1) := by decide +kernel
theorem dL_law_372 : decode cL_law 372 = .ok (.iload_n 3, 1) := by decide +kernel
theorem dL_law_373 : decode cL_law 373 = .ok (.iconst 1, 1) := by decide +kernel
theorem dL_law_374 : decode cL_law 374 = .ok (.iadd, 1) := by decide +kernel
theorem dL_law_375 : decode cL_law 375 = .ok (.iaload, 1) := by decide +kernel
theorem dL_law_376 : decode cL_law 376 = .ok (.invokevirtual 44, 3) := by decide +kernel
theorem dL_law_379 : decode cL_law 379 = .ok (.if_icmp .eq 623, 3) := by decide +kernel
theorem dL_law_382 : decode cL_law 382 = .ok (.iconst 0, 1) := by decide +kernel
theorem dL_law_383 : decode cL_law 383 = .ok (.ireturn, 1) := by decide +kernel
theorem dL_law_384 : decode cL_law 384 = .ok (.aload_n 1, 1) := by decide +kernel
theorem dL_law_385 : decode cL_law 385 = .ok (.aload_n 0, 1) := by decide +kernel
theorem dL_law_386 : decode cL_law 386 = .ok (.iload_n 3, 1) := by decide +kernel
theorem dL_law_387 : decode cL_law 387 = .ok (.iconst 1, 1) := by decide +kernel
theorem dL_law_388 : decode cL_law 388 = .ok (.iadd, 1) := by decide +kernel
theorem dL_law_389 : decode cL_law 389 = .ok (.iaload, 1) := by decide +kernel
theorem dL_law_390 : decode cL_law 390 = .ok (.invokevirtual 45, 3) := by decide +kernel
theorem dL_law_393 : decode cL_law 393 = .ok (.aload_n 2, 1) := by decide +kernel
theorem dL_law_394 : decode cL_law 394 = .ok (.aload_n 0, 1) := by decide +kernel
theorem dL_law_395 : decode cL_law 395 = .ok (.iload_n 3, 1) := by decide +kernel
theorem dL_law_396 : decode cL_law 396 = .ok (.iconst 1, 1) := by decide +kernel
theorem dL_law_397 : decode cL_law 397 = .ok (.iadd, 1) := by decide +kernel
theorem dL_law_398 : decode cL_law 398 = .ok (.iaload, 1) := by decide +kernel
theorem dL_law_399 : decode cL_law 399 = .ok (.invokevirtual 48, 3) := by decide +kernel
theorem dL_law_402 : decode cL_law 402 = .ok (.if_icmp .eq 600, 3) := by decide +kernel
theorem dL_law_405 : decode cL_law 405 = .ok (.iconst 0, 1) := by decide +kernel
theorem dL_law_406 : decode cL_law 406 = .ok (.ireturn, 1) := by decide +kernel
theorem dL_law_407 : decode cL_law 407 = .ok (.aload_n 1, 1) := by decide +kernel
theorem dL_law_408 : decode cL_law 408 = .ok (.aload_n 0, 1) := by decide +kernel
theorem dL_law_409 : decode cL_law 409 = .ok (.iload_n 3, 1) := by decide +kernel
theorem dL_law_410 : decode cL_law 410 = .ok (.iconst 1, 1) := by decide +kernel
theorem dL_law_411 : decode cL_law 411 = .ok (.iadd, 1) := by decide +kernel
theorem dL_law_412 : decode cL_law 412 = .ok (.iaload, 1) := by decide +kernel
theorem dL_law_413 : decode cL_law 413 = .ok (.invokevirtual 49, 3) := by decide +kernel
theorem dL_law_416 : decode cL_law 416 = .ok (.aload_n 2, 1) := by decide +kernel
theorem dL_law_417 : decode cL_law 417 = .ok (.aload_n 0, 1) := by decide +kernel
theorem dL_law_418 : decode cL_law 418 = .ok (.iload_n 3, 1) := by decide +kernel
theorem dL_law_419 : decode cL_law 419 = .ok (.iconst 1, 1) := by decide +kernel
theorem dL_law_420 : decode cL_law 420 = .ok (.iadd, 1) := by decide +kernel
theorem dL_law_421 : decode cL_law 421 = .ok (.iaload, 1) := by decide +kernel
theorem dL_law_422 : decode cL_law 422 = .ok (.invokevirtual 52, 3) := by decide +kernel
theorem dL_law_425 : decode cL_law 425 = .ok (.if_icmp .eq 577, 3) := by decide +kernel
theorem dL_law_428 : decode cL_law 428 = .ok (.iconst 0, 1) := by decide +kernel
theorem dL_law_429 : decode cL_law 429 = .ok (.ireturn, 1) := by decide +kernel
theorem dL_law_430 : decode cL_law 430 = .ok (.aload_n 1, 1) := by decide +kernel
theorem dL_law_431 : decode cL_law 431 = .ok (.aload_n 0, 1) := by decide +kernel
theorem dL_law_432 : decode cL_law 432 = .ok (.iload_n 3, 1) := by decide +kernel
theorem dL_law_433 : decode cL_law 433 = .ok (.iconst 1, 1) := by decide +kernel
theorem dL_law_434 : decode cL_law 434 = .ok (.iadd, 1) := by decide +kernel
theorem dL_law_435 : decode cL_law 435 = .ok (.iaload, 1) := by decide +kernel
theorem dL_law_436 : decode cL_law 436 = .ok (.aload_n 0, 1) := by decide +kernel
theorem dL_law_437 : decode cL_law 437 = .ok (.iload_n 3, 1) := by decide +kernel
theorem dL_law_438 : decode cL_law 438 = .ok (.iconst 2, 1) := by decide +kernel
theorem dL_law_439 : decode cL_law 439 = .ok (.iadd, 1) := by decide +kernel
theorem dL_law_440 : decode cL_law 440 = .ok (.iaload, 1) := by decide +kernel
theorem dL_law_441 : decode cL_law 441 = .ok (.invokevirtual 53, 3) := by decide +kernel
theorem dL_law_444 : decode cL_law 444 = .ok (.aload_n 2, 1) := by decide +kernel
theorem dL_law_445 : decode cL_law 445 = .ok (.aload_n 0, 1) := by decide +kernel
theorem dL_law_446 : decode cL_law 446 = .ok (.iload_n 3, 1) := by decide +kernel
theorem dL_law_447 : decode cL_law 447 = .ok (.iconst 1, 1) := by decide +kernel
theorem dL_law_448 : decode cL_law 448 = .ok (.iadd, 1) := by decide +kernel
theorem dL_law_449 : decode cL_law 449 = .ok (.iaload, 1) := by decide +kernel
theorem dL_law_450 : decode cL_law 450 = .ok (.aload_n 0, 1) := by decide +kernel
theorem dL_law_451 : decode cL_law 451 = .ok (.iload_n 3, 1) := by decide +kernel
theorem dL_law_452 : decode cL_law 452 = .ok (.iconst 2, 1) := by decide +kernel
theorem dL_law_453 : decode cL_law 453 = .ok (.iadd, 1) := by decide +kernel
theorem dL_law_454 : decode cL_law 454 = .ok (.iaload, 1) := by decide +kernel
theorem dL_law_455 : decode cL_law 455 = .ok (.invokevirtual 56, 3) := by decide +kernel
theorem dL_law_458 : decode cL_law 458 = .ok (.if_icmp .eq 544, 3) := by decide +kernel
theorem dL_law_461 : decode cL_law 461 = .ok (.iconst 0, 1) := by decide +kernel
theorem dL_law_462 : decode cL_law 462 = .ok (.ireturn, 1) := by decide +kernel
theorem dL_law_463 : decode cL_law 463 = .ok (.aload_n 1, 1) := by decide +kernel
theorem dL_law_464 : decode cL_law 464 = .ok (.aload_n 0, 1) := by decide +kernel
theorem dL_law_465 : decode cL_law 465 = .ok (.iload_n 3, 1) := by decide +kernel
theorem dL_law_466 : decode cL_law 466 = .ok (.iconst 1, 1) := by decide +kernel
theorem dL_law_467 : decode cL_law 467 = .ok (.iadd, 1) := by decide +kernel
theorem dL_law_468 : decode cL_law 468 = .ok (.iaload, 1) := by decide +kernel
theorem dL_law_469 : decode cL_law 469 = .ok (.invokevirtual 57, 3) := by decide +kernel
theorem dL_law_472 : decode cL_law 472 = .ok (.aload_n 2, 1) := by decide +kernel
theorem dL_law_473 : decode cL_law 473 = .ok (.aload_n 0, 1) := by decide +kernel
theorem dL_law_474 : decode cL_law 474 = .ok (.iload_n 3, 1) := by decide +kernel
theorem dL_law_475 : decode cL_law 475 = .ok (.iconst 1, 1) := by decide +kernel
theorem dL_law_476 : decode cL_law 476 = .ok (.iadd, 1) := by decide +kernel
theorem dL_law_477 : decode cL_law 477 = .ok (.iaload, 1) := by decide +kernel
theorem dL_law_478 : decode cL_law 478 = .ok (.invokevirtual 60, 3) := by decide +kernel
theorem dL_law_481 : decode cL_law 481 = .ok (.if_icmp .eq 521, 3) := by decide +kernel
theorem dL_law_484 : decode cL_law 484 = .ok (.iconst 0, 1) := by decide +kernel
theorem dL_law_485 : decode cL_law 485 = .ok (.ireturn, 1) := by decide +kernel
theorem dL_law_486 : decode cL_law 486 = .ok (.aload_n 1, 1) := by decide +kernel
theorem dL_law_487 : decode cL_law 487 = .ok (.aload_n 0, 1) := by decide +kernel
theorem dL_law_488 : decode cL_law 488 = .ok (.iload_n 3, 1) := by decide +kernel
theorem dL_law_489 : decode cL_law 489 = .ok (.iconst 1, 1) := by decide +kernel
theorem dL_law_490 : decode cL_law 490 = .ok (.iadd, 1) := by decide +kernel
theorem dL_law_491 : decode cL_law 491 = .ok (.iaload, 1) := by decide +kernel
theorem dL_law_492 : decode cL_law 492 = .ok (.invokevirtual 61, 3) := by decide +kernel
theorem dL_law_495 : decode cL_law 495 = .ok (.aload_n 2, 1) := by decide +kernel
theorem dL_law_496 : decode cL_law 496 = .ok (.aload_n 0, 1) := by decide +kernel
theorem dL_law_497 : decode cL_law 497 = .ok (.iload_n 3, 1) := by decide +kernel
theorem dL_law_498 : decode cL_law 498 = .ok (.iconst 1, 1) := by decide +kernel
theorem dL_law_499 : decode cL_law 499 = .ok (.iadd, 1) := by decide +kernel
theorem dL_law_500 : decode cL_law 500 = .ok (.iaload, 1) := by decide +kernel
theorem dL_law_501 : decode cL_law 501 = .ok (.invokevirtual 64, 3) := by decide +kernel
theorem dL_law_504 : decode cL_law 504 = .ok (.if_icmp .eq 498, 3) := by decide +kernel
theorem dL_law_507 : decode cL_law 507 = .ok (.iconst 0, 1) := by decide +kernel
theorem dL_law_508 : decode cL_law 508 = .ok (.ireturn, 1) := by decide +kernel
theorem dL_law_509 : decode cL_law 509 = .ok (.aload_n 1, 1) := by decide +kernel
theorem dL_law_510 : decode cL_law 510 = .ok (.aload_n 0, 1) := by decide +kernel
theorem dL_law_511 : decode cL_law 511 = .ok (.iload_n 3, 1) := by decide +kernel
theorem dL_law_512 : decode cL_law 512 = .ok (.iconst 1, 1) := by decide +kernel
theorem dL_law_513 : decode cL_law 513 = .ok (.iadd, 1) := by decide +kernel
theorem dL_law_514 : decode cL_law 514 = .ok (.iaload, 1) := by decide +kernel
theorem dL_law_515 : decode cL_law 515 = .ok (.aload_n 0, 1) := by decide +kernel
theorem dL_law_516 : decode cL_law 516 = .ok (.iload_n 3, 1) := by decide +kernel
theorem dL_law_517 : decode cL_law 517 = .ok (.iconst 2, 1) := by decide +kernel
theorem dL_law_518 : decode cL_law 518 = .ok (.iadd, 1) := by decide +kernel
theorem dL_law_519 : decode cL_law 519 = .ok (.iaload, 1) := by decide +kernel
theorem dL_law_520 : decode cL_law 520 = .ok (.i2l, 1) := by decide +kernel
theorem dL_law_521 : decode cL_law 521 = .ok (.bipush 32, 2) := by decide +kernel
theorem dL_law_523 : decode cL_law 523 = .ok (.lshl, 1) := by decide +kernel
theorem dL_law_524 : decode cL_law 524 = .ok (.aload_n 0, 1) := by decide +kernel
theorem dL_law_525 : decode cL_law 525 = .ok (.iload_n 3, 1) := by decide +kernel
theorem dL_law_526 : decode cL_law 526 = .ok (.iconst 3, 1) := by decide +kernel
theorem dL_law_527 : decode cL_law 527 = .ok (.iadd, 1) := by decide +kernel
theorem dL_law_528 : decode cL_law 528 = .ok (.iaload, 1) := by decide +kernel
theorem dL_law_529 : decode cL_law 529 = .ok (.i2l, 1) := by decide +kernel
theorem dL_law_530 : decode cL_law 530 = .ok (.ldc2_w 65, 3) := by decide +kernel
theorem dL_law_533 : decode cL_law 533 = .ok (.land, 1) := by decide +kernel
theorem dL_law_534 : decode cL_law 534 = .ok (.lor, 1) := by decide +kernel
theorem dL_law_535 : decode cL_law 535 = .ok (.aload_n 0, 1) := by decide +kernel
theorem dL_law_536 : decode cL_law 536 = .ok (.iload_n 3, 1) := by decide +kernel
theorem dL_law_537 : decode cL_law 537 = .ok (.iconst 4, 1) := by decide +kernel
theorem dL_law_538 : decode cL_law 538 = .ok (.iadd, 1) := by decide +kernel
theorem dL_law_539 : decode cL_law 539 = .ok (.iaload, 1) := by decide +kernel
theorem dL_law_540 : decode cL_law 540 = .ok (.invokevirtual 67, 3) := by decide +kernel
theorem dL_law_543 : decode cL_law 543 = .ok (.aload_n 2, 1) := by decide +kernel
theorem dL_law_544 : decode cL_law 544 = .ok (.aload_n 0, 1) := by decide +kernel
theorem dL_law_545 : decode cL_law 545 = .ok (.iload_n 3, 1) := by decide +kernel
theorem dL_law_546 : decode cL_law 546 = .ok (.iconst 1, 1) := by decide +kernel
theorem dL_law_547 : decode cL_law 547 = .ok (.iadd, 1) := by decide +kernel
theorem dL_law_548 : decode cL_law 548 = .ok (.iaload, 1) := by decide +kernel
theorem dL_law_549 : decode cL_law 549 = .ok (.aload_n 0, 1) := by decide +kernel
theorem dL_law_550 : decode cL_law 550 = .ok (.iload_n 3, 1) := by decide +kernel
theorem dL_law_551 : decode cL_law 551 = .ok (.iconst 2, 1) := by decide +kernel
theorem dL_law_552 : decode cL_law 552 = .ok (.iadd, 1) := by decide +kernel
theorem dL_law_553 : decode cL_law 553 = .ok (.iaload, 1) := by decide +kernel
theorem dL_law_554 : decode cL_law 554 = .ok (.i2l, 1) := by decide +kernel
theorem dL_law_555 : decode cL_law 555 = .ok (.bipush 32, 2) := by decide +kernel
theorem dL_law_557 : decode cL_law 557 = .ok (.lshl, 1) := by decide +kernel
theorem dL_law_558 : decode cL_law 558 = .ok (.aload_n 0, 1) := by decide +kernel
theorem dL_law_559 : decode cL_law 559 = .ok (.iload_n 3, 1) := by decide +kernel
theorem dL_law_560 : decode cL_law 560 = .ok (.iconst 3, 1) := by decide +kernel
theorem dL_law_561 : decode cL_law 561 = .ok (.iadd, 1) := by decide +kernel
theorem dL_law_562 : decode cL_law 562 = .ok (.iaload, 1) := by decide +kernel
theorem dL_law_563 : decode cL_law 563 = .ok (.i2l, 1) := by decide +kernel
theorem dL_law_564 : decode cL_law 564 = .ok (.ldc2_w 65, 3) := by decide +kernel
theorem dL_law_567 : decode cL_law 567 = .ok (.land, 1) := by decide +kernel
theorem dL_law_568 : decode cL_law 568 = .ok (.lor, 1) := by decide +kernel
theorem dL_law_569 : decode cL_law 569 = .ok (.aload_n 0, 1) := by decide +kernel
theorem dL_law_570 : decode cL_law 570 = .ok (.iload_n 3, 1) := by decide +kernel
theorem dL_law_571 : decode cL_law 571 = .ok (.iconst 4, 1) := by decide +kernel
theorem dL_law_572 : decode cL_law 572 = .ok (.iadd, 1) := by decide +kernel
theorem dL_law_573 : decode cL_law 573 = .ok (.iaload, 1) := by decide +kernel
theorem dL_law_574 : decode cL_law 574 = .ok (.invokevirtual 71, 3) := by decide +kernel
theorem dL_law_577 : decode cL_law 577 = .ok (.if_icmp .eq 425, 3) := by decide +kernel
theorem dL_law_580 : decode cL_law 580 = .ok (.iconst 0, 1) := by decide +kernel
theorem dL_law_581 : decode cL_law 581 = .ok (.ireturn, 1) := by decide +kernel
theorem dL_law_582 : decode cL_law 582 = .ok (.aload_n 1, 1) := by decide +kernel
theorem dL_law_583 : decode cL_law 583 = .ok (.aload_n 0, 1) := by decide +kernel
theorem dL_law_584 : decode cL_law 584 = .ok (.iload_n 3, 1) := by decide +kernel
theorem dL_law_585 : decode cL_law 585 = .ok (.iconst 1, 1) := by decide +kernel
theorem dL_law_586 : decode cL_law 586 = .ok (.iadd, 1) := by decide +kernel
theorem dL_law_587 : decode cL_law 587 = .ok (.iaload, 1) := by decide +kernel
theorem dL_law_588 : decode cL_law 588 = .ok (.aload_n 0, 1) := by decide +kernel
theorem dL_law_589 : decode cL_law 589 = .ok (.iload_n 3, 1) := by decide +kernel
theorem dL_law_590 : decode cL_law 590 = .ok (.iconst 2, 1) := by decide +kernel
theorem dL_law_591 : decode cL_law 591 = .ok (.iadd, 1) := by decide +kernel
theorem dL_law_592 : decode cL_law 592 = .ok (.iaload, 1) := by decide +kernel
theorem dL_law_593 : decode cL_law 593 = .ok (.aload_n 0, 1) := by decide +kernel
theorem dL_law_594 : decode cL_law 594 = .ok (.iload_n 3, 1) := by decide +kernel
theorem dL_law_595 : decode cL_law 595 = .ok (.iconst 3, 1) := by decide +kernel
theorem dL_law_596 : decode cL_law 596 = .ok (.iadd, 1) := by decide +kernel
theorem dL_law_597 : decode cL_law 597 = .ok (.iaload, 1) := by decide +kernel
theorem dL_law_598 : decode cL_law 598 = .ok (.aload_n 0, 1) := by decide +kernel
theorem dL_law_599 : decode cL_law 599 = .ok (.iload_n 3, 1) := by decide +kernel
theorem dL_law_600 : decode cL_law 600 = .ok (.iconst 4, 1) := by decide +kernel
theorem dL_law_601 : decode cL_law 601 = .ok (.iadd, 1) := by decide +kernel
theorem dL_law_602 : decode cL_law 602 = .ok (.iaload, 1) := by decide +kernel
theorem dL_law_603 : decode cL_law 603 = .ok (.invokevirtual 72, 3) := by decide +kernel
theorem dL_law_606 : decode cL_law 606 = .ok (.aload_n 2, 1) := by decide +kernel
theorem dL_law_607 : decode cL_law 607 = .ok (.aload_n 0, 1) := by decide +kernel
theorem dL_law_608 : decode cL_law 608 = .ok (.iload_n 3, 1) := by decide +kernel
theorem dL_law_609 : decode cL_law 609 = .ok (.iconst 1, 1) := by decide +kernel
theorem dL_law_610 : decode cL_law 610 = .ok (.iadd, 1) := by decide +kernel
theorem dL_law_611 : decode cL_law 611 = .ok (.iaload, 1) := by decide +kernel
theorem dL_law_612 : decode cL_law 612 = .ok (.aload_n 0, 1) := by decide +kernel
theorem dL_law_613 : decode cL_law 613 = .ok (.iload_n 3, 1) := by decide +kernel
theorem dL_law_614 : decode cL_law 614 = .ok (.iconst 2, 1) := by decide +kernel
theorem dL_law_615 : decode cL_law 615 = .ok (.iadd, 1) := by decide +kernel
theorem dL_law_616 : decode cL_law 616 = .ok (.iaload, 1) := by decide +kernel
theorem dL_law_617 : decode cL_law 617 = .ok (.aload_n 0, 1) := by decide +kernel
theorem dL_law_618 : decode cL_law 618 = .ok (.iload_n 3, 1) := by decide +kernel
theorem dL_law_619 : decode cL_law 619 = .ok (.iconst 3, 1) := by decide +kernel
theorem dL_law_620 : decode cL_law 620 = .ok (.iadd, 1) := by decide +kernel
theorem dL_law_621 : decode cL_law 621 = .ok (.iaload, 1) := by decide +kernel
theorem dL_law_622 : decode cL_law 622 = .ok (.aload_n 0, 1) := by decide +kernel
theorem dL_law_623 : decode cL_law 623 = .ok (.iload_n 3, 1) := by decide +kernel
theorem dL_law_624 : decode cL_law 624 = .ok (.iconst 4, 1) := by decide +kernel
theorem dL_law_625 : decode cL_law 625 = .ok (.iadd, 1) := by decide +kernel
theorem dL_law_626 : decode cL_law 626 = .ok (.iaload, 1) := by decide +kernel
theorem dL_law_627 : decode cL_law 627 = .ok (.invokevirtual 75, 3) := by decide +kernel
theorem dL_law_630 : decode cL_law 630 = .ok (.if_icmp .eq 372, 3) := by decide +kernel
theorem dL_law_633 : decode cL_law 633 = .ok (.iconst 0, 1) := by decide +kernel
theorem dL_law_634 : decode cL_law 634 = .ok (.ireturn, 1) := by decide +kernel
theorem dL_law_635 : decode cL_law 635 = .ok (.aload_n 1, 1) := by decide +kernel
theorem dL_law_636 : decode cL_law 636 = .ok (.aload_n 0, 1) := by decide +kernel
theorem dL_law_637 : decode cL_law 637 = .ok (.iload_n 3, 1) := by decide +kernel
theorem dL_law_638 : decode cL_law 638 = .ok (.iconst 1, 1) := by decide +kernel
theorem dL_law_639 : decode cL_law 639 = .ok (.iadd, 1) := by decide +kernel
theorem dL_law_640 : decode cL_law 640 = .ok (.iaload, 1) := by decide +kernel
theorem dL_law_641 : decode cL_law 641 = .ok (.invokevirtual 76, 3) := by decide +kernel
theorem dL_law_644 : decode cL_law 644 = .ok (.aload_n 2, 1) := by decide +kernel
theorem dL_law_645 : decode cL_law 645 = .ok (.aload_n 0, 1) := by decide +kernel
theorem dL_law_646 : decode cL_law 646 = .ok (.iload_n 3, 1) := by decide +kernel
theorem dL_law_647 : decode cL_law 647 = .ok (.iconst 1, 1) := by decide +kernel
theorem dL_law_648 : decode cL_law 648 = .ok (.iadd, 1) := by decide +kernel
theorem dL_law_649 : decode cL_law 649 = .ok (.iaload, 1) := by decide +kernel
theorem dL_law_650 : decode cL_law 650 = .ok (.invokevirtual 79, 3) := by decide +kernel
theorem dL_law_653 : decode cL_law 653 = .ok (.if_icmp .eq 349, 3) := by decide +kernel
theorem dL_law_656 : decode cL_law 656 = .ok (.iconst 0, 1) := by decide +kernel
theorem dL_law_657 : decode cL_law 657 = .ok (.ireturn, 1) := by decide +kernel
theorem dL_law_658 : decode cL_law 658 = .ok (.aload_n 1, 1) := by decide +kernel
theorem dL_law_659 : decode cL_law 659 = .ok (.aload_n 0, 1) := by decide +kernel
theorem dL_law_660 : decode cL_law 660 = .ok (.iload_n 3, 1) := by decide +kernel
theorem dL_law_661 : decode cL_law 661 = .ok (.iconst 1, 1) := by decide +kernel
theorem dL_law_662 : decode cL_law 662 = .ok (.iadd, 1) := by decide +kernel
theorem dL_law_663 : decode cL_law 663 = .ok (.iaload, 1) := by decide +kernel
theorem dL_law_664 : decode cL_law 664 = .ok (.aload_n 0, 1) := by decide +kernel
theorem dL_law_665 : decode cL_law 665 = .ok (.iload_n 3, 1) := by decide +kernel
theorem dL_law_666 : decode cL_law 666 = .ok (.iconst 2, 1) := by decide +kernel
theorem dL_law_667 : decode cL_law 667 = .ok (.iadd, 1) := by decide +kernel
theorem dL_law_668 : decode cL_law 668 = .ok (.iaload, 1) := by decide +kernel
theorem dL_law_669 : decode cL_law 669 = .ok (.aload_n 0, 1) := by decide +kernel
theorem dL_law_670 : decode cL_law 670 = .ok (.iload_n 3, 1) := by decide +kernel
theorem dL_law_671 : decode cL_law 671 = .ok (.iconst 3, 1) := by decide +kernel
theorem dL_law_672 : decode cL_law 672 = .ok (.iadd, 1) := by decide +kernel
theorem dL_law_673 : decode cL_law 673 = .ok (.iaload, 1) := by decide +kernel
theorem dL_law_674 : decode cL_law 674 = .ok (.invokevirtual 80, 3) := by decide +kernel
theorem dL_law_677 : decode cL_law 677 = .ok (.aload_n 2, 1) := by decide +kernel
theorem dL_law_678 : decode cL_law 678 = .ok (.aload_n 0, 1) := by decide +kernel
theorem dL_law_679 : decode cL_law 679 = .ok (.iload_n 3, 1) := by decide +kernel
theorem dL_law_680 : decode cL_law 680 = .ok (.iconst 1, 1) := by decide +kernel
theorem dL_law_681 : decode cL_law 681 = .ok (.iadd, 1) := by decide +kernel
theorem dL_law_682 : decode cL_law 682 = .ok (.iaload, 1) := by decide +kernel
theorem dL_law_683 : decode cL_law 683 = .ok (.aload_n 0, 1) := by decide +kernel
theorem dL_law_684 : decode cL_law 684 = .ok (.iload_n 3, 1) := by decide +kernel
theorem dL_law_685 : decode cL_law 685 = .ok (.iconst 2, 1) := by decide +kernel
theorem dL_law_686 : decode cL_law 686 = .ok (.iadd, 1) := by decide +kernel
theorem dL_law_687 : decode cL_law 687 = .ok (.iaload, 1) := by decide +kernel
theorem dL_law_688 : decode cL_law 688 = .ok (.aload_n 0, 1) := by decide +kernel
theorem dL_law_689 : decode cL_law 689 = .ok (.iload_n 3, 1) := by decide +kernel
theorem dL_law_690 : decode cL_law 690 = .ok (.iconst 3, 1) := by decide +kernel
theorem dL_law_691 : decode cL_law 691 = .ok (.iadd, 1) := by decide +kernel
theorem dL_law_692 : decode cL_law 692 = .ok (.iaload, 1) := by decide +kernel
theorem dL_law_693 : decode cL_law 693 = .ok (.invokevirtual 84, 3) := by decide +kernel
theorem dL_law_696 : decode cL_law 696 = .ok (.if_icmp .eq 306, 3) := by decide +kernel
theorem dL_law_699 : decode cL_law 699 = .ok (.iconst 0, 1) := by decide +kernel
theorem dL_law_700 : decode cL_law 700 = .ok (.ireturn, 1) := by decide +kernel
theorem dL_law_701 : decode cL_law 701 = .ok (.aload_n 1, 1) := by decide +kernel
theorem dL_law_702 : decode cL_law 702 = .ok (.aload_n 0, 1) := by decide +kernel
theorem dL_law_703 : decode cL_law 703 = .ok (.iload_n 3, 1) := by decide +kernel
theorem dL_law_704 : decode cL_law 704 = .ok (.iconst 1, 1) := by decide +kernel
theorem dL_law_705 : decode cL_law 705 = .ok (.iadd, 1) := by decide +kernel
theorem dL_law_706 : decode cL_law 706 = .ok (.iaload, 1) := by decide +kernel
theorem dL_law_707 : decode cL_law 707 = .ok (.invokevirtual 85, 3) := by decide +kernel
theorem dL_law_710 : decode cL_law 710 = .ok (.aload_n 2, 1) := by decide +kernel
theorem dL_law_711 : decode cL_law 711 = .ok (.aload_n 0, 1) := by decide +kernel
theorem dL_law_712 : decode cL_law 712 = .ok (.iload_n 3, 1) := by decide +kernel
theorem dL_law_713 : decode cL_law 713 = .ok (.iconst 1, 1) := by decide +kernel
theorem dL_law_714 : decode cL_law 714 = .ok (.iadd, 1) := by decide +kernel
theorem dL_law_715 : decode cL_law 715 = .ok (.iaload, 1) := by decide +kernel
theorem dL_law_716 : decode cL_law 716 = .ok (.invokevirtual 88, 3) := by decide +kernel
theorem dL_law_719 : decode cL_law 719 = .ok (.if_icmp .eq 283, 3) := by decide +kernel
theorem dL_law_722 : decode cL_law 722 = .ok (.iconst 0, 1) := by decide +kernel
