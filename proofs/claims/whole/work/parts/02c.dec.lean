theorem dX9_figure_11 : decode cX9_figure 11 = .ok (.i2l, 1) := by decide +kernel
theorem dX9_figure_12 : decode cX9_figure 12 = .ok (.ldc2_w 138, 3) := by decide +kernel
theorem dX9_figure_15 : decode cX9_figure 15 = .ok (.ldc2_w 140, 3) := by decide +kernel
theorem dX9_figure_18 : decode cX9_figure 18 = .ok (.invokestatic 142, 3) := by decide +kernel
theorem dX9_figure_21 : decode cX9_figure 21 = .ok (.istore 4, 2) := by decide +kernel
theorem dX9_figure_23 : decode cX9_figure 23 = .ok (.aload_n 0, 1) := by decide +kernel
theorem dX9_figure_24 : decode cX9_figure 24 = .ok (.dup, 1) := by decide +kernel
theorem dX9_figure_25 : decode cX9_figure 25 = .ok (.getfield 121, 3) := by decide +kernel
theorem dX9_figure_28 : decode cX9_figure 28 = .ok (.iload 4, 2) := by decide +kernel
theorem dX9_figure_30 : decode cX9_figure 30 = .ok (.ifCond .eq 7, 3) := by decide +kernel
theorem dX9_figure_33 : decode cX9_figure 33 = .ok (.iconst 1, 1) := by decide +kernel
theorem dX9_figure_34 : decode cX9_figure 34 = .ok (.goto 4, 3) := by decide +kernel
theorem dX9_figure_37 : decode cX9_figure 37 = .ok (.iconst 0, 1) := by decide +kernel
theorem dX9_figure_38 : decode cX9_figure 38 = .ok (.iadd, 1) := by decide +kernel
theorem dX9_figure_39 : decode cX9_figure 39 = .ok (.putfield 121, 3) := by decide +kernel
theorem dX9_figure_42 : decode cX9_figure 42 = .ok (.iload 4, 2) := by decide +kernel
theorem dX9_figure_44 : decode cX9_figure 44 = .ok (.ifCond .eq 7, 3) := by decide +kernel
theorem dX9_figure_47 : decode cX9_figure 47 = .ok (.iload_n 3, 1) := by decide +kernel
theorem dX9_figure_48 : decode cX9_figure 48 = .ok (.goto 5, 3) := by decide +kernel
theorem dX9_figure_51 : decode cX9_figure 51 = .ok (.bipush (-9), 2) := by decide +kernel
theorem dX9_figure_53 : decode cX9_figure 53 = .ok (.ireturn, 1) := by decide +kernel
theorem dX9_readsYard_0 : decode cX9_readsYard 0 = .ok (.aload_n 0, 1) := by decide +kernel
theorem dX9_readsYard_1 : decode cX9_readsYard 1 = .ok (.iconst 0, 1) := by decide +kernel
theorem dX9_readsYard_2 : decode cX9_readsYard 2 = .ok (.putfield 121, 3) := by decide +kernel
theorem dX9_readsYard_5 : decode cX9_readsYard 5 = .ok (.aload_n 0, 1) := by decide +kernel
theorem dX9_readsYard_6 : decode cX9_readsYard 6 = .ok (.iconst 0, 1) := by decide +kernel
theorem dX9_readsYard_7 : decode cX9_readsYard 7 = .ok (.putfield 135, 3) := by decide +kernel
theorem dX9_readsYard_10 : decode cX9_readsYard 10 = .ok (.aload_n 0, 1) := by decide +kernel
theorem dX9_readsYard_11 : decode cX9_readsYard 11 = .ok (.iconst 0, 1) := by decide +kernel
theorem dX9_readsYard_12 : decode cX9_readsYard 12 = .ok (.putfield 132, 3) := by decide +kernel
theorem dX9_readsYard_15 : decode cX9_readsYard 15 = .ok (.aload_n 0, 1) := by decide +kernel
theorem dX9_readsYard_16 : decode cX9_readsYard 16 = .ok (.iload_n 1, 1) := by decide +kernel
theorem dX9_readsYard_17 : decode cX9_readsYard 17 = .ok (.iload_n 2, 1) := by decide +kernel
theorem dX9_readsYard_18 : decode cX9_readsYard 18 = .ok (.invokevirtual 124, 3) := by decide +kernel
theorem dX9_readsYard_21 : decode cX9_readsYard 21 = .ok (.bipush 105, 2) := by decide +kernel
theorem dX9_readsYard_23 : decode cX9_readsYard 23 = .ok (.if_icmp .eq 5, 3) := by decide +kernel
theorem dX9_readsYard_26 : decode cX9_readsYard 26 = .ok (.iconst 0, 1) := by decide +kernel
theorem dX9_readsYard_27 : decode cX9_readsYard 27 = .ok (.ireturn, 1) := by decide +kernel
theorem dX9_readsYard_28 : decode cX9_readsYard 28 = .ok (.aload_n 0, 1) := by decide +kernel
theorem dX9_readsYard_29 : decode cX9_readsYard 29 = .ok (.dup, 1) := by decide +kernel
theorem dX9_readsYard_30 : decode cX9_readsYard 30 = .ok (.getfield 121, 3) := by decide +kernel
theorem dX9_readsYard_33 : decode cX9_readsYard 33 = .ok (.iconst 1, 1) := by decide +kernel
theorem dX9_readsYard_34 : decode cX9_readsYard 34 = .ok (.iadd, 1) := by decide +kernel
theorem dX9_readsYard_35 : decode cX9_readsYard 35 = .ok (.putfield 121, 3) := by decide +kernel
theorem dX9_readsYard_38 : decode cX9_readsYard 38 = .ok (.aload_n 0, 1) := by decide +kernel
theorem dX9_readsYard_39 : decode cX9_readsYard 39 = .ok (.aload_n 0, 1) := by decide +kernel
theorem dX9_readsYard_40 : decode cX9_readsYard 40 = .ok (.iload_n 1, 1) := by decide +kernel
theorem dX9_readsYard_41 : decode cX9_readsYard 41 = .ok (.iload_n 2, 1) := by decide +kernel
theorem dX9_readsYard_42 : decode cX9_readsYard 42 = .ok (.invokevirtual 146, 3) := by decide +kernel
theorem dX9_readsYard_45 : decode cX9_readsYard 45 = .ok (.putfield 149, 3) := by decide +kernel
theorem dX9_readsYard_48 : decode cX9_readsYard 48 = .ok (.aload_n 0, 1) := by decide +kernel
theorem dX9_readsYard_49 : decode cX9_readsYard 49 = .ok (.aload_n 0, 1) := by decide +kernel
theorem dX9_readsYard_50 : decode cX9_readsYard 50 = .ok (.getfield 149, 3) := by decide +kernel
theorem dX9_readsYard_53 : decode cX9_readsYard 53 = .ok (.ifCond .ge 8, 3) := by decide +kernel
theorem dX9_readsYard_56 : decode cX9_readsYard 56 = .ok (.bipush (-9), 2) := by decide +kernel
theorem dX9_readsYard_58 : decode cX9_readsYard 58 = .ok (.goto 9, 3) := by decide +kernel
theorem dX9_readsYard_61 : decode cX9_readsYard 61 = .ok (.aload_n 0, 1) := by decide +kernel
theorem dX9_readsYard_62 : decode cX9_readsYard 62 = .ok (.iload_n 1, 1) := by decide +kernel
theorem dX9_readsYard_63 : decode cX9_readsYard 63 = .ok (.iload_n 2, 1) := by decide +kernel
theorem dX9_readsYard_64 : decode cX9_readsYard 64 = .ok (.invokevirtual 146, 3) := by decide +kernel
theorem dX9_readsYard_67 : decode cX9_readsYard 67 = .ok (.putfield 152, 3) := by decide +kernel
theorem dX9_readsYard_70 : decode cX9_readsYard 70 = .ok (.aload_n 0, 1) := by decide +kernel
theorem dX9_readsYard_71 : decode cX9_readsYard 71 = .ok (.getfield 152, 3) := by decide +kernel
theorem dX9_readsYard_74 : decode cX9_readsYard 74 = .ok (.ifCond .ge 5, 3) := by decide +kernel
theorem dX9_readsYard_77 : decode cX9_readsYard 77 = .ok (.iconst 0, 1) := by decide +kernel
theorem dX9_readsYard_78 : decode cX9_readsYard 78 = .ok (.ireturn, 1) := by decide +kernel
theorem dX9_readsYard_79 : decode cX9_readsYard 79 = .ok (.iconst 0, 1) := by decide +kernel
theorem dX9_readsYard_80 : decode cX9_readsYard 80 = .ok (.istore_n 3, 1) := by decide +kernel
theorem dX9_readsYard_81 : decode cX9_readsYard 81 = .ok (.iload_n 3, 1) := by decide +kernel
theorem dX9_readsYard_82 : decode cX9_readsYard 82 = .ok (.aload_n 0, 1) := by decide +kernel
theorem dX9_readsYard_83 : decode cX9_readsYard 83 = .ok (.getfield 149, 3) := by decide +kernel
theorem dX9_readsYard_86 : decode cX9_readsYard 86 = .ok (.aload_n 0, 1) := by decide +kernel
theorem dX9_readsYard_87 : decode cX9_readsYard 87 = .ok (.getfield 152, 3) := by decide +kernel
theorem dX9_readsYard_90 : decode cX9_readsYard 90 = .ok (.imul, 1) := by decide +kernel
theorem dX9_readsYard_91 : decode cX9_readsYard 91 = .ok (.if_icmp .ge 53, 3) := by decide +kernel
theorem dX9_readsYard_94 : decode cX9_readsYard 94 = .ok (.iload_n 3, 1) := by decide +kernel
theorem dX9_readsYard_95 : decode cX9_readsYard 95 = .ok (.aload_n 0, 1) := by decide +kernel
theorem dX9_readsYard_96 : decode cX9_readsYard 96 = .ok (.getfield 152, 3) := by decide +kernel
theorem dX9_readsYard_99 : decode cX9_readsYard 99 = .ok (.irem, 1) := by decide +kernel
theorem dX9_readsYard_100 : decode cX9_readsYard 100 = .ok (.ifCond .ne 26, 3) := by decide +kernel
theorem dX9_readsYard_103 : decode cX9_readsYard 103 = .ok (.aload_n 0, 1) := by decide +kernel
theorem dX9_readsYard_104 : decode cX9_readsYard 104 = .ok (.iload_n 1, 1) := by decide +kernel
theorem dX9_readsYard_105 : decode cX9_readsYard 105 = .ok (.iload_n 2, 1) := by decide +kernel
theorem dX9_readsYard_106 : decode cX9_readsYard 106 = .ok (.invokevirtual 124, 3) := by decide +kernel
theorem dX9_readsYard_109 : decode cX9_readsYard 109 = .ok (.bipush 59, 2) := by decide +kernel
theorem dX9_readsYard_111 : decode cX9_readsYard 111 = .ok (.if_icmp .eq 5, 3) := by decide +kernel
theorem dX9_readsYard_114 : decode cX9_readsYard 114 = .ok (.iconst 0, 1) := by decide +kernel
theorem dX9_readsYard_115 : decode cX9_readsYard 115 = .ok (.ireturn, 1) := by decide +kernel
theorem dX9_readsYard_116 : decode cX9_readsYard 116 = .ok (.aload_n 0, 1) := by decide +kernel
theorem dX9_readsYard_117 : decode cX9_readsYard 117 = .ok (.dup, 1) := by decide +kernel
theorem dX9_readsYard_118 : decode cX9_readsYard 118 = .ok (.getfield 121, 3) := by decide +kernel
theorem dX9_readsYard_121 : decode cX9_readsYard 121 = .ok (.iconst 1, 1) := by decide +kernel
theorem dX9_readsYard_122 : decode cX9_readsYard 122 = .ok (.iadd, 1) := by decide +kernel
theorem dX9_readsYard_123 : decode cX9_readsYard 123 = .ok (.putfield 121, 3) := by decide +kernel
theorem dX9_readsYard_126 : decode cX9_readsYard 126 = .ok (.aload_n 0, 1) := by decide +kernel
theorem dX9_readsYard_127 : decode cX9_readsYard 127 = .ok (.iload_n 1, 1) := by decide +kernel
theorem dX9_readsYard_128 : decode cX9_readsYard 128 = .ok (.iload_n 2, 1) := by decide +kernel
theorem dX9_readsYard_129 : decode cX9_readsYard 129 = .ok (.iload_n 3, 1) := by decide +kernel
theorem dX9_readsYard_130 : decode cX9_readsYard 130 = .ok (.invokevirtual 155, 3) := by decide +kernel
theorem dX9_readsYard_133 : decode cX9_readsYard 133 = .ok (.ifCond .ne 5, 3) := by decide +kernel
theorem dX9_readsYard_136 : decode cX9_readsYard 136 = .ok (.iconst 0, 1) := by decide +kernel
theorem dX9_readsYard_137 : decode cX9_readsYard 137 = .ok (.ireturn, 1) := by decide +kernel
theorem dX9_readsYard_138 : decode cX9_readsYard 138 = .ok (.iinc 3 1, 3) := by decide +kernel
theorem dX9_readsYard_141 : decode cX9_readsYard 141 = .ok (.goto (-60), 3) := by decide +kernel
theorem dX9_readsYard_144 : decode cX9_readsYard 144 = .ok (.aload_n 0, 1) := by decide +kernel
theorem dX9_readsYard_145 : decode cX9_readsYard 145 = .ok (.getfield 121, 3) := by decide +kernel
theorem dX9_readsYard_148 : decode cX9_readsYard 148 = .ok (.iload_n 2, 1) := by decide +kernel
theorem dX9_readsYard_149 : decode cX9_readsYard 149 = .ok (.if_icmp .ne 7, 3) := by decide +kernel
theorem dX9_readsYard_152 : decode cX9_readsYard 152 = .ok (.iconst 1, 1) := by decide +kernel
theorem dX9_readsYard_153 : decode cX9_readsYard 153 = .ok (.goto 4, 3) := by decide +kernel
theorem dX9_readsYard_156 : decode cX9_readsYard 156 = .ok (.iconst 0, 1) := by decide +kernel
theorem dX9_readsYard_157 : decode cX9_readsYard 157 = .ok (.ireturn, 1) := by decide +kernel
theorem dX9_yard_0 : decode cX9_yard 0 = .ok (.iload_n 1, 1) := by decide +kernel
theorem dX9_yard_1 : decode cX9_yard 1 = .ok (.invokestatic 159, 3) := by decide +kernel
theorem dX9_yard_4 : decode cX9_yard 4 = .ok (.ifCond .eq 9, 3) := by decide +kernel
theorem dX9_yard_7 : decode cX9_yard 7 = .ok (.aload_n 0, 1) := by decide +kernel
theorem dX9_yard_8 : decode cX9_yard 8 = .ok (.iconst (-1), 1) := by decide +kernel
theorem dX9_yard_9 : decode cX9_yard 9 = .ok (.invokevirtual 163, 3) := by decide +kernel
theorem dX9_yard_12 : decode cX9_yard 12 = .ok (.ireturn, 1) := by decide +kernel
theorem dX9_yard_13 : decode cX9_yard 13 = .ok (.iload_n 2, 1) := by decide +kernel
theorem dX9_yard_14 : decode cX9_yard 14 = .ok (.i2l, 1) := by decide +kernel
theorem dX9_yard_15 : decode cX9_yard 15 = .ok (.lconst 0, 1) := by decide +kernel
theorem dX9_yard_16 : decode cX9_yard 16 = .ok (.ldc2_w 166, 3) := by decide +kernel
theorem dX9_yard_19 : decode cX9_yard 19 = .ok (.invokestatic 142, 3) := by decide +kernel
theorem dX9_yard_22 : decode cX9_yard 22 = .ok (.ifCond .ne 10, 3) := by decide +kernel
theorem dX9_yard_25 : decode cX9_yard 25 = .ok (.aload_n 0, 1) := by decide +kernel
theorem dX9_yard_26 : decode cX9_yard 26 = .ok (.bipush (-2), 2) := by decide +kernel
theorem dX9_yard_28 : decode cX9_yard 28 = .ok (.invokevirtual 163, 3) := by decide +kernel
theorem dX9_yard_31 : decode cX9_yard 31 = .ok (.ireturn, 1) := by decide +kernel
theorem dX9_yard_32 : decode cX9_yard 32 = .ok (.aload_n 0, 1) := by decide +kernel
theorem dX9_yard_33 : decode cX9_yard 33 = .ok (.getfield 93, 3) := by decide +kernel
theorem dX9_yard_36 : decode cX9_yard 36 = .ok (.iload_n 1, 1) := by decide +kernel
theorem dX9_yard_37 : decode cX9_yard 37 = .ok (.iaload, 1) := by decide +kernel
theorem dX9_yard_38 : decode cX9_yard 38 = .ok (.ifCond .lt 19, 3) := by decide +kernel
theorem dX9_yard_41 : decode cX9_yard 41 = .ok (.aload_n 0, 1) := by decide +kernel
theorem dX9_yard_42 : decode cX9_yard 42 = .ok (.getfield 96, 3) := by decide +kernel
theorem dX9_yard_45 : decode cX9_yard 45 = .ok (.iload_n 1, 1) := by decide +kernel
theorem dX9_yard_46 : decode cX9_yard 46 = .ok (.iaload, 1) := by decide +kernel
theorem dX9_yard_47 : decode cX9_yard 47 = .ok (.iload_n 2, 1) := by decide +kernel
theorem dX9_yard_48 : decode cX9_yard 48 = .ok (.if_icmp .eq 9, 3) := by decide +kernel
theorem dX9_yard_51 : decode cX9_yard 51 = .ok (.aload_n 0, 1) := by decide +kernel
theorem dX9_yard_52 : decode cX9_yard 52 = .ok (.iconst 2, 1) := by decide +kernel
theorem dX9_yard_53 : decode cX9_yard 53 = .ok (.invokevirtual 168, 3) := by decide +kernel
theorem dX9_yard_56 : decode cX9_yard 56 = .ok (.ireturn, 1) := by decide +kernel
theorem dX9_yard_57 : decode cX9_yard 57 = .ok (.aload_n 0, 1) := by decide +kernel
theorem dX9_yard_58 : decode cX9_yard 58 = .ok (.getfield 93, 3) := by decide +kernel
theorem dX9_yard_61 : decode cX9_yard 61 = .ok (.iload_n 1, 1) := by decide +kernel
theorem dX9_yard_62 : decode cX9_yard 62 = .ok (.iaload, 1) := by decide +kernel
theorem dX9_yard_63 : decode cX9_yard 63 = .ok (.ifCond .ge 9, 3) := by decide +kernel
theorem dX9_yard_66 : decode cX9_yard 66 = .ok (.aload_n 0, 1) := by decide +kernel
theorem dX9_yard_67 : decode cX9_yard 67 = .ok (.iconst 1, 1) := by decide +kernel
theorem dX9_yard_68 : decode cX9_yard 68 = .ok (.invokevirtual 168, 3) := by decide +kernel
theorem dX9_yard_71 : decode cX9_yard 71 = .ok (.ireturn, 1) := by decide +kernel
theorem dX9_yard_72 : decode cX9_yard 72 = .ok (.iload 4, 2) := by decide +kernel
theorem dX9_yard_74 : decode cX9_yard 74 = .ok (.ifCond .ge 9, 3) := by decide +kernel
theorem dX9_yard_77 : decode cX9_yard 77 = .ok (.aload_n 0, 1) := by decide +kernel
theorem dX9_yard_78 : decode cX9_yard 78 = .ok (.iconst 4, 1) := by decide +kernel
theorem dX9_yard_79 : decode cX9_yard 79 = .ok (.invokevirtual 168, 3) := by decide +kernel
theorem dX9_yard_82 : decode cX9_yard 82 = .ok (.ireturn, 1) := by decide +kernel
theorem dX9_yard_83 : decode cX9_yard 83 = .ok (.iload_n 3, 1) := by decide +kernel
theorem dX9_yard_84 : decode cX9_yard 84 = .ok (.iload 4, 2) := by decide +kernel
theorem dX9_yard_86 : decode cX9_yard 86 = .ok (.i2l, 1) := by decide +kernel
theorem dX9_yard_87 : decode cX9_yard 87 = .ok (.aload_n 0, 1) := by decide +kernel
theorem dX9_yard_88 : decode cX9_yard 88 = .ok (.getfield 93, 3) := by decide +kernel
theorem dX9_yard_91 : decode cX9_yard 91 = .ok (.iload_n 1, 1) := by decide +kernel
theorem dX9_yard_92 : decode cX9_yard 92 = .ok (.iaload, 1) := by decide +kernel
theorem dX9_yard_93 : decode cX9_yard 93 = .ok (.invokestatic 171, 3) := by decide +kernel
theorem dX9_yard_96 : decode cX9_yard 96 = .ok (.ifCond .eq 9, 3) := by decide +kernel
theorem dX9_yard_99 : decode cX9_yard 99 = .ok (.aload_n 0, 1) := by decide +kernel
theorem dX9_yard_100 : decode cX9_yard 100 = .ok (.iconst 3, 1) := by decide +kernel
theorem dX9_yard_101 : decode cX9_yard 101 = .ok (.invokevirtual 168, 3) := by decide +kernel
theorem dX9_yard_104 : decode cX9_yard 104 = .ok (.ireturn, 1) := by decide +kernel
theorem dX9_yard_105 : decode cX9_yard 105 = .ok (.aload_n 0, 1) := by decide +kernel
theorem dX9_yard_106 : decode cX9_yard 106 = .ok (.bipush 60, 2) := by decide +kernel
theorem dX9_yard_108 : decode cX9_yard 108 = .ok (.iload_n 1, 1) := by decide +kernel
theorem dX9_yard_109 : decode cX9_yard 109 = .ok (.imul, 1) := by decide +kernel
theorem dX9_yard_110 : decode cX9_yard 110 = .ok (.iload_n 3, 1) := by decide +kernel
theorem dX9_yard_111 : decode cX9_yard 111 = .ok (.iadd, 1) := by decide +kernel
theorem dX9_yard_112 : decode cX9_yard 112 = .ok (.iload 4, 2) := by decide +kernel
theorem dX9_yard_114 : decode cX9_yard 114 = .ok (.invokevirtual 175, 3) := by decide +kernel
theorem dX9_yard_117 : decode cX9_yard 117 = .ok (.ifCond .ne 15, 3) := by decide +kernel
theorem dX9_yard_120 : decode cX9_yard 120 = .ok (.aload_n 0, 1) := by decide +kernel
theorem dX9_yard_121 : decode cX9_yard 121 = .ok (.bipush (-100), 2) := by decide +kernel
theorem dX9_yard_123 : decode cX9_yard 123 = .ok (.aload_n 0, 1) := by decide +kernel
theorem dX9_yard_124 : decode cX9_yard 124 = .ok (.getfield 121, 3) := by decide +kernel
theorem dX9_yard_127 : decode cX9_yard 127 = .ok (.isub, 1) := by decide +kernel
theorem dX9_yard_128 : decode cX9_yard 128 = .ok (.invokevirtual 163, 3) := by decide +kernel
theorem dX9_yard_131 : decode cX9_yard 131 = .ok (.ireturn, 1) := by decide +kernel
theorem dX9_yard_132 : decode cX9_yard 132 = .ok (.aload_n 0, 1) := by decide +kernel
theorem dX9_yard_133 : decode cX9_yard 133 = .ok (.aload_n 0, 1) := by decide +kernel
theorem dX9_yard_134 : decode cX9_yard 134 = .ok (.getfield 149, 3) := by decide +kernel
theorem dX9_yard_137 : decode cX9_yard 137 = .ok (.putfield 115, 3) := by decide +kernel
theorem dX9_yard_140 : decode cX9_yard 140 = .ok (.aload_n 0, 1) := by decide +kernel
theorem dX9_yard_141 : decode cX9_yard 141 = .ok (.aload_n 0, 1) := by decide +kernel
theorem dX9_yard_142 : decode cX9_yard 142 = .ok (.getfield 152, 3) := by decide +kernel
theorem dX9_yard_145 : decode cX9_yard 145 = .ok (.putfield 118, 3) := by decide +kernel
theorem dX9_yard_148 : decode cX9_yard 148 = .ok (.aload_n 0, 1) := by decide +kernel
theorem dX9_yard_149 : decode cX9_yard 149 = .ok (.aload_n 0, 1) := by decide +kernel
theorem dX9_yard_150 : decode cX9_yard 150 = .ok (.getfield 135, 3) := by decide +kernel
theorem dX9_yard_153 : decode cX9_yard 153 = .ok (.putfield 179, 3) := by decide +kernel
theorem dX9_yard_156 : decode cX9_yard 156 = .ok (.iconst 0, 1) := by decide +kernel
theorem dX9_yard_157 : decode cX9_yard 157 = .ok (.istore 5, 2) := by decide +kernel
theorem dX9_yard_159 : decode cX9_yard 159 = .ok (.iload 5, 2) := by decide +kernel
theorem dX9_yard_161 : decode cX9_yard 161 = .ok (.aload_n 0, 1) := by decide +kernel
theorem dX9_yard_162 : decode cX9_yard 162 = .ok (.invokevirtual 182, 3) := by decide +kernel
theorem dX9_yard_165 : decode cX9_yard 165 = .ok (.if_icmp .ge 23, 3) := by decide +kernel
theorem dX9_yard_168 : decode cX9_yard 168 = .ok (.aload_n 0, 1) := by decide +kernel
theorem dX9_yard_169 : decode cX9_yard 169 = .ok (.getfield 7, 3) := by decide +kernel
theorem dX9_yard_172 : decode cX9_yard 172 = .ok (.iload 5, 2) := by decide +kernel
theorem dX9_yard_174 : decode cX9_yard 174 = .ok (.aload_n 0, 1) := by decide +kernel
theorem dX9_yard_175 : decode cX9_yard 175 = .ok (.getfield 22, 3) := by decide +kernel
theorem dX9_yard_178 : decode cX9_yard 178 = .ok (.iload 5, 2) := by decide +kernel
theorem dX9_yard_180 : decode cX9_yard 180 = .ok (.iaload, 1) := by decide +kernel
theorem dX9_yard_181 : decode cX9_yard 181 = .ok (.iastore, 1) := by decide +kernel
theorem dX9_yard_182 : decode cX9_yard 182 = .ok (.iinc 5 1, 3) := by decide +kernel
theorem dX9_yard_185 : decode cX9_yard 185 = .ok (.goto (-26), 3) := by decide +kernel
theorem dX9_yard_188 : decode cX9_yard 188 = .ok (.iconst 0, 1) := by decide +kernel
theorem dX9_yard_189 : decode cX9_yard 189 = .ok (.istore 5, 2) := by decide +kernel
theorem dX9_yard_191 : decode cX9_yard 191 = .ok (.iload 5, 2) := by decide +kernel
theorem dX9_yard_193 : decode cX9_yard 193 = .ok (.bipush 6, 2) := by decide +kernel
theorem dX9_yard_195 : decode cX9_yard 195 = .ok (.if_icmp .ge 65, 3) := by decide +kernel
theorem dX9_yard_198 : decode cX9_yard 198 = .ok (.aload_n 0, 1) := by decide +kernel
theorem dX9_yard_199 : decode cX9_yard 199 = .ok (.getfield 13, 3) := by decide +kernel
theorem dX9_yard_202 : decode cX9_yard 202 = .ok (.iload 5, 2) := by decide +kernel
theorem dX9_yard_204 : decode cX9_yard 204 = .ok (.aload_n 0, 1) := by decide +kernel
theorem dX9_yard_205 : decode cX9_yard 205 = .ok (.getfield 25, 3) := by decide +kernel
theorem dX9_yard_208 : decode cX9_yard 208 = .ok (.iload 5, 2) := by decide +kernel
theorem dX9_yard_210 : decode cX9_yard 210 = .ok (.iaload, 1) := by decide +kernel
theorem dX9_yard_211 : decode cX9_yard 211 = .ok (.iastore, 1) := by decide +kernel
theorem dX9_yard_212 : decode cX9_yard 212 = .ok (.aload_n 0, 1) := by decide +kernel
theorem dX9_yard_213 : decode cX9_yard 213 = .ok (.getfield 16, 3) := by decide +kernel
theorem dX9_yard_216 : decode cX9_yard 216 = .ok (.iload 5, 2) := by decide +kernel
theorem dX9_yard_218 : decode cX9_yard 218 = .ok (.aload_n 0, 1) := by decide +kernel
theorem dX9_yard_219 : decode cX9_yard 219 = .ok (.getfield 28, 3) := by decide +kernel
theorem dX9_yard_222 : decode cX9_yard 222 = .ok (.iload 5, 2) := by decide +kernel
theorem dX9_yard_224 : decode cX9_yard 224 = .ok (.iaload, 1) := by decide +kernel
theorem dX9_yard_225 : decode cX9_yard 225 = .ok (.iastore, 1) := by decide +kernel
theorem dX9_yard_226 : decode cX9_yard 226 = .ok (.aload_n 0, 1) := by decide +kernel
theorem dX9_yard_227 : decode cX9_yard 227 = .ok (.getfield 19, 3) := by decide +kernel
theorem dX9_yard_230 : decode cX9_yard 230 = .ok (.iload 5, 2) := by decide +kernel
theorem dX9_yard_232 : decode cX9_yard 232 = .ok (.iload 5, 2) := by decide +kernel
theorem dX9_yard_234 : decode cX9_yard 234 = .ok (.aload_n 0, 1) := by decide +kernel
theorem dX9_yard_235 : decode cX9_yard 235 = .ok (.getfield 179, 3) := by decide +kernel
theorem dX9_yard_238 : decode cX9_yard 238 = .ok (.if_icmp .ge 13, 3) := by decide +kernel
theorem dX9_yard_241 : decode cX9_yard 241 = .ok (.aload_n 0, 1) := by decide +kernel
theorem dX9_yard_242 : decode cX9_yard 242 = .ok (.getfield 28, 3) := by decide +kernel
theorem dX9_yard_245 : decode cX9_yard 245 = .ok (.iload 5, 2) := by decide +kernel
theorem dX9_yard_247 : decode cX9_yard 247 = .ok (.iaload, 1) := by decide +kernel
theorem dX9_yard_248 : decode cX9_yard 248 = .ok (.goto 5, 3) := by decide +kernel
theorem dX9_yard_251 : decode cX9_yard 251 = .ok (.bipush (-6), 2) := by decide +kernel
theorem dX9_yard_253 : decode cX9_yard 253 = .ok (.iastore, 1) := by decide +kernel
theorem dX9_yard_254 : decode cX9_yard 254 = .ok (.iinc 5 1, 3) := by decide +kernel
theorem dX9_yard_257 : decode cX9_yard 257 = .ok (.goto (-66), 3) := by decide +kernel
theorem dX9_yard_260 : decode cX9_yard 260 = .ok (.aload_n 0, 1) := by decide +kernel
theorem dX9_yard_261 : decode cX9_yard 261 = .ok (.lconst 0, 1) := by decide +kernel
theorem dX9_yard_262 : decode cX9_yard 262 = .ok (.putfield 186, 3) := by decide +kernel
theorem dX9_yard_265 : decode cX9_yard 265 = .ok (.aload_n 0, 1) := by decide +kernel
theorem dX9_yard_266 : decode cX9_yard 266 = .ok (.lconst 0, 1) := by decide +kernel
theorem dX9_yard_267 : decode cX9_yard 267 = .ok (.putfield 190, 3) := by decide +kernel
theorem dX9_yard_270 : decode cX9_yard 270 = .ok (.aload_n 0, 1) := by decide +kernel
theorem dX9_yard_271 : decode cX9_yard 271 = .ok (.iconst 0, 1) := by decide +kernel
theorem dX9_yard_272 : decode cX9_yard 272 = .ok (.putfield 193, 3) := by decide +kernel
theorem dX9_yard_275 : decode cX9_yard 275 = .ok (.iconst 0, 1) := by decide +kernel
theorem dX9_yard_276 : decode cX9_yard 276 = .ok (.istore 5, 2) := by decide +kernel
theorem dX9_yard_278 : decode cX9_yard 278 = .ok (.iload 5, 2) := by decide +kernel
theorem dX9_yard_280 : decode cX9_yard 280 = .ok (.iconst 3, 1) := by decide +kernel
theorem dX9_yard_281 : decode cX9_yard 281 = .ok (.if_icmp .ge 17, 3) := by decide +kernel
theorem dX9_yard_284 : decode cX9_yard 284 = .ok (.aload_n 0, 1) := by decide +kernel
theorem dX9_yard_285 : decode cX9_yard 285 = .ok (.getfield 44, 3) := by decide +kernel
theorem dX9_yard_288 : decode cX9_yard 288 = .ok (.iload 5, 2) := by decide +kernel
theorem dX9_yard_290 : decode cX9_yard 290 = .ok (.iconst 0, 1) := by decide +kernel
theorem dX9_yard_291 : decode cX9_yard 291 = .ok (.bastore, 1) := by decide +kernel
theorem dX9_yard_292 : decode cX9_yard 292 = .ok (.iinc 5 1, 3) := by decide +kernel
theorem dX9_yard_295 : decode cX9_yard 295 = .ok (.goto (-17), 3) := by decide +kernel
theorem dX9_yard_298 : decode cX9_yard 298 = .ok (.aload_n 0, 1) := by decide +kernel
theorem dX9_yard_299 : decode cX9_yard 299 = .ok (.aload_n 0, 1) := by decide +kernel
theorem dX9_yard_300 : decode cX9_yard 300 = .ok (.getfield 179, 3) := by decide +kernel
theorem dX9_yard_303 : decode cX9_yard 303 = .ok (.invokevirtual 163, 3) := by decide +kernel
theorem dX9_yard_306 : decode cX9_yard 306 = .ok (.ireturn, 1) := by decide +kernel
theorem dX9_noBlock_0 : decode cX9_noBlock 0 = .ok (.iload_n 1, 1) := by decide +kernel
theorem dX9_noBlock_1 : decode cX9_noBlock 1 = .ok (.i2l, 1) := by decide +kernel
theorem dX9_noBlock_2 : decode cX9_noBlock 2 = .ok (.lconst 0, 1) := by decide +kernel
theorem dX9_noBlock_3 : decode cX9_noBlock 3 = .ok (.aload_n 0, 1) := by decide +kernel
theorem dX9_noBlock_4 : decode cX9_noBlock 4 = .ok (.getfield 179, 3) := by decide +kernel
theorem dX9_noBlock_7 : decode cX9_noBlock 7 = .ok (.i2l, 1) := by decide +kernel
theorem dX9_noBlock_8 : decode cX9_noBlock 8 = .ok (.lconst 1, 1) := by decide +kernel
theorem dX9_noBlock_9 : decode cX9_noBlock 9 = .ok (.lsub, 1) := by decide +kernel
theorem dX9_noBlock_10 : decode cX9_noBlock 10 = .ok (.invokestatic 142, 3) := by decide +kernel
theorem dX9_noBlock_13 : decode cX9_noBlock 13 = .ok (.ifCond .ne 7, 3) := by decide +kernel
theorem dX9_noBlock_16 : decode cX9_noBlock 16 = .ok (.iconst 1, 1) := by decide +kernel
theorem dX9_noBlock_17 : decode cX9_noBlock 17 = .ok (.goto 4, 3) := by decide +kernel
theorem dX9_noBlock_20 : decode cX9_noBlock 20 = .ok (.iconst 0, 1) := by decide +kernel
theorem dX9_noBlock_21 : decode cX9_noBlock 21 = .ok (.ireturn, 1) := by decide +kernel
theorem dX9_blockIn_0 : decode cX9_blockIn 0 = .ok (.iconst 0, 1) := by decide +kernel
theorem dX9_blockIn_1 : decode cX9_blockIn 1 = .ok (.istore_n 2, 1) := by decide +kernel
theorem dX9_blockIn_2 : decode cX9_blockIn 2 = .ok (.iload_n 2, 1) := by decide +kernel
theorem dX9_blockIn_3 : decode cX9_blockIn 3 = .ok (.aload_n 0, 1) := by decide +kernel
theorem dX9_blockIn_4 : decode cX9_blockIn 4 = .ok (.getfield 179, 3) := by decide +kernel
theorem dX9_blockIn_7 : decode cX9_blockIn 7 = .ok (.if_icmp .ge 21, 3) := by decide +kernel
theorem dX9_blockIn_10 : decode cX9_blockIn 10 = .ok (.aload_n 0, 1) := by decide +kernel
theorem dX9_blockIn_11 : decode cX9_blockIn 11 = .ok (.getfield 19, 3) := by decide +kernel
theorem dX9_blockIn_14 : decode cX9_blockIn 14 = .ok (.iload_n 2, 1) := by decide +kernel
theorem dX9_blockIn_15 : decode cX9_blockIn 15 = .ok (.iaload, 1) := by decide +kernel
theorem dX9_blockIn_16 : decode cX9_blockIn 16 = .ok (.iload_n 1, 1) := by decide +kernel
theorem dX9_blockIn_17 : decode cX9_blockIn 17 = .ok (.if_icmp .ne 5, 3) := by decide +kernel
theorem dX9_blockIn_20 : decode cX9_blockIn 20 = .ok (.iload_n 2, 1) := by decide +kernel
theorem dX9_blockIn_21 : decode cX9_blockIn 21 = .ok (.ireturn, 1) := by decide +kernel
theorem dX9_blockIn_22 : decode cX9_blockIn 22 = .ok (.iinc 2 1, 3) := by decide +kernel
theorem dX9_blockIn_25 : decode cX9_blockIn 25 = .ok (.goto (-23), 3) := by decide +kernel
theorem dX9_blockIn_28 : decode cX9_blockIn 28 = .ok (.bipush (-9), 2) := by decide +kernel
theorem dX9_blockIn_30 : decode cX9_blockIn 30 = .ok (.ireturn, 1) := by decide +kernel
theorem dX9_whatIs_0 : decode cX9_whatIs 0 = .ok (.aload_n 0, 1) := by decide +kernel
theorem dX9_whatIs_1 : decode cX9_whatIs 1 = .ok (.getfield 190, 3) := by decide +kernel
theorem dX9_whatIs_4 : decode cX9_whatIs 4 = .ok (.iload_n 1, 1) := by decide +kernel
theorem dX9_whatIs_5 : decode cX9_whatIs 5 = .ok (.lshr, 1) := by decide +kernel
theorem dX9_whatIs_6 : decode cX9_whatIs 6 = .ok (.lconst 1, 1) := by decide +kernel
theorem dX9_whatIs_7 : decode cX9_whatIs 7 = .ok (.land, 1) := by decide +kernel
theorem dX9_whatIs_8 : decode cX9_whatIs 8 = .ok (.lconst 1, 1) := by decide +kernel
theorem dX9_whatIs_9 : decode cX9_whatIs 9 = .ok (.lcmp, 1) := by decide +kernel
theorem dX9_whatIs_10 : decode cX9_whatIs 10 = .ok (.ifCond .ne 5, 3) := by decide +kernel
theorem dX9_whatIs_13 : decode cX9_whatIs 13 = .ok (.iconst 2, 1) := by decide +kernel
theorem dX9_whatIs_14 : decode cX9_whatIs 14 = .ok (.ireturn, 1) := by decide +kernel
theorem dX9_whatIs_15 : decode cX9_whatIs 15 = .ok (.aload_n 0, 1) := by decide +kernel
theorem dX9_whatIs_16 : decode cX9_whatIs 16 = .ok (.getfield 7, 3) := by decide +kernel
theorem dX9_whatIs_19 : decode cX9_whatIs 19 = .ok (.iload_n 1, 1) := by decide +kernel
theorem dX9_whatIs_20 : decode cX9_whatIs 20 = .ok (.iaload, 1) := by decide +kernel
theorem dX9_whatIs_21 : decode cX9_whatIs 21 = .ok (.iconst 3, 1) := by decide +kernel
theorem dX9_whatIs_22 : decode cX9_whatIs 22 = .ok (.if_icmp .ne 20, 3) := by decide +kernel
theorem dX9_whatIs_25 : decode cX9_whatIs 25 = .ok (.aload_n 0, 1) := by decide +kernel
theorem dX9_whatIs_26 : decode cX9_whatIs 26 = .ok (.getfield 186, 3) := by decide +kernel
theorem dX9_whatIs_29 : decode cX9_whatIs 29 = .ok (.iload_n 1, 1) := by decide +kernel
theorem dX9_whatIs_30 : decode cX9_whatIs 30 = .ok (.lshr, 1) := by decide +kernel
theorem dX9_whatIs_31 : decode cX9_whatIs 31 = .ok (.lconst 1, 1) := by decide +kernel
theorem dX9_whatIs_32 : decode cX9_whatIs 32 = .ok (.land, 1) := by decide +kernel
theorem dX9_whatIs_33 : decode cX9_whatIs 33 = .ok (.lconst 1, 1) := by decide +kernel
theorem dX9_whatIs_34 : decode cX9_whatIs 34 = .ok (.lcmp, 1) := by decide +kernel
theorem dX9_whatIs_35 : decode cX9_whatIs 35 = .ok (.ifCond .ne 7, 3) := by decide +kernel
theorem dX9_whatIs_38 : decode cX9_whatIs 38 = .ok (.iconst 0, 1) := by decide +kernel
theorem dX9_whatIs_39 : decode cX9_whatIs 39 = .ok (.goto 9, 3) := by decide +kernel
theorem dX9_whatIs_42 : decode cX9_whatIs 42 = .ok (.aload_n 0, 1) := by decide +kernel
theorem dX9_whatIs_43 : decode cX9_whatIs 43 = .ok (.getfield 7, 3) := by decide +kernel
theorem dX9_whatIs_46 : decode cX9_whatIs 46 = .ok (.iload_n 1, 1) := by decide +kernel
theorem dX9_whatIs_47 : decode cX9_whatIs 47 = .ok (.iaload, 1) := by decide +kernel
theorem dX9_whatIs_48 : decode cX9_whatIs 48 = .ok (.ireturn, 1) := by decide +kernel
theorem dX9_at_0 : decode cX9_at 0 = .ok (.iload_n 1, 1) := by decide +kernel
theorem dX9_at_1 : decode cX9_at 1 = .ok (.i2l, 1) := by decide +kernel
theorem dX9_at_2 : decode cX9_at 2 = .ok (.lconst 0, 1) := by decide +kernel
theorem dX9_at_3 : decode cX9_at 3 = .ok (.aload_n 0, 1) := by decide +kernel
theorem dX9_at_4 : decode cX9_at 4 = .ok (.invokevirtual 182, 3) := by decide +kernel
theorem dX9_at_7 : decode cX9_at 7 = .ok (.i2l, 1) := by decide +kernel
theorem dX9_at_8 : decode cX9_at 8 = .ok (.lconst 1, 1) := by decide +kernel
theorem dX9_at_9 : decode cX9_at 9 = .ok (.lsub, 1) := by decide +kernel
theorem dX9_at_10 : decode cX9_at 10 = .ok (.invokestatic 142, 3) := by decide +kernel
theorem dX9_at_13 : decode cX9_at 13 = .ok (.ifCond .ne 5, 3) := by decide +kernel
theorem dX9_at_16 : decode cX9_at 16 = .ok (.iconst (-1), 1) := by decide +kernel
theorem dX9_at_17 : decode cX9_at 17 = .ok (.ireturn, 1) := by decide +kernel
theorem dX9_at_18 : decode cX9_at 18 = .ok (.aload_n 0, 1) := by decide +kernel
theorem dX9_at_19 : decode cX9_at 19 = .ok (.iload_n 1, 1) := by decide +kernel
theorem dX9_at_20 : decode cX9_at 20 = .ok (.invokevirtual 196, 3) := by decide +kernel
theorem dX9_at_23 : decode cX9_at 23 = .ok (.istore_n 2, 1) := by decide +kernel
theorem dX9_at_24 : decode cX9_at 24 = .ok (.iload_n 2, 1) := by decide +kernel
theorem dX9_at_25 : decode cX9_at 25 = .ok (.ifCond .ge 11, 3) := by decide +kernel
theorem dX9_at_28 : decode cX9_at 28 = .ok (.aload_n 0, 1) := by decide +kernel
theorem dX9_at_29 : decode cX9_at 29 = .ok (.iload_n 1, 1) := by decide +kernel
theorem dX9_at_30 : decode cX9_at 30 = .ok (.invokevirtual 199, 3) := by decide +kernel
theorem dX9_at_33 : decode cX9_at 33 = .ok (.goto 7, 3) := by decide +kernel
theorem dX9_at_36 : decode cX9_at 36 = .ok (.bipush 10, 2) := by decide +kernel
theorem dX9_at_38 : decode cX9_at 38 = .ok (.iload_n 2, 1) := by decide +kernel
theorem dX9_at_39 : decode cX9_at 39 = .ok (.iadd, 1) := by decide +kernel
theorem dX9_at_40 : decode cX9_at 40 = .ok (.ireturn, 1) := by decide +kernel
theorem dX9_ofBlock_0 : decode cX9_ofBlock 0 = .ok (.aload_n 0, 1) := by decide +kernel
theorem dX9_ofBlock_1 : decode cX9_ofBlock 1 = .ok (.iload_n 1, 1) := by decide +kernel
theorem dX9_ofBlock_2 : decode cX9_ofBlock 2 = .ok (.invokevirtual 202, 3) := by decide +kernel
theorem dX9_ofBlock_5 : decode cX9_ofBlock 5 = .ok (.ifCond .eq 5, 3) := by decide +kernel
theorem dX9_ofBlock_8 : decode cX9_ofBlock 8 = .ok (.iconst (-1), 1) := by decide +kernel
theorem dX9_ofBlock_9 : decode cX9_ofBlock 9 = .ok (.ireturn, 1) := by decide +kernel
theorem dX9_ofBlock_10 : decode cX9_ofBlock 10 = .ok (.iload_n 2, 1) := by decide +kernel
theorem dX9_ofBlock_11 : decode cX9_ofBlock 11 = .ok (.ifCond .ne 12, 3) := by decide +kernel
theorem dX9_ofBlock_14 : decode cX9_ofBlock 14 = .ok (.aload_n 0, 1) := by decide +kernel
theorem dX9_ofBlock_15 : decode cX9_ofBlock 15 = .ok (.getfield 13, 3) := by decide +kernel
theorem dX9_ofBlock_18 : decode cX9_ofBlock 18 = .ok (.iload_n 1, 1) := by decide +kernel
theorem dX9_ofBlock_19 : decode cX9_ofBlock 19 = .ok (.iaload, 1) := by decide +kernel
theorem dX9_ofBlock_20 : decode cX9_ofBlock 20 = .ok (.goto 19, 3) := by decide +kernel
theorem dX9_ofBlock_23 : decode cX9_ofBlock 23 = .ok (.iload_n 2, 1) := by decide +kernel
theorem dX9_ofBlock_24 : decode cX9_ofBlock 24 = .ok (.iconst 1, 1) := by decide +kernel
theorem dX9_ofBlock_25 : decode cX9_ofBlock 25 = .ok (.if_icmp .ne 12, 3) := by decide +kernel
theorem dX9_ofBlock_28 : decode cX9_ofBlock 28 = .ok (.aload_n 0, 1) := by decide +kernel
theorem dX9_ofBlock_29 : decode cX9_ofBlock 29 = .ok (.getfield 19, 3) := by decide +kernel
theorem dX9_ofBlock_32 : decode cX9_ofBlock 32 = .ok (.iload_n 1, 1) := by decide +kernel
theorem dX9_ofBlock_33 : decode cX9_ofBlock 33 = .ok (.iaload, 1) := by decide +kernel
theorem dX9_ofBlock_34 : decode cX9_ofBlock 34 = .ok (.goto 5, 3) := by decide +kernel
theorem dX9_ofBlock_37 : decode cX9_ofBlock 37 = .ok (.bipush (-2), 2) := by decide +kernel
theorem dX9_ofBlock_39 : decode cX9_ofBlock 39 = .ok (.ireturn, 1) := by decide +kernel
theorem dX9_beside_0 : decode cX9_beside 0 = .ok (.iload_n 1, 1) := by decide +kernel
theorem dX9_beside_1 : decode cX9_beside 1 = .ok (.aload_n 0, 1) := by decide +kernel
theorem dX9_beside_2 : decode cX9_beside 2 = .ok (.getfield 118, 3) := by decide +kernel
theorem dX9_beside_5 : decode cX9_beside 5 = .ok (.idiv, 1) := by decide +kernel
theorem dX9_beside_6 : decode cX9_beside 6 = .ok (.iload_n 2, 1) := by decide +kernel
theorem dX9_beside_7 : decode cX9_beside 7 = .ok (.ifCond .ne 7, 3) := by decide +kernel
theorem dX9_beside_10 : decode cX9_beside 10 = .ok (.iconst (-1), 1) := by decide +kernel
theorem dX9_beside_11 : decode cX9_beside 11 = .ok (.goto 13, 3) := by decide +kernel
theorem dX9_beside_14 : decode cX9_beside 14 = .ok (.iload_n 2, 1) := by decide +kernel
theorem dX9_beside_15 : decode cX9_beside 15 = .ok (.iconst 2, 1) := by decide +kernel
theorem dX9_beside_16 : decode cX9_beside 16 = .ok (.if_icmp .ne 7, 3) := by decide +kernel
theorem dX9_beside_19 : decode cX9_beside 19 = .ok (.iconst 1, 1) := by decide +kernel
theorem dX9_beside_20 : decode cX9_beside 20 = .ok (.goto 4, 3) := by decide +kernel
theorem dX9_beside_23 : decode cX9_beside 23 = .ok (.iconst 0, 1) := by decide +kernel
theorem dX9_beside_24 : decode cX9_beside 24 = .ok (.iadd, 1) := by decide +kernel
theorem dX9_beside_25 : decode cX9_beside 25 = .ok (.istore_n 3, 1) := by decide +kernel
theorem dX9_beside_26 : decode cX9_beside 26 = .ok (.iload_n 1, 1) := by decide +kernel
theorem dX9_beside_27 : decode cX9_beside 27 = .ok (.aload_n 0, 1) := by decide +kernel
theorem dX9_beside_28 : decode cX9_beside 28 = .ok (.getfield 118, 3) := by decide +kernel
theorem dX9_beside_31 : decode cX9_beside 31 = .ok (.irem, 1) := by decide +kernel
theorem dX9_beside_32 : decode cX9_beside 32 = .ok (.iload_n 2, 1) := by decide +kernel
theorem dX9_beside_33 : decode cX9_beside 33 = .ok (.iconst 1, 1) := by decide +kernel
theorem dX9_beside_34 : decode cX9_beside 34 = .ok (.if_icmp .ne 7, 3) := by decide +kernel
theorem dX9_beside_37 : decode cX9_beside 37 = .ok (.iconst 1, 1) := by decide +kernel
theorem dX9_beside_38 : decode cX9_beside 38 = .ok (.goto 13, 3) := by decide +kernel
theorem dX9_beside_41 : decode cX9_beside 41 = .ok (.iload_n 2, 1) := by decide +kernel
theorem dX9_beside_42 : decode cX9_beside 42 = .ok (.iconst 3, 1) := by decide +kernel
theorem dX9_beside_43 : decode cX9_beside 43 = .ok (.if_icmp .ne 7, 3) := by decide +kernel
theorem dX9_beside_46 : decode cX9_beside 46 = .ok (.iconst (-1), 1) := by decide +kernel
theorem dX9_beside_47 : decode cX9_beside 47 = .ok (.goto 4, 3) := by decide +kernel
theorem dX9_beside_50 : decode cX9_beside 50 = .ok (.iconst 0, 1) := by decide +kernel
theorem dX9_beside_51 : decode cX9_beside 51 = .ok (.iadd, 1) := by decide +kernel
theorem dX9_beside_52 : decode cX9_beside 52 = .ok (.istore 4, 2) := by decide +kernel
theorem dX9_beside_54 : decode cX9_beside 54 = .ok (.iload_n 3, 1) := by decide +kernel
theorem dX9_beside_55 : decode cX9_beside 55 = .ok (.i2l, 1) := by decide +kernel
theorem dX9_beside_56 : decode cX9_beside 56 = .ok (.lconst 0, 1) := by decide +kernel
theorem dX9_beside_57 : decode cX9_beside 57 = .ok (.aload_n 0, 1) := by decide +kernel
theorem dX9_beside_58 : decode cX9_beside 58 = .ok (.getfield 115, 3) := by decide +kernel
theorem dX9_beside_61 : decode cX9_beside 61 = .ok (.i2l, 1) := by decide +kernel
theorem dX9_beside_62 : decode cX9_beside 62 = .ok (.lconst 1, 1) := by decide +kernel
theorem dX9_beside_63 : decode cX9_beside 63 = .ok (.lsub, 1) := by decide +kernel
theorem dX9_beside_64 : decode cX9_beside 64 = .ok (.invokestatic 142, 3) := by decide +kernel
theorem dX9_beside_67 : decode cX9_beside 67 = .ok (.ifCond .eq 32, 3) := by decide +kernel
theorem dX9_beside_70 : decode cX9_beside 70 = .ok (.iload 4, 2) := by decide +kernel
theorem dX9_beside_72 : decode cX9_beside 72 = .ok (.i2l, 1) := by decide +kernel
theorem dX9_beside_73 : decode cX9_beside 73 = .ok (.lconst 0, 1) := by decide +kernel
theorem dX9_beside_74 : decode cX9_beside 74 = .ok (.aload_n 0, 1) := by decide +kernel
theorem dX9_beside_75 : decode cX9_beside 75 = .ok (.getfield 118, 3) := by decide +kernel
theorem dX9_beside_78 : decode cX9_beside 78 = .ok (.i2l, 1) := by decide +kernel
theorem dX9_beside_79 : decode cX9_beside 79 = .ok (.lconst 1, 1) := by decide +kernel
theorem dX9_beside_80 : decode cX9_beside 80 = .ok (.lsub, 1) := by decide +kernel
theorem dX9_beside_81 : decode cX9_beside 81 = .ok (.invokestatic 142, 3) := by decide +kernel
theorem dX9_beside_84 : decode cX9_beside 84 = .ok (.ifCond .eq 15, 3) := by decide +kernel
theorem dX9_beside_87 : decode cX9_beside 87 = .ok (.iload_n 3, 1) := by decide +kernel
theorem dX9_beside_88 : decode cX9_beside 88 = .ok (.aload_n 0, 1) := by decide +kernel
theorem dX9_beside_89 : decode cX9_beside 89 = .ok (.getfield 118, 3) := by decide +kernel
theorem dX9_beside_92 : decode cX9_beside 92 = .ok (.imul, 1) := by decide +kernel
theorem dX9_beside_93 : decode cX9_beside 93 = .ok (.iload 4, 2) := by decide +kernel
theorem dX9_beside_95 : decode cX9_beside 95 = .ok (.iadd, 1) := by decide +kernel
theorem dX9_beside_96 : decode cX9_beside 96 = .ok (.goto 5, 3) := by decide +kernel
theorem dX9_beside_99 : decode cX9_beside 99 = .ok (.bipush (-9), 2) := by decide +kernel
theorem dX9_beside_101 : decode cX9_beside 101 = .ok (.ireturn, 1) := by decide +kernel
theorem dX9_slide_0 : decode cX9_slide 0 = .ok (.aload_n 0, 1) := by decide +kernel
theorem dX9_slide_1 : decode cX9_slide 1 = .ok (.aload_n 0, 1) := by decide +kernel
theorem dX9_slide_2 : decode cX9_slide 2 = .ok (.getfield 19, 3) := by decide +kernel
theorem dX9_slide_5 : decode cX9_slide 5 = .ok (.iload_n 1, 1) := by decide +kernel
theorem dX9_slide_6 : decode cX9_slide 6 = .ok (.iaload, 1) := by decide +kernel
theorem dX9_slide_7 : decode cX9_slide 7 = .ok (.iload_n 2, 1) := by decide +kernel
theorem dX9_slide_8 : decode cX9_slide 8 = .ok (.invokevirtual 205, 3) := by decide +kernel
theorem dX9_slide_11 : decode cX9_slide 11 = .ok (.istore_n 3, 1) := by decide +kernel
theorem dX9_slide_12 : decode cX9_slide 12 = .ok (.iload_n 3, 1) := by decide +kernel
theorem dX9_slide_13 : decode cX9_slide 13 = .ok (.ifCond .lt 13, 3) := by decide +kernel
theorem dX9_slide_16 : decode cX9_slide 16 = .ok (.aload_n 0, 1) := by decide +kernel
theorem dX9_slide_17 : decode cX9_slide 17 = .ok (.getfield 7, 3) := by decide +kernel
theorem dX9_slide_20 : decode cX9_slide 20 = .ok (.iload_n 3, 1) := by decide +kernel
theorem dX9_slide_21 : decode cX9_slide 21 = .ok (.iaload, 1) := by decide +kernel
theorem dX9_slide_22 : decode cX9_slide 22 = .ok (.iconst 1, 1) := by decide +kernel
theorem dX9_slide_23 : decode cX9_slide 23 = .ok (.if_icmp .ne 6, 3) := by decide +kernel
theorem dX9_slide_26 : decode cX9_slide 26 = .ok (.bipush (-9), 2) := by decide +kernel
theorem dX9_slide_28 : decode cX9_slide 28 = .ok (.ireturn, 1) := by decide +kernel
theorem dX9_slide_29 : decode cX9_slide 29 = .ok (.aload_n 0, 1) := by decide +kernel
theorem dX9_slide_30 : decode cX9_slide 30 = .ok (.iload_n 3, 1) := by decide +kernel
theorem dX9_slide_31 : decode cX9_slide 31 = .ok (.invokevirtual 196, 3) := by decide +kernel
theorem dX9_slide_34 : decode cX9_slide 34 = .ok (.istore 4, 2) := by decide +kernel
theorem dX9_slide_36 : decode cX9_slide 36 = .ok (.iload 4, 2) := by decide +kernel
theorem dX9_slide_38 : decode cX9_slide 38 = .ok (.ifCond .lt 6, 3) := by decide +kernel
theorem dX9_slide_41 : decode cX9_slide 41 = .ok (.iload 4, 2) := by decide +kernel
theorem dX9_slide_43 : decode cX9_slide 43 = .ok (.ireturn, 1) := by decide +kernel
theorem dX9_slide_44 : decode cX9_slide 44 = .ok (.aload_n 0, 1) := by decide +kernel
theorem dX9_slide_45 : decode cX9_slide 45 = .ok (.dup, 1) := by decide +kernel
theorem dX9_slide_46 : decode cX9_slide 46 = .ok (.getfield 208, 3) := by decide +kernel
theorem dX9_slide_49 : decode cX9_slide 49 = .ok (.lconst 1, 1) := by decide +kernel
theorem dX9_slide_50 : decode cX9_slide 50 = .ok (.iload_n 3, 1) := by decide +kernel
theorem dX9_slide_51 : decode cX9_slide 51 = .ok (.lshl, 1) := by decide +kernel
theorem dX9_slide_52 : decode cX9_slide 52 = .ok (.lor, 1) := by decide +kernel
theorem dX9_slide_53 : decode cX9_slide 53 = .ok (.putfield 208, 3) := by decide +kernel
theorem dX9_slide_56 : decode cX9_slide 56 = .ok (.aload_n 0, 1) := by decide +kernel
theorem dX9_slide_57 : decode cX9_slide 57 = .ok (.iload_n 3, 1) := by decide +kernel
theorem dX9_slide_58 : decode cX9_slide 58 = .ok (.invokevirtual 199, 3) := by decide +kernel
theorem dX9_slide_61 : decode cX9_slide 61 = .ok (.istore 5, 2) := by decide +kernel
theorem dX9_slide_63 : decode cX9_slide 63 = .ok (.aload_n 0, 1) := by decide +kernel
theorem dX9_slide_64 : decode cX9_slide 64 = .ok (.getfield 19, 3) := by decide +kernel
theorem dX9_slide_67 : decode cX9_slide 67 = .ok (.iload_n 1, 1) := by decide +kernel
theorem dX9_slide_68 : decode cX9_slide 68 = .ok (.iload_n 3, 1) := by decide +kernel
theorem dX9_slide_69 : decode cX9_slide 69 = .ok (.iastore, 1) := by decide +kernel
theorem dX9_slide_70 : decode cX9_slide 70 = .ok (.iload 5, 2) := by decide +kernel
theorem dX9_slide_72 : decode cX9_slide 72 = .ok (.iconst 3, 1) := by decide +kernel
theorem dX9_slide_73 : decode cX9_slide 73 = .ok (.if_icmp .ne 26, 3) := by decide +kernel
theorem dX9_slide_76 : decode cX9_slide 76 = .ok (.aload_n 0, 1) := by decide +kernel
theorem dX9_slide_77 : decode cX9_slide 77 = .ok (.dup, 1) := by decide +kernel
theorem dX9_slide_78 : decode cX9_slide 78 = .ok (.getfield 186, 3) := by decide +kernel
theorem dX9_slide_81 : decode cX9_slide 81 = .ok (.lconst 1, 1) := by decide +kernel
theorem dX9_slide_82 : decode cX9_slide 82 = .ok (.iload_n 3, 1) := by decide +kernel
theorem dX9_slide_83 : decode cX9_slide 83 = .ok (.lshl, 1) := by decide +kernel
theorem dX9_slide_84 : decode cX9_slide 84 = .ok (.lor, 1) := by decide +kernel
theorem dX9_slide_85 : decode cX9_slide 85 = .ok (.putfield 186, 3) := by decide +kernel
theorem dX9_slide_88 : decode cX9_slide 88 = .ok (.aload_n 0, 1) := by decide +kernel
theorem dX9_slide_89 : decode cX9_slide 89 = .ok (.getfield 19, 3) := by decide +kernel
theorem dX9_slide_92 : decode cX9_slide 92 = .ok (.iload_n 1, 1) := by decide +kernel
theorem dX9_slide_93 : decode cX9_slide 93 = .ok (.bipush (-6), 2) := by decide +kernel
theorem dX9_slide_95 : decode cX9_slide 95 = .ok (.iastore, 1) := by decide +kernel
theorem dX9_slide_96 : decode cX9_slide 96 = .ok (.bipush (-9), 2) := by decide +kernel
theorem dX9_slide_98 : decode cX9_slide 98 = .ok (.ireturn, 1) := by decide +kernel
theorem dX9_slide_99 : decode cX9_slide 99 = .ok (.iload 5, 2) := by decide +kernel
theorem dX9_slide_101 : decode cX9_slide 101 = .ok (.iconst 4, 1) := by decide +kernel
theorem dX9_slide_102 : decode cX9_slide 102 = .ok (.if_icmp .lt 34, 3) := by decide +kernel
theorem dX9_slide_105 : decode cX9_slide 105 = .ok (.aload_n 0, 1) := by decide +kernel
theorem dX9_slide_106 : decode cX9_slide 106 = .ok (.getfield 19, 3) := by decide +kernel
theorem dX9_slide_109 : decode cX9_slide 109 = .ok (.iload_n 1, 1) := by decide +kernel
theorem dX9_slide_110 : decode cX9_slide 110 = .ok (.bipush (-20), 2) := by decide +kernel
theorem dX9_slide_112 : decode cX9_slide 112 = .ok (.iload 5, 2) := by decide +kernel
theorem dX9_slide_114 : decode cX9_slide 114 = .ok (.iconst 4, 1) := by decide +kernel
theorem dX9_slide_115 : decode cX9_slide 115 = .ok (.isub, 1) := by decide +kernel
theorem dX9_slide_116 : decode cX9_slide 116 = .ok (.isub, 1) := by decide +kernel
theorem dX9_slide_117 : decode cX9_slide 117 = .ok (.iastore, 1) := by decide +kernel
theorem dX9_slide_118 : decode cX9_slide 118 = .ok (.aload_n 0, 1) := by decide +kernel
theorem dX9_slide_119 : decode cX9_slide 119 = .ok (.dup, 1) := by decide +kernel
theorem dX9_slide_120 : decode cX9_slide 120 = .ok (.getfield 211, 3) := by decide +kernel
theorem dX9_slide_123 : decode cX9_slide 123 = .ok (.iconst 1, 1) := by decide +kernel
theorem dX9_slide_124 : decode cX9_slide 124 = .ok (.iload 5, 2) := by decide +kernel
theorem dX9_slide_126 : decode cX9_slide 126 = .ok (.iconst 4, 1) := by decide +kernel
theorem dX9_slide_127 : decode cX9_slide 127 = .ok (.isub, 1) := by decide +kernel
theorem dX9_slide_128 : decode cX9_slide 128 = .ok (.ishl, 1) := by decide +kernel
theorem dX9_slide_129 : decode cX9_slide 129 = .ok (.ior, 1) := by decide +kernel
theorem dX9_slide_130 : decode cX9_slide 130 = .ok (.putfield 211, 3) := by decide +kernel
theorem dX9_slide_133 : decode cX9_slide 133 = .ok (.bipush (-9), 2) := by decide +kernel
theorem dX9_slide_135 : decode cX9_slide 135 = .ok (.ireturn, 1) := by decide +kernel
theorem dX9_slide_136 : decode cX9_slide 136 = .ok (.iload 5, 2) := by decide +kernel
theorem dX9_slide_138 : decode cX9_slide 138 = .ok (.iconst 2, 1) := by decide +kernel
theorem dX9_slide_139 : decode cX9_slide 139 = .ok (.if_icmp .ne 16, 3) := by decide +kernel
theorem dX9_slide_142 : decode cX9_slide 142 = .ok (.aload_n 0, 1) := by decide +kernel
theorem dX9_slide_143 : decode cX9_slide 143 = .ok (.getfield 13, 3) := by decide +kernel
theorem dX9_slide_146 : decode cX9_slide 146 = .ok (.iload_n 1, 1) := by decide +kernel
theorem dX9_slide_147 : decode cX9_slide 147 = .ok (.iaload, 1) := by decide +kernel
theorem dX9_slide_148 : decode cX9_slide 148 = .ok (.iconst 2, 1) := by decide +kernel
theorem dX9_slide_149 : decode cX9_slide 149 = .ok (.if_icmp .ge 6, 3) := by decide +kernel
theorem dX9_slide_152 : decode cX9_slide 152 = .ok (.bipush (-9), 2) := by decide +kernel
theorem dX9_slide_154 : decode cX9_slide 154 = .ok (.ireturn, 1) := by decide +kernel
theorem dX9_slide_155 : decode cX9_slide 155 = .ok (.goto (-155), 3) := by decide +kernel
theorem dX9_goes_0 : decode cX9_goes 0 = .ok (.aload_n 0, 1) := by decide +kernel
theorem dX9_goes_1 : decode cX9_goes 1 = .ok (.lconst 0, 1) := by decide +kernel
theorem dX9_goes_2 : decode cX9_goes 2 = .ok (.putfield 208, 3) := by decide +kernel
theorem dX9_goes_5 : decode cX9_goes 5 = .ok (.aload_n 0, 1) := by decide +kernel
theorem dX9_goes_6 : decode cX9_goes 6 = .ok (.iconst 0, 1) := by decide +kernel
theorem dX9_goes_7 : decode cX9_goes 7 = .ok (.putfield 211, 3) := by decide +kernel
theorem dX9_goes_10 : decode cX9_goes 10 = .ok (.aload_n 0, 1) := by decide +kernel
theorem dX9_goes_11 : decode cX9_goes 11 = .ok (.getfield 19, 3) := by decide +kernel
theorem dX9_goes_14 : decode cX9_goes 14 = .ok (.iload_n 1, 1) := by decide +kernel
theorem dX9_goes_15 : decode cX9_goes 15 = .ok (.iaload, 1) := by decide +kernel
theorem dX9_goes_16 : decode cX9_goes 16 = .ok (.ifCond .ge 5, 3) := by decide +kernel
theorem dX9_goes_19 : decode cX9_goes 19 = .ok (.iconst 0, 1) := by decide +kernel
theorem dX9_goes_20 : decode cX9_goes 20 = .ok (.ireturn, 1) := by decide +kernel
theorem dX9_goes_21 : decode cX9_goes 21 = .ok (.iload_n 1, 1) := by decide +kernel
theorem dX9_goes_22 : decode cX9_goes 22 = .ok (.istore_n 3, 1) := by decide +kernel
theorem dX9_goes_23 : decode cX9_goes 23 = .ok (.aload_n 0, 1) := by decide +kernel
theorem dX9_goes_24 : decode cX9_goes 24 = .ok (.iload_n 3, 1) := by decide +kernel
theorem dX9_goes_25 : decode cX9_goes 25 = .ok (.iload_n 2, 1) := by decide +kernel
theorem dX9_goes_26 : decode cX9_goes 26 = .ok (.invokevirtual 214, 3) := by decide +kernel
theorem dX9_goes_29 : decode cX9_goes 29 = .ok (.istore 4, 2) := by decide +kernel
theorem dX9_goes_31 : decode cX9_goes 31 = .ok (.iload 4, 2) := by decide +kernel
theorem dX9_goes_33 : decode cX9_goes 33 = .ok (.ifCond .lt 26, 3) := by decide +kernel
theorem dX9_goes_36 : decode cX9_goes 36 = .ok (.aload_n 0, 1) := by decide +kernel
theorem dX9_goes_37 : decode cX9_goes 37 = .ok (.getfield 13, 3) := by decide +kernel
theorem dX9_goes_40 : decode cX9_goes 40 = .ok (.iload_n 3, 1) := by decide +kernel
theorem dX9_goes_41 : decode cX9_goes 41 = .ok (.iaload, 1) := by decide +kernel
theorem dX9_goes_42 : decode cX9_goes 42 = .ok (.ifCond .le 17, 3) := by decide +kernel
theorem dX9_goes_45 : decode cX9_goes 45 = .ok (.iload 4, 2) := by decide +kernel
theorem dX9_goes_47 : decode cX9_goes 47 = .ok (.istore_n 3, 1) := by decide +kernel
theorem dX9_goes_48 : decode cX9_goes 48 = .ok (.aload_n 0, 1) := by decide +kernel
theorem dX9_goes_49 : decode cX9_goes 49 = .ok (.iload_n 3, 1) := by decide +kernel
theorem dX9_goes_50 : decode cX9_goes 50 = .ok (.iload_n 2, 1) := by decide +kernel
theorem dX9_goes_51 : decode cX9_goes 51 = .ok (.invokevirtual 214, 3) := by decide +kernel
theorem dX9_goes_54 : decode cX9_goes 54 = .ok (.istore 4, 2) := by decide +kernel
theorem dX9_goes_56 : decode cX9_goes 56 = .ok (.goto (-25), 3) := by decide +kernel
theorem dX9_goes_59 : decode cX9_goes 59 = .ok (.aload_n 0, 1) := by decide +kernel
theorem dX9_goes_60 : decode cX9_goes 60 = .ok (.getfield 208, 3) := by decide +kernel
theorem dX9_goes_63 : decode cX9_goes 63 = .ok (.lconst 0, 1) := by decide +kernel
theorem dX9_goes_64 : decode cX9_goes 64 = .ok (.lcmp, 1) := by decide +kernel
theorem dX9_goes_65 : decode cX9_goes 65 = .ok (.ifCond .eq 7, 3) := by decide +kernel
theorem dX9_goes_68 : decode cX9_goes 68 = .ok (.iconst 1, 1) := by decide +kernel
theorem dX9_goes_69 : decode cX9_goes 69 = .ok (.goto 4, 3) := by decide +kernel
theorem dX9_goes_72 : decode cX9_goes 72 = .ok (.iconst 0, 1) := by decide +kernel
theorem dX9_goes_73 : decode cX9_goes 73 = .ok (.ireturn, 1) := by decide +kernel
theorem dX9_hold_0 : decode cX9_hold 0 = .ok (.iconst 0, 1) := by decide +kernel
theorem dX9_hold_1 : decode cX9_hold 1 = .ok (.istore_n 2, 1) := by decide +kernel
theorem dX9_hold_2 : decode cX9_hold 2 = .ok (.iload_n 2, 1) := by decide +kernel
theorem dX9_hold_3 : decode cX9_hold 3 = .ok (.bipush 6, 2) := by decide +kernel
theorem dX9_hold_5 : decode cX9_hold 5 = .ok (.if_icmp .ge 26, 3) := by decide +kernel
theorem dX9_hold_8 : decode cX9_hold 8 = .ok (.aload_n 0, 1) := by decide +kernel
theorem dX9_hold_9 : decode cX9_hold 9 = .ok (.getfield 31, 3) := by decide +kernel
theorem dX9_hold_12 : decode cX9_hold 12 = .ok (.bipush 6, 2) := by decide +kernel
theorem dX9_hold_14 : decode cX9_hold 14 = .ok (.iload_n 1, 1) := by decide +kernel
theorem dX9_hold_15 : decode cX9_hold 15 = .ok (.imul, 1) := by decide +kernel
theorem dX9_hold_16 : decode cX9_hold 16 = .ok (.iload_n 2, 1) := by decide +kernel
theorem dX9_hold_17 : decode cX9_hold 17 = .ok (.iadd, 1) := by decide +kernel
theorem dX9_hold_18 : decode cX9_hold 18 = .ok (.aload_n 0, 1) := by decide +kernel
theorem dX9_hold_19 : decode cX9_hold 19 = .ok (.getfield 19, 3) := by decide +kernel
theorem dX9_hold_22 : decode cX9_hold 22 = .ok (.iload_n 2, 1) := by decide +kernel
theorem dX9_hold_23 : decode cX9_hold 23 = .ok (.iaload, 1) := by decide +kernel
theorem dX9_hold_24 : decode cX9_hold 24 = .ok (.iastore, 1) := by decide +kernel
theorem dX9_hold_25 : decode cX9_hold 25 = .ok (.iinc 2 1, 3) := by decide +kernel
theorem dX9_hold_28 : decode cX9_hold 28 = .ok (.goto (-26), 3) := by decide +kernel
theorem dX9_hold_31 : decode cX9_hold 31 = .ok (.aload_n 0, 1) := by decide +kernel
theorem dX9_hold_32 : decode cX9_hold 32 = .ok (.getfield 34, 3) := by decide +kernel
theorem dX9_hold_35 : decode cX9_hold 35 = .ok (.iload_n 1, 1) := by decide +kernel
theorem dX9_hold_36 : decode cX9_hold 36 = .ok (.aload_n 0, 1) := by decide +kernel
theorem dX9_hold_37 : decode cX9_hold 37 = .ok (.getfield 186, 3) := by decide +kernel
theorem dX9_hold_40 : decode cX9_hold 40 = .ok (.lastore, 1) := by decide +kernel
theorem dX9_hold_41 : decode cX9_hold 41 = .ok (.return_, 1) := by decide +kernel
theorem dX9_give_0 : decode cX9_give 0 = .ok (.iconst 0, 1) := by decide +kernel
theorem dX9_give_1 : decode cX9_give 1 = .ok (.istore_n 2, 1) := by decide +kernel
theorem dX9_give_2 : decode cX9_give 2 = .ok (.iload_n 2, 1) := by decide +kernel
theorem dX9_give_3 : decode cX9_give 3 = .ok (.bipush 6, 2) := by decide +kernel
theorem dX9_give_5 : decode cX9_give 5 = .ok (.if_icmp .ge 26, 3) := by decide +kernel
theorem dX9_give_8 : decode cX9_give 8 = .ok (.aload_n 0, 1) := by decide +kernel
theorem dX9_give_9 : decode cX9_give 9 = .ok (.getfield 19, 3) := by decide +kernel
theorem dX9_give_12 : decode cX9_give 12 = .ok (.iload_n 2, 1) := by decide +kernel
theorem dX9_give_13 : decode cX9_give 13 = .ok (.aload_n 0, 1) := by decide +kernel
theorem dX9_give_14 : decode cX9_give 14 = .ok (.getfield 31, 3) := by decide +kernel
theorem dX9_give_17 : decode cX9_give 17 = .ok (.bipush 6, 2) := by decide +kernel
theorem dX9_give_19 : decode cX9_give 19 = .ok (.iload_n 1, 1) := by decide +kernel
theorem dX9_give_20 : decode cX9_give 20 = .ok (.imul, 1) := by decide +kernel
theorem dX9_give_21 : decode cX9_give 21 = .ok (.iload_n 2, 1) := by decide +kernel
theorem dX9_give_22 : decode cX9_give 22 = .ok (.iadd, 1) := by decide +kernel
theorem dX9_give_23 : decode cX9_give 23 = .ok (.iaload, 1) := by decide +kernel
theorem dX9_give_24 : decode cX9_give 24 = .ok (.iastore, 1) := by decide +kernel
theorem dX9_give_25 : decode cX9_give 25 = .ok (.iinc 2 1, 3) := by decide +kernel
theorem dX9_give_28 : decode cX9_give 28 = .ok (.goto (-26), 3) := by decide +kernel
theorem dX9_give_31 : decode cX9_give 31 = .ok (.aload_n 0, 1) := by decide +kernel
theorem dX9_give_32 : decode cX9_give 32 = .ok (.aload_n 0, 1) := by decide +kernel
theorem dX9_give_33 : decode cX9_give 33 = .ok (.getfield 34, 3) := by decide +kernel
theorem dX9_give_36 : decode cX9_give 36 = .ok (.iload_n 1, 1) := by decide +kernel
theorem dX9_give_37 : decode cX9_give 37 = .ok (.laload, 1) := by decide +kernel
theorem dX9_give_38 : decode cX9_give 38 = .ok (.putfield 186, 3) := by decide +kernel
theorem dX9_give_41 : decode cX9_give 41 = .ok (.return_, 1) := by decide +kernel
theorem dX9_pushBarred_0 : decode cX9_pushBarred 0 = .ok (.aload_n 0, 1) := by decide +kernel
theorem dX9_pushBarred_1 : decode cX9_pushBarred 1 = .ok (.iload_n 1, 1) := by decide +kernel
theorem dX9_pushBarred_2 : decode cX9_pushBarred 2 = .ok (.invokevirtual 202, 3) := by decide +kernel
theorem dX9_pushBarred_5 : decode cX9_pushBarred 5 = .ok (.ifCond .eq 5, 3) := by decide +kernel
theorem dX9_pushBarred_8 : decode cX9_pushBarred 8 = .ok (.iconst (-1), 1) := by decide +kernel
theorem dX9_pushBarred_9 : decode cX9_pushBarred 9 = .ok (.ireturn, 1) := by decide +kernel
theorem dX9_pushBarred_10 : decode cX9_pushBarred 10 = .ok (.iload_n 2, 1) := by decide +kernel
theorem dX9_pushBarred_11 : decode cX9_pushBarred 11 = .ok (.i2l, 1) := by decide +kernel
theorem dX9_pushBarred_12 : decode cX9_pushBarred 12 = .ok (.lconst 0, 1) := by decide +kernel
theorem dX9_pushBarred_13 : decode cX9_pushBarred 13 = .ok (.ldc2_w 138, 3) := by decide +kernel
theorem dX9_pushBarred_16 : decode cX9_pushBarred 16 = .ok (.invokestatic 142, 3) := by decide +kernel
theorem dX9_pushBarred_19 : decode cX9_pushBarred 19 = .ok (.ifCond .ne 6, 3) := by decide +kernel
theorem dX9_pushBarred_22 : decode cX9_pushBarred 22 = .ok (.bipush (-2), 2) := by decide +kernel
theorem dX9_pushBarred_24 : decode cX9_pushBarred 24 = .ok (.ireturn, 1) := by decide +kernel
theorem dX9_pushBarred_25 : decode cX9_pushBarred 25 = .ok (.aload_n 0, 1) := by decide +kernel
theorem dX9_pushBarred_26 : decode cX9_pushBarred 26 = .ok (.iconst 0, 1) := by decide +kernel
theorem dX9_pushBarred_27 : decode cX9_pushBarred 27 = .ok (.invokevirtual 217, 3) := by decide +kernel
theorem dX9_pushBarred_30 : decode cX9_pushBarred 30 = .ok (.aload_n 0, 1) := by decide +kernel
theorem dX9_pushBarred_31 : decode cX9_pushBarred 31 = .ok (.iload_n 1, 1) := by decide +kernel
theorem dX9_pushBarred_32 : decode cX9_pushBarred 32 = .ok (.iload_n 2, 1) := by decide +kernel
theorem dX9_pushBarred_33 : decode cX9_pushBarred 33 = .ok (.invokevirtual 221, 3) := by decide +kernel
theorem dX9_pushBarred_36 : decode cX9_pushBarred 36 = .ok (.istore_n 3, 1) := by decide +kernel
theorem dX9_pushBarred_37 : decode cX9_pushBarred 37 = .ok (.iload_n 3, 1) := by decide +kernel
theorem dX9_pushBarred_38 : decode cX9_pushBarred 38 = .ok (.ifCond .eq 7, 3) := by decide +kernel
theorem dX9_pushBarred_41 : decode cX9_pushBarred 41 = .ok (.iconst 0, 1) := by decide +kernel
theorem dX9_pushBarred_42 : decode cX9_pushBarred 42 = .ok (.goto 5, 3) := by decide +kernel
theorem dX9_pushBarred_45 : decode cX9_pushBarred 45 = .ok (.bipush (-3), 2) := by decide +kernel
theorem dX9_pushBarred_47 : decode cX9_pushBarred 47 = .ok (.ireturn, 1) := by decide +kernel
theorem dX9_push_0 : decode cX9_push 0 = .ok (.aload_n 0, 1) := by decide +kernel
theorem dX9_push_1 : decode cX9_push 1 = .ok (.iload_n 1, 1) := by decide +kernel
theorem dX9_push_2 : decode cX9_push 2 = .ok (.iload_n 2, 1) := by decide +kernel
theorem dX9_push_3 : decode cX9_push 3 = .ok (.invokevirtual 224, 3) := by decide +kernel
theorem dX9_push_6 : decode cX9_push 6 = .ok (.istore_n 3, 1) := by decide +kernel
theorem dX9_push_7 : decode cX9_push 7 = .ok (.iload_n 3, 1) := by decide +kernel
theorem dX9_push_8 : decode cX9_push 8 = .ok (.ifCond .ge 5, 3) := by decide +kernel
theorem dX9_push_11 : decode cX9_push 11 = .ok (.iload_n 3, 1) := by decide +kernel
theorem dX9_push_12 : decode cX9_push 12 = .ok (.ireturn, 1) := by decide +kernel
theorem dX9_push_13 : decode cX9_push 13 = .ok (.aload_n 0, 1) := by decide +kernel
theorem dX9_push_14 : decode cX9_push 14 = .ok (.getfield 193, 3) := by decide +kernel
theorem dX9_push_17 : decode cX9_push 17 = .ok (.sipush 200, 3) := by decide +kernel
theorem dX9_push_20 : decode cX9_push 20 = .ok (.if_icmp .ne 11, 3) := by decide +kernel
theorem dX9_push_23 : decode cX9_push 23 = .ok (.aload_n 0, 1) := by decide +kernel
theorem dX9_push_24 : decode cX9_push 24 = .ok (.iconst 0, 1) := by decide +kernel
theorem dX9_push_25 : decode cX9_push 25 = .ok (.invokevirtual 227, 3) := by decide +kernel
theorem dX9_push_28 : decode cX9_push 28 = .ok (.bipush (-4), 2) := by decide +kernel
theorem dX9_push_30 : decode cX9_push 30 = .ok (.ireturn, 1) := by decide +kernel
theorem dX9_push_31 : decode cX9_push 31 = .ok (.iconst 0, 1) := by decide +kernel
theorem dX9_push_32 : decode cX9_push 32 = .ok (.istore 4, 2) := by decide +kernel
theorem dX9_push_34 : decode cX9_push 34 = .ok (.iload 4, 2) := by decide +kernel
theorem dX9_push_36 : decode cX9_push 36 = .ok (.bipush 6, 2) := by decide +kernel
theorem dX9_push_38 : decode cX9_push 38 = .ok (.if_icmp .ge 31, 3) := by decide +kernel
theorem dX9_push_41 : decode cX9_push 41 = .ok (.aload_n 0, 1) := by decide +kernel
theorem dX9_push_42 : decode cX9_push 42 = .ok (.getfield 38, 3) := by decide +kernel
theorem dX9_push_45 : decode cX9_push 45 = .ok (.bipush 6, 2) := by decide +kernel
theorem dX9_push_47 : decode cX9_push 47 = .ok (.aload_n 0, 1) := by decide +kernel
theorem dX9_push_48 : decode cX9_push 48 = .ok (.getfield 193, 3) := by decide +kernel
theorem dX9_push_51 : decode cX9_push 51 = .ok (.imul, 1) := by decide +kernel
theorem dX9_push_52 : decode cX9_push 52 = .ok (.iload 4, 2) := by decide +kernel
theorem dX9_push_54 : decode cX9_push 54 = .ok (.iadd, 1) := by decide +kernel
theorem dX9_push_55 : decode cX9_push 55 = .ok (.aload_n 0, 1) := by decide +kernel
theorem dX9_push_56 : decode cX9_push 56 = .ok (.getfield 31, 3) := by decide +kernel
theorem dX9_push_59 : decode cX9_push 59 = .ok (.iload 4, 2) := by decide +kernel
theorem dX9_push_61 : decode cX9_push 61 = .ok (.iaload, 1) := by decide +kernel
theorem dX9_push_62 : decode cX9_push 62 = .ok (.iastore, 1) := by decide +kernel
theorem dX9_push_63 : decode cX9_push 63 = .ok (.iinc 4 1, 3) := by decide +kernel
theorem dX9_push_66 : decode cX9_push 66 = .ok (.goto (-32), 3) := by decide +kernel
theorem dX9_push_69 : decode cX9_push 69 = .ok (.aload_n 0, 1) := by decide +kernel
theorem dX9_push_70 : decode cX9_push 70 = .ok (.getfield 41, 3) := by decide +kernel
theorem dX9_push_73 : decode cX9_push 73 = .ok (.aload_n 0, 1) := by decide +kernel
theorem dX9_push_74 : decode cX9_push 74 = .ok (.getfield 193, 3) := by decide +kernel
theorem dX9_push_77 : decode cX9_push 77 = .ok (.aload_n 0, 1) := by decide +kernel
theorem dX9_push_78 : decode cX9_push 78 = .ok (.getfield 34, 3) := by decide +kernel
theorem dX9_push_81 : decode cX9_push 81 = .ok (.iconst 0, 1) := by decide +kernel
theorem dX9_push_82 : decode cX9_push 82 = .ok (.laload, 1) := by decide +kernel
theorem dX9_push_83 : decode cX9_push 83 = .ok (.lastore, 1) := by decide +kernel
theorem dX9_push_84 : decode cX9_push 84 = .ok (.aload_n 0, 1) := by decide +kernel
theorem dX9_push_85 : decode cX9_push 85 = .ok (.dup, 1) := by decide +kernel
theorem dX9_push_86 : decode cX9_push 86 = .ok (.getfield 193, 3) := by decide +kernel
theorem dX9_push_89 : decode cX9_push 89 = .ok (.iconst 1, 1) := by decide +kernel
theorem dX9_push_90 : decode cX9_push 90 = .ok (.iadd, 1) := by decide +kernel
theorem dX9_push_91 : decode cX9_push 91 = .ok (.putfield 193, 3) := by decide +kernel
theorem dX9_push_94 : decode cX9_push 94 = .ok (.aload_n 0, 1) := by decide +kernel
theorem dX9_push_95 : decode cX9_push 95 = .ok (.getfield 19, 3) := by decide +kernel
theorem dX9_push_98 : decode cX9_push 98 = .ok (.iload_n 1, 1) := by decide +kernel
theorem dX9_push_99 : decode cX9_push 99 = .ok (.iaload, 1) := by decide +kernel
theorem dX9_push_100 : decode cX9_push 100 = .ok (.ireturn, 1) := by decide +kernel
theorem dX9_would_0 : decode cX9_would 0 = .ok (.aload_n 0, 1) := by decide +kernel
theorem dX9_would_1 : decode cX9_would 1 = .ok (.iload_n 1, 1) := by decide +kernel
theorem dX9_would_2 : decode cX9_would 2 = .ok (.iload_n 2, 1) := by decide +kernel
theorem dX9_would_3 : decode cX9_would 3 = .ok (.invokevirtual 224, 3) := by decide +kernel
theorem dX9_would_6 : decode cX9_would 6 = .ok (.istore_n 3, 1) := by decide +kernel
theorem dX9_would_7 : decode cX9_would 7 = .ok (.iload_n 3, 1) := by decide +kernel
theorem dX9_would_8 : decode cX9_would 8 = .ok (.ifCond .ge 5, 3) := by decide +kernel
theorem dX9_would_11 : decode cX9_would 11 = .ok (.iload_n 3, 1) := by decide +kernel
theorem dX9_would_12 : decode cX9_would 12 = .ok (.ireturn, 1) := by decide +kernel
theorem dX9_would_13 : decode cX9_would 13 = .ok (.aload_n 0, 1) := by decide +kernel
theorem dX9_would_14 : decode cX9_would 14 = .ok (.getfield 19, 3) := by decide +kernel
theorem dX9_would_17 : decode cX9_would 17 = .ok (.iload_n 1, 1) := by decide +kernel
theorem dX9_would_18 : decode cX9_would 18 = .ok (.iaload, 1) := by decide +kernel
theorem dX9_would_19 : decode cX9_would 19 = .ok (.istore 4, 2) := by decide +kernel
theorem dX9_would_21 : decode cX9_would 21 = .ok (.aload_n 0, 1) := by decide +kernel
theorem dX9_would_22 : decode cX9_would 22 = .ok (.iconst 0, 1) := by decide +kernel
theorem dX9_would_23 : decode cX9_would 23 = .ok (.invokevirtual 227, 3) := by decide +kernel
theorem dX9_would_26 : decode cX9_would 26 = .ok (.iload 4, 2) := by decide +kernel
theorem dX9_would_28 : decode cX9_would 28 = .ok (.ireturn, 1) := by decide +kernel
theorem dX9_tracks_0 : decode cX9_tracks 0 = .ok (.aload_n 0, 1) := by decide +kernel
theorem dX9_tracks_1 : decode cX9_tracks 1 = .ok (.iload_n 1, 1) := by decide +kernel
theorem dX9_tracks_2 : decode cX9_tracks 2 = .ok (.iload_n 2, 1) := by decide +kernel
theorem dX9_tracks_3 : decode cX9_tracks 3 = .ok (.invokevirtual 224, 3) := by decide +kernel
theorem dX9_tracks_6 : decode cX9_tracks 6 = .ok (.ifCond .ge 7, 3) := by decide +kernel
theorem dX9_tracks_9 : decode cX9_tracks 9 = .ok (.invokestatic 111, 3) := by decide +kernel
theorem dX9_tracks_12 : decode cX9_tracks 12 = .ok (.lreturn, 1) := by decide +kernel
theorem dX9_tracks_13 : decode cX9_tracks 13 = .ok (.aload_n 0, 1) := by decide +kernel
theorem dX9_tracks_14 : decode cX9_tracks 14 = .ok (.iconst 0, 1) := by decide +kernel
theorem dX9_tracks_15 : decode cX9_tracks 15 = .ok (.invokevirtual 227, 3) := by decide +kernel
theorem dX9_tracks_18 : decode cX9_tracks 18 = .ok (.aload_n 0, 1) := by decide +kernel
theorem dX9_tracks_19 : decode cX9_tracks 19 = .ok (.getfield 208, 3) := by decide +kernel
theorem dX9_tracks_22 : decode cX9_tracks 22 = .ok (.lreturn, 1) := by decide +kernel
theorem dX9_undo_0 : decode cX9_undo 0 = .ok (.iload_n 1, 1) := by decide +kernel
theorem dX9_undo_1 : decode cX9_undo 1 = .ok (.i2l, 1) := by decide +kernel
theorem dX9_undo_2 : decode cX9_undo 2 = .ok (.lconst 0, 1) := by decide +kernel
theorem dX9_undo_3 : decode cX9_undo 3 = .ok (.aload_n 0, 1) := by decide +kernel
theorem dX9_undo_4 : decode cX9_undo 4 = .ok (.getfield 193, 3) := by decide +kernel
theorem dX9_undo_7 : decode cX9_undo 7 = .ok (.i2l, 1) := by decide +kernel
theorem dX9_undo_8 : decode cX9_undo 8 = .ok (.invokestatic 142, 3) := by decide +kernel
theorem dX9_undo_11 : decode cX9_undo 11 = .ok (.ifCond .ne 6, 3) := by decide +kernel
theorem dX9_undo_14 : decode cX9_undo 14 = .ok (.bipush (-2), 2) := by decide +kernel
theorem dX9_undo_16 : decode cX9_undo 16 = .ok (.ireturn, 1) := by decide +kernel
theorem dX9_undo_17 : decode cX9_undo 17 = .ok (.iconst 0, 1) := by decide +kernel
theorem dX9_undo_18 : decode cX9_undo 18 = .ok (.istore_n 2, 1) := by decide +kernel
theorem dX9_undo_19 : decode cX9_undo 19 = .ok (.iload_n 2, 1) := by decide +kernel
theorem dX9_undo_20 : decode cX9_undo 20 = .ok (.iload_n 1, 1) := by decide +kernel
theorem dX9_undo_21 : decode cX9_undo 21 = .ok (.if_icmp .ge 66, 3) := by decide +kernel
theorem dX9_undo_24 : decode cX9_undo 24 = .ok (.aload_n 0, 1) := by decide +kernel
theorem dX9_undo_25 : decode cX9_undo 25 = .ok (.dup, 1) := by decide +kernel
theorem dX9_undo_26 : decode cX9_undo 26 = .ok (.getfield 193, 3) := by decide +kernel
theorem dX9_undo_29 : decode cX9_undo 29 = .ok (.iconst 1, 1) := by decide +kernel
theorem dX9_undo_30 : decode cX9_undo 30 = .ok (.isub, 1) := by decide +kernel
theorem dX9_undo_31 : decode cX9_undo 31 = .ok (.putfield 193, 3) := by decide +kernel
theorem dX9_undo_34 : decode cX9_undo 34 = .ok (.iconst 0, 1) := by decide +kernel
theorem dX9_undo_35 : decode cX9_undo 35 = .ok (.istore_n 3, 1) := by decide +kernel
theorem dX9_undo_36 : decode cX9_undo 36 = .ok (.iload_n 3, 1) := by decide +kernel
theorem dX9_undo_37 : decode cX9_undo 37 = .ok (.bipush 6, 2) := by decide +kernel
theorem dX9_undo_39 : decode cX9_undo 39 = .ok (.if_icmp .ge 29, 3) := by decide +kernel
theorem dX9_undo_42 : decode cX9_undo 42 = .ok (.aload_n 0, 1) := by decide +kernel
theorem dX9_undo_43 : decode cX9_undo 43 = .ok (.getfield 19, 3) := by decide +kernel
theorem dX9_undo_46 : decode cX9_undo 46 = .ok (.iload_n 3, 1) := by decide +kernel
theorem dX9_undo_47 : decode cX9_undo 47 = .ok (.aload_n 0, 1) := by decide +kernel
theorem dX9_undo_48 : decode cX9_undo 48 = .ok (.getfield 38, 3) := by decide +kernel
theorem dX9_undo_51 : decode cX9_undo 51 = .ok (.bipush 6, 2) := by decide +kernel
theorem dX9_undo_53 : decode cX9_undo 53 = .ok (.aload_n 0, 1) := by decide +kernel
theorem dX9_undo_54 : decode cX9_undo 54 = .ok (.getfield 193, 3) := by decide +kernel
theorem dX9_undo_57 : decode cX9_undo 57 = .ok (.imul, 1) := by decide +kernel
theorem dX9_undo_58 : decode cX9_undo 58 = .ok (.iload_n 3, 1) := by decide +kernel
theorem dX9_undo_59 : decode cX9_undo 59 = .ok (.iadd, 1) := by decide +kernel
theorem dX9_undo_60 : decode cX9_undo 60 = .ok (.iaload, 1) := by decide +kernel
theorem dX9_undo_61 : decode cX9_undo 61 = .ok (.iastore, 1) := by decide +kernel
theorem dX9_undo_62 : decode cX9_undo 62 = .ok (.iinc 3 1, 3) := by decide +kernel
theorem dX9_undo_65 : decode cX9_undo 65 = .ok (.goto (-29), 3) := by decide +kernel
theorem dX9_undo_68 : decode cX9_undo 68 = .ok (.aload_n 0, 1) := by decide +kernel
theorem dX9_undo_69 : decode cX9_undo 69 = .ok (.aload_n 0, 1) := by decide +kernel
theorem dX9_undo_70 : decode cX9_undo 70 = .ok (.getfield 41, 3) := by decide +kernel
theorem dX9_undo_73 : decode cX9_undo 73 = .ok (.aload_n 0, 1) := by decide +kernel
theorem dX9_undo_74 : decode cX9_undo 74 = .ok (.getfield 193, 3) := by decide +kernel
theorem dX9_undo_77 : decode cX9_undo 77 = .ok (.laload, 1) := by decide +kernel
theorem dX9_undo_78 : decode cX9_undo 78 = .ok (.putfield 186, 3) := by decide +kernel
theorem dX9_undo_81 : decode cX9_undo 81 = .ok (.iinc 2 1, 3) := by decide +kernel
theorem dX9_undo_84 : decode cX9_undo 84 = .ok (.goto (-65), 3) := by decide +kernel
theorem dX9_undo_87 : decode cX9_undo 87 = .ok (.aload_n 0, 1) := by decide +kernel
theorem dX9_undo_88 : decode cX9_undo 88 = .ok (.getfield 193, 3) := by decide +kernel
theorem dX9_undo_91 : decode cX9_undo 91 = .ok (.ireturn, 1) := by decide +kernel
theorem dX9_keep_0 : decode cX9_keep 0 = .ok (.iload_n 1, 1) := by decide +kernel
theorem dX9_keep_1 : decode cX9_keep 1 = .ok (.i2l, 1) := by decide +kernel
theorem dX9_keep_2 : decode cX9_keep 2 = .ok (.lconst 0, 1) := by decide +kernel
theorem dX9_keep_3 : decode cX9_keep 3 = .ok (.ldc2_w 166, 3) := by decide +kernel
theorem dX9_keep_6 : decode cX9_keep 6 = .ok (.invokestatic 142, 3) := by decide +kernel
theorem dX9_keep_9 : decode cX9_keep 9 = .ok (.ifCond .ne 5, 3) := by decide +kernel
theorem dX9_keep_12 : decode cX9_keep 12 = .ok (.iconst (-1), 1) := by decide +kernel
theorem dX9_keep_13 : decode cX9_keep 13 = .ok (.ireturn, 1) := by decide +kernel
theorem dX9_keep_14 : decode cX9_keep 14 = .ok (.aload_n 0, 1) := by decide +kernel
theorem dX9_keep_15 : decode cX9_keep 15 = .ok (.getfield 115, 3) := by decide +kernel
theorem dX9_keep_18 : decode cX9_keep 18 = .ok (.ifCond .ne 6, 3) := by decide +kernel
theorem dX9_keep_21 : decode cX9_keep 21 = .ok (.bipush (-3), 2) := by decide +kernel
theorem dX9_keep_23 : decode cX9_keep 23 = .ok (.ireturn, 1) := by decide +kernel
theorem dX9_keep_24 : decode cX9_keep 24 = .ok (.aload_n 0, 1) := by decide +kernel
theorem dX9_keep_25 : decode cX9_keep 25 = .ok (.getfield 44, 3) := by decide +kernel
theorem dX9_keep_28 : decode cX9_keep 28 = .ok (.iload_n 1, 1) := by decide +kernel
theorem dX9_keep_29 : decode cX9_keep 29 = .ok (.iconst 1, 1) := by decide +kernel
theorem dX9_keep_30 : decode cX9_keep 30 = .ok (.bastore, 1) := by decide +kernel
theorem dX9_keep_31 : decode cX9_keep 31 = .ok (.iconst 0, 1) := by decide +kernel
theorem dX9_keep_32 : decode cX9_keep 32 = .ok (.istore_n 2, 1) := by decide +kernel
theorem dX9_keep_33 : decode cX9_keep 33 = .ok (.iload_n 2, 1) := by decide +kernel
theorem dX9_keep_34 : decode cX9_keep 34 = .ok (.bipush 6, 2) := by decide +kernel
theorem dX9_keep_36 : decode cX9_keep 36 = .ok (.if_icmp .ge 26, 3) := by decide +kernel
theorem dX9_keep_39 : decode cX9_keep 39 = .ok (.aload_n 0, 1) := by decide +kernel
theorem dX9_keep_40 : decode cX9_keep 40 = .ok (.getfield 48, 3) := by decide +kernel
theorem dX9_keep_43 : decode cX9_keep 43 = .ok (.bipush 6, 2) := by decide +kernel
theorem dX9_keep_45 : decode cX9_keep 45 = .ok (.iload_n 1, 1) := by decide +kernel
theorem dX9_keep_46 : decode cX9_keep 46 = .ok (.imul, 1) := by decide +kernel
theorem dX9_keep_47 : decode cX9_keep 47 = .ok (.iload_n 2, 1) := by decide +kernel
theorem dX9_keep_48 : decode cX9_keep 48 = .ok (.iadd, 1) := by decide +kernel
theorem dX9_keep_49 : decode cX9_keep 49 = .ok (.aload_n 0, 1) := by decide +kernel
theorem dX9_keep_50 : decode cX9_keep 50 = .ok (.getfield 19, 3) := by decide +kernel
theorem dX9_keep_53 : decode cX9_keep 53 = .ok (.iload_n 2, 1) := by decide +kernel
theorem dX9_keep_54 : decode cX9_keep 54 = .ok (.iaload, 1) := by decide +kernel
theorem dX9_keep_55 : decode cX9_keep 55 = .ok (.iastore, 1) := by decide +kernel
theorem dX9_keep_56 : decode cX9_keep 56 = .ok (.iinc 2 1, 3) := by decide +kernel
theorem dX9_keep_59 : decode cX9_keep 59 = .ok (.goto (-26), 3) := by decide +kernel
theorem dX9_keep_62 : decode cX9_keep 62 = .ok (.aload_n 0, 1) := by decide +kernel
theorem dX9_keep_63 : decode cX9_keep 63 = .ok (.getfield 51, 3) := by decide +kernel
theorem dX9_keep_66 : decode cX9_keep 66 = .ok (.iload_n 1, 1) := by decide +kernel
theorem dX9_keep_67 : decode cX9_keep 67 = .ok (.aload_n 0, 1) := by decide +kernel
theorem dX9_keep_68 : decode cX9_keep 68 = .ok (.getfield 186, 3) := by decide +kernel
theorem dX9_keep_71 : decode cX9_keep 71 = .ok (.lastore, 1) := by decide +kernel
theorem dX9_keep_72 : decode cX9_keep 72 = .ok (.iconst 1, 1) := by decide +kernel
theorem dX9_keep_73 : decode cX9_keep 73 = .ok (.ireturn, 1) := by decide +kernel
theorem dX9_back_0 : decode cX9_back 0 = .ok (.iload_n 1, 1) := by decide +kernel
theorem dX9_back_1 : decode cX9_back 1 = .ok (.i2l, 1) := by decide +kernel
theorem dX9_back_2 : decode cX9_back 2 = .ok (.lconst 0, 1) := by decide +kernel
theorem dX9_back_3 : decode cX9_back 3 = .ok (.ldc2_w 166, 3) := by decide +kernel
theorem dX9_back_6 : decode cX9_back 6 = .ok (.invokestatic 142, 3) := by decide +kernel
theorem dX9_back_9 : decode cX9_back 9 = .ok (.ifCond .ne 5, 3) := by decide +kernel
theorem dX9_back_12 : decode cX9_back 12 = .ok (.iconst (-1), 1) := by decide +kernel
theorem dX9_back_13 : decode cX9_back 13 = .ok (.ireturn, 1) := by decide +kernel
theorem dX9_back_14 : decode cX9_back 14 = .ok (.aload_n 0, 1) := by decide +kernel
theorem dX9_back_15 : decode cX9_back 15 = .ok (.getfield 44, 3) := by decide +kernel
theorem dX9_back_18 : decode cX9_back 18 = .ok (.iload_n 1, 1) := by decide +kernel
theorem dX9_back_19 : decode cX9_back 19 = .ok (.baload, 1) := by decide +kernel
theorem dX9_back_20 : decode cX9_back 20 = .ok (.ifCond .ne 6, 3) := by decide +kernel
theorem dX9_back_23 : decode cX9_back 23 = .ok (.bipush (-3), 2) := by decide +kernel
theorem dX9_back_25 : decode cX9_back 25 = .ok (.ireturn, 1) := by decide +kernel
theorem dX9_back_26 : decode cX9_back 26 = .ok (.iconst 0, 1) := by decide +kernel
theorem dX9_back_27 : decode cX9_back 27 = .ok (.istore_n 2, 1) := by decide +kernel
theorem dX9_back_28 : decode cX9_back 28 = .ok (.iload_n 2, 1) := by decide +kernel
theorem dX9_back_29 : decode cX9_back 29 = .ok (.bipush 6, 2) := by decide +kernel
theorem dX9_back_31 : decode cX9_back 31 = .ok (.if_icmp .ge 26, 3) := by decide +kernel
theorem dX9_back_34 : decode cX9_back 34 = .ok (.aload_n 0, 1) := by decide +kernel
theorem dX9_back_35 : decode cX9_back 35 = .ok (.getfield 19, 3) := by decide +kernel
theorem dX9_back_38 : decode cX9_back 38 = .ok (.iload_n 2, 1) := by decide +kernel
theorem dX9_back_39 : decode cX9_back 39 = .ok (.aload_n 0, 1) := by decide +kernel
theorem dX9_back_40 : decode cX9_back 40 = .ok (.getfield 48, 3) := by decide +kernel
theorem dX9_back_43 : decode cX9_back 43 = .ok (.bipush 6, 2) := by decide +kernel
theorem dX9_back_45 : decode cX9_back 45 = .ok (.iload_n 1, 1) := by decide +kernel
theorem dX9_back_46 : decode cX9_back 46 = .ok (.imul, 1) := by decide +kernel
theorem dX9_back_47 : decode cX9_back 47 = .ok (.iload_n 2, 1) := by decide +kernel
theorem dX9_back_48 : decode cX9_back 48 = .ok (.iadd, 1) := by decide +kernel
theorem dX9_back_49 : decode cX9_back 49 = .ok (.iaload, 1) := by decide +kernel
theorem dX9_back_50 : decode cX9_back 50 = .ok (.iastore, 1) := by decide +kernel
theorem dX9_back_51 : decode cX9_back 51 = .ok (.iinc 2 1, 3) := by decide +kernel
theorem dX9_back_54 : decode cX9_back 54 = .ok (.goto (-26), 3) := by decide +kernel
theorem dX9_back_57 : decode cX9_back 57 = .ok (.aload_n 0, 1) := by decide +kernel
theorem dX9_back_58 : decode cX9_back 58 = .ok (.aload_n 0, 1) := by decide +kernel
theorem dX9_back_59 : decode cX9_back 59 = .ok (.getfield 51, 3) := by decide +kernel
theorem dX9_back_62 : decode cX9_back 62 = .ok (.iload_n 1, 1) := by decide +kernel
theorem dX9_back_63 : decode cX9_back 63 = .ok (.laload, 1) := by decide +kernel
theorem dX9_back_64 : decode cX9_back 64 = .ok (.putfield 186, 3) := by decide +kernel
theorem dX9_back_67 : decode cX9_back 67 = .ok (.aload_n 0, 1) := by decide +kernel
theorem dX9_back_68 : decode cX9_back 68 = .ok (.iconst 0, 1) := by decide +kernel
theorem dX9_back_69 : decode cX9_back 69 = .ok (.putfield 193, 3) := by decide +kernel
theorem dX9_back_72 : decode cX9_back 72 = .ok (.iconst 1, 1) := by decide +kernel
theorem dX9_back_73 : decode cX9_back 73 = .ok (.ireturn, 1) := by decide +kernel
theorem dX9_codeOf_0 : decode cX9_codeOf 0 = .ok (.iload_n 1, 1) := by decide +kernel
theorem dX9_codeOf_1 : decode cX9_codeOf 1 = .ok (.ifCond .lt 7, 3) := by decide +kernel
theorem dX9_codeOf_4 : decode cX9_codeOf 4 = .ok (.iload_n 1, 1) := by decide +kernel
theorem dX9_codeOf_5 : decode cX9_codeOf 5 = .ok (.goto 27, 3) := by decide +kernel
theorem dX9_codeOf_8 : decode cX9_codeOf 8 = .ok (.iload_n 1, 1) := by decide +kernel
theorem dX9_codeOf_9 : decode cX9_codeOf 9 = .ok (.bipush (-6), 2) := by decide +kernel
theorem dX9_codeOf_11 : decode cX9_codeOf 11 = .ok (.if_icmp .ne 8, 3) := by decide +kernel
theorem dX9_codeOf_14 : decode cX9_codeOf 14 = .ok (.bipush 36, 2) := by decide +kernel
theorem dX9_codeOf_16 : decode cX9_codeOf 16 = .ok (.goto 16, 3) := by decide +kernel
theorem dX9_codeOf_19 : decode cX9_codeOf 19 = .ok (.iload_n 1, 1) := by decide +kernel
theorem dX9_codeOf_20 : decode cX9_codeOf 20 = .ok (.bipush (-20), 2) := by decide +kernel
theorem dX9_codeOf_22 : decode cX9_codeOf 22 = .ok (.if_icmp .ne 8, 3) := by decide +kernel
theorem dX9_codeOf_25 : decode cX9_codeOf 25 = .ok (.bipush 37, 2) := by decide +kernel
theorem dX9_codeOf_27 : decode cX9_codeOf 27 = .ok (.goto 5, 3) := by decide +kernel
theorem dX9_codeOf_30 : decode cX9_codeOf 30 = .ok (.bipush 38, 2) := by decide +kernel
theorem dX9_codeOf_32 : decode cX9_codeOf 32 = .ok (.ireturn, 1) := by decide +kernel
theorem dX9_yardNow_0 : decode cX9_yardNow 0 = .ok (.lconst 0, 1) := by decide +kernel
theorem dX9_yardNow_1 : decode cX9_yardNow 1 = .ok (.lstore_n 1, 1) := by decide +kernel
theorem dX9_yardNow_2 : decode cX9_yardNow 2 = .ok (.iconst 0, 1) := by decide +kernel
theorem dX9_yardNow_3 : decode cX9_yardNow 3 = .ok (.istore_n 3, 1) := by decide +kernel
theorem dX9_yardNow_4 : decode cX9_yardNow 4 = .ok (.iload_n 3, 1) := by decide +kernel
theorem dX9_yardNow_5 : decode cX9_yardNow 5 = .ok (.bipush 6, 2) := by decide +kernel
theorem dX9_yardNow_7 : decode cX9_yardNow 7 = .ok (.if_icmp .ge 27, 3) := by decide +kernel
theorem dX9_yardNow_10 : decode cX9_yardNow 10 = .ok (.lload_n 1, 1) := by decide +kernel
theorem dX9_yardNow_11 : decode cX9_yardNow 11 = .ok (.ldc2_w 230, 3) := by decide +kernel
theorem dX9_yardNow_14 : decode cX9_yardNow 14 = .ok (.lmul, 1) := by decide +kernel
theorem dX9_yardNow_15 : decode cX9_yardNow 15 = .ok (.aload_n 0, 1) := by decide +kernel
theorem dX9_yardNow_16 : decode cX9_yardNow 16 = .ok (.aload_n 0, 1) := by decide +kernel
theorem dX9_yardNow_17 : decode cX9_yardNow 17 = .ok (.getfield 19, 3) := by decide +kernel
theorem dX9_yardNow_20 : decode cX9_yardNow 20 = .ok (.iload_n 3, 1) := by decide +kernel
theorem dX9_yardNow_21 : decode cX9_yardNow 21 = .ok (.iaload, 1) := by decide +kernel
theorem dX9_yardNow_22 : decode cX9_yardNow 22 = .ok (.invokevirtual 232, 3) := by decide +kernel
theorem dX9_yardNow_25 : decode cX9_yardNow 25 = .ok (.i2l, 1) := by decide +kernel
theorem dX9_yardNow_26 : decode cX9_yardNow 26 = .ok (.ladd, 1) := by decide +kernel
theorem dX9_yardNow_27 : decode cX9_yardNow 27 = .ok (.lstore_n 1, 1) := by decide +kernel
theorem dX9_yardNow_28 : decode cX9_yardNow 28 = .ok (.iinc 3 1, 3) := by decide +kernel
theorem dX9_yardNow_31 : decode cX9_yardNow 31 = .ok (.goto (-27), 3) := by decide +kernel
theorem dX9_yardNow_34 : decode cX9_yardNow 34 = .ok (.iconst 0, 1) := by decide +kernel
theorem dX9_yardNow_35 : decode cX9_yardNow 35 = .ok (.istore_n 3, 1) := by decide +kernel
theorem dX9_yardNow_36 : decode cX9_yardNow 36 = .ok (.lconst 0, 1) := by decide +kernel
theorem dX9_yardNow_37 : decode cX9_yardNow 37 = .ok (.lstore 4, 2) := by decide +kernel
theorem dX9_yardNow_39 : decode cX9_yardNow 39 = .ok (.iconst 0, 1) := by decide +kernel
theorem dX9_yardNow_40 : decode cX9_yardNow 40 = .ok (.istore 6, 2) := by decide +kernel
theorem dX9_yardNow_42 : decode cX9_yardNow 42 = .ok (.iload 6, 2) := by decide +kernel
theorem dX9_yardNow_44 : decode cX9_yardNow 44 = .ok (.aload_n 0, 1) := by decide +kernel
theorem dX9_yardNow_45 : decode cX9_yardNow 45 = .ok (.invokevirtual 182, 3) := by decide +kernel
theorem dX9_yardNow_48 : decode cX9_yardNow 48 = .ok (.if_icmp .ge 39, 3) := by decide +kernel
theorem dX9_yardNow_51 : decode cX9_yardNow 51 = .ok (.aload_n 0, 1) := by decide +kernel
theorem dX9_yardNow_52 : decode cX9_yardNow 52 = .ok (.getfield 7, 3) := by decide +kernel
theorem dX9_yardNow_55 : decode cX9_yardNow 55 = .ok (.iload 6, 2) := by decide +kernel
theorem dX9_yardNow_57 : decode cX9_yardNow 57 = .ok (.iaload, 1) := by decide +kernel
theorem dX9_yardNow_58 : decode cX9_yardNow 58 = .ok (.iconst 3, 1) := by decide +kernel
theorem dX9_yardNow_59 : decode cX9_yardNow 59 = .ok (.if_icmp .ne 22, 3) := by decide +kernel
theorem dX9_yardNow_62 : decode cX9_yardNow 62 = .ok (.lload 4, 2) := by decide +kernel
theorem dX9_yardNow_64 : decode cX9_yardNow 64 = .ok (.aload_n 0, 1) := by decide +kernel
theorem dX9_yardNow_65 : decode cX9_yardNow 65 = .ok (.getfield 186, 3) := by decide +kernel
theorem dX9_yardNow_68 : decode cX9_yardNow 68 = .ok (.iload 6, 2) := by decide +kernel
theorem dX9_yardNow_70 : decode cX9_yardNow 70 = .ok (.lshr, 1) := by decide +kernel
theorem dX9_yardNow_71 : decode cX9_yardNow 71 = .ok (.lconst 1, 1) := by decide +kernel
theorem dX9_yardNow_72 : decode cX9_yardNow 72 = .ok (.land, 1) := by decide +kernel
theorem dX9_yardNow_73 : decode cX9_yardNow 73 = .ok (.iload_n 3, 1) := by decide +kernel
theorem dX9_yardNow_74 : decode cX9_yardNow 74 = .ok (.lshl, 1) := by decide +kernel
theorem dX9_yardNow_75 : decode cX9_yardNow 75 = .ok (.lor, 1) := by decide +kernel
theorem dX9_yardNow_76 : decode cX9_yardNow 76 = .ok (.lstore 4, 2) := by decide +kernel
theorem dX9_yardNow_78 : decode cX9_yardNow 78 = .ok (.iinc 3 1, 3) := by decide +kernel
theorem dX9_yardNow_81 : decode cX9_yardNow 81 = .ok (.iinc 6 1, 3) := by decide +kernel
theorem dX9_yardNow_84 : decode cX9_yardNow 84 = .ok (.goto (-42), 3) := by decide +kernel
theorem dX9_yardNow_87 : decode cX9_yardNow 87 = .ok (.lload_n 1, 1) := by decide +kernel
theorem dX9_yardNow_88 : decode cX9_yardNow 88 = .ok (.ldc2_w 235, 3) := by decide +kernel
theorem dX9_yardNow_91 : decode cX9_yardNow 91 = .ok (.lmul, 1) := by decide +kernel
theorem dX9_yardNow_92 : decode cX9_yardNow 92 = .ok (.lload 4, 2) := by decide +kernel
theorem dX9_yardNow_94 : decode cX9_yardNow 94 = .ok (.ladd, 1) := by decide +kernel
theorem dX9_yardNow_95 : decode cX9_yardNow 95 = .ok (.lreturn, 1) := by decide +kernel
theorem dX9_layYard_0 : decode cX9_layYard 0 = .ok (.lload_n 1, 1) := by decide +kernel
theorem dX9_layYard_1 : decode cX9_layYard 1 = .ok (.ldc2_w 235, 3) := by decide +kernel
theorem dX9_layYard_4 : decode cX9_layYard 4 = .ok (.lrem, 1) := by decide +kernel
theorem dX9_layYard_5 : decode cX9_layYard 5 = .ok (.lstore_n 3, 1) := by decide +kernel
theorem dX9_layYard_6 : decode cX9_layYard 6 = .ok (.lload_n 1, 1) := by decide +kernel
theorem dX9_layYard_7 : decode cX9_layYard 7 = .ok (.ldc2_w 235, 3) := by decide +kernel
theorem dX9_layYard_10 : decode cX9_layYard 10 = .ok (.ldiv, 1) := by decide +kernel
theorem dX9_layYard_11 : decode cX9_layYard 11 = .ok (.lstore 5, 2) := by decide +kernel
theorem dX9_layYard_13 : decode cX9_layYard 13 = .ok (.iconst 5, 1) := by decide +kernel
theorem dX9_layYard_14 : decode cX9_layYard 14 = .ok (.istore 7, 2) := by decide +kernel
theorem dX9_layYard_16 : decode cX9_layYard 16 = .ok (.iload 7, 2) := by decide +kernel
theorem dX9_layYard_18 : decode cX9_layYard 18 = .ok (.ifCond .lt 71, 3) := by decide +kernel
theorem dX9_layYard_21 : decode cX9_layYard 21 = .ok (.lload 5, 2) := by decide +kernel
theorem dX9_layYard_23 : decode cX9_layYard 23 = .ok (.ldc2_w 230, 3) := by decide +kernel
theorem dX9_layYard_26 : decode cX9_layYard 26 = .ok (.lrem, 1) := by decide +kernel
theorem dX9_layYard_27 : decode cX9_layYard 27 = .ok (.l2i, 1) := by decide +kernel
theorem dX9_layYard_28 : decode cX9_layYard 28 = .ok (.istore 8, 2) := by decide +kernel
theorem dX9_layYard_30 : decode cX9_layYard 30 = .ok (.lload 5, 2) := by decide +kernel
theorem dX9_layYard_32 : decode cX9_layYard 32 = .ok (.ldc2_w 230, 3) := by decide +kernel
theorem dX9_layYard_35 : decode cX9_layYard 35 = .ok (.ldiv, 1) := by decide +kernel
theorem dX9_layYard_36 : decode cX9_layYard 36 = .ok (.lstore 5, 2) := by decide +kernel
theorem dX9_layYard_38 : decode cX9_layYard 38 = .ok (.aload_n 0, 1) := by decide +kernel
theorem dX9_layYard_39 : decode cX9_layYard 39 = .ok (.getfield 19, 3) := by decide +kernel
theorem dX9_layYard_42 : decode cX9_layYard 42 = .ok (.iload 7, 2) := by decide +kernel
theorem dX9_layYard_44 : decode cX9_layYard 44 = .ok (.iload 8, 2) := by decide +kernel
theorem dX9_layYard_46 : decode cX9_layYard 46 = .ok (.bipush 36, 2) := by decide +kernel
theorem dX9_layYard_48 : decode cX9_layYard 48 = .ok (.if_icmp .ge 8, 3) := by decide +kernel
theorem dX9_layYard_51 : decode cX9_layYard 51 = .ok (.iload 8, 2) := by decide +kernel
theorem dX9_layYard_53 : decode cX9_layYard 53 = .ok (.goto 29, 3) := by decide +kernel
theorem dX9_layYard_56 : decode cX9_layYard 56 = .ok (.iload 8, 2) := by decide +kernel
theorem dX9_layYard_58 : decode cX9_layYard 58 = .ok (.bipush 36, 2) := by decide +kernel
theorem dX9_layYard_60 : decode cX9_layYard 60 = .ok (.if_icmp .ne 8, 3) := by decide +kernel
theorem dX9_layYard_63 : decode cX9_layYard 63 = .ok (.bipush (-6), 2) := by decide +kernel
theorem dX9_layYard_65 : decode cX9_layYard 65 = .ok (.goto 17, 3) := by decide +kernel
theorem dX9_layYard_68 : decode cX9_layYard 68 = .ok (.iload 8, 2) := by decide +kernel
theorem dX9_layYard_70 : decode cX9_layYard 70 = .ok (.bipush 37, 2) := by decide +kernel
theorem dX9_layYard_72 : decode cX9_layYard 72 = .ok (.if_icmp .ne 8, 3) := by decide +kernel
theorem dX9_layYard_75 : decode cX9_layYard 75 = .ok (.bipush (-20), 2) := by decide +kernel
theorem dX9_layYard_77 : decode cX9_layYard 77 = .ok (.goto 5, 3) := by decide +kernel
theorem dX9_layYard_80 : decode cX9_layYard 80 = .ok (.bipush (-21), 2) := by decide +kernel
theorem dX9_layYard_82 : decode cX9_layYard 82 = .ok (.iastore, 1) := by decide +kernel
theorem dX9_layYard_83 : decode cX9_layYard 83 = .ok (.iinc 7 (-1), 3) := by decide +kernel
theorem dX9_layYard_86 : decode cX9_layYard 86 = .ok (.goto (-70), 3) := by decide +kernel
theorem dX9_layYard_89 : decode cX9_layYard 89 = .ok (.iconst 0, 1) := by decide +kernel
theorem dX9_layYard_90 : decode cX9_layYard 90 = .ok (.istore 7, 2) := by decide +kernel
theorem dX9_layYard_92 : decode cX9_layYard 92 = .ok (.aload_n 0, 1) := by decide +kernel
theorem dX9_layYard_93 : decode cX9_layYard 93 = .ok (.lconst 0, 1) := by decide +kernel
theorem dX9_layYard_94 : decode cX9_layYard 94 = .ok (.putfield 186, 3) := by decide +kernel
theorem dX9_layYard_97 : decode cX9_layYard 97 = .ok (.iconst 0, 1) := by decide +kernel
theorem dX9_layYard_98 : decode cX9_layYard 98 = .ok (.istore 8, 2) := by decide +kernel
theorem dX9_layYard_100 : decode cX9_layYard 100 = .ok (.iload 8, 2) := by decide +kernel
theorem dX9_layYard_102 : decode cX9_layYard 102 = .ok (.aload_n 0, 1) := by decide +kernel
theorem dX9_layYard_103 : decode cX9_layYard 103 = .ok (.invokevirtual 182, 3) := by decide +kernel
theorem dX9_layYard_106 : decode cX9_layYard 106 = .ok (.if_icmp .ge 41, 3) := by decide +kernel
theorem dX9_layYard_109 : decode cX9_layYard 109 = .ok (.aload_n 0, 1) := by decide +kernel
theorem dX9_layYard_110 : decode cX9_layYard 110 = .ok (.getfield 7, 3) := by decide +kernel
theorem dX9_layYard_113 : decode cX9_layYard 113 = .ok (.iload 8, 2) := by decide +kernel
theorem dX9_layYard_115 : decode cX9_layYard 115 = .ok (.iaload, 1) := by decide +kernel
theorem dX9_layYard_116 : decode cX9_layYard 116 = .ok (.iconst 3, 1) := by decide +kernel
theorem dX9_layYard_117 : decode cX9_layYard 117 = .ok (.if_icmp .ne 24, 3) := by decide +kernel
theorem dX9_layYard_120 : decode cX9_layYard 120 = .ok (.aload_n 0, 1) := by decide +kernel
theorem dX9_layYard_121 : decode cX9_layYard 121 = .ok (.dup, 1) := by decide +kernel
theorem dX9_layYard_122 : decode cX9_layYard 122 = .ok (.getfield 186, 3) := by decide +kernel
theorem dX9_layYard_125 : decode cX9_layYard 125 = .ok (.lload_n 3, 1) := by decide +kernel
theorem dX9_layYard_126 : decode cX9_layYard 126 = .ok (.iload 7, 2) := by decide +kernel
theorem dX9_layYard_128 : decode cX9_layYard 128 = .ok (.lshr, 1) := by decide +kernel
theorem dX9_layYard_129 : decode cX9_layYard 129 = .ok (.lconst 1, 1) := by decide +kernel
theorem dX9_layYard_130 : decode cX9_layYard 130 = .ok (.land, 1) := by decide +kernel
theorem dX9_layYard_131 : decode cX9_layYard 131 = .ok (.iload 8, 2) := by decide +kernel
theorem dX9_layYard_133 : decode cX9_layYard 133 = .ok (.lshl, 1) := by decide +kernel
theorem dX9_layYard_134 : decode cX9_layYard 134 = .ok (.lor, 1) := by decide +kernel
theorem dX9_layYard_135 : decode cX9_layYard 135 = .ok (.putfield 186, 3) := by decide +kernel
theorem dX9_layYard_138 : decode cX9_layYard 138 = .ok (.iinc 7 1, 3) := by decide +kernel
theorem dX9_layYard_141 : decode cX9_layYard 141 = .ok (.iinc 8 1, 3) := by decide +kernel
theorem dX9_layYard_144 : decode cX9_layYard 144 = .ok (.goto (-44), 3) := by decide +kernel
theorem dX9_layYard_147 : decode cX9_layYard 147 = .ok (.return_, 1) := by decide +kernel
theorem dX9_placeFor_0 : decode cX9_placeFor 0 = .ok (.lload_n 1, 1) := by decide +kernel
theorem dX9_placeFor_1 : decode cX9_placeFor 1 = .ok (.ldc2_w 237, 3) := by decide +kernel
theorem dX9_placeFor_4 : decode cX9_placeFor 4 = .ok (.lrem, 1) := by decide +kernel
theorem dX9_placeFor_5 : decode cX9_placeFor 5 = .ok (.l2i, 1) := by decide +kernel
theorem dX9_placeFor_6 : decode cX9_placeFor 6 = .ok (.istore_n 3, 1) := by decide +kernel
theorem dX9_placeFor_7 : decode cX9_placeFor 7 = .ok (.aload_n 0, 1) := by decide +kernel
theorem dX9_placeFor_8 : decode cX9_placeFor 8 = .ok (.getfield 63, 3) := by decide +kernel
theorem dX9_placeFor_11 : decode cX9_placeFor 11 = .ok (.iload_n 3, 1) := by decide +kernel
theorem dX9_placeFor_12 : decode cX9_placeFor 12 = .ok (.iaload, 1) := by decide +kernel
theorem dX9_placeFor_13 : decode cX9_placeFor 13 = .ok (.ifCond .eq 32, 3) := by decide +kernel
theorem dX9_placeFor_16 : decode cX9_placeFor 16 = .ok (.aload_n 0, 1) := by decide +kernel
theorem dX9_placeFor_17 : decode cX9_placeFor 17 = .ok (.getfield 54, 3) := by decide +kernel
theorem dX9_placeFor_20 : decode cX9_placeFor 20 = .ok (.aload_n 0, 1) := by decide +kernel
theorem dX9_placeFor_21 : decode cX9_placeFor 21 = .ok (.getfield 63, 3) := by decide +kernel
theorem dX9_placeFor_24 : decode cX9_placeFor 24 = .ok (.iload_n 3, 1) := by decide +kernel
theorem dX9_placeFor_25 : decode cX9_placeFor 25 = .ok (.iaload, 1) := by decide +kernel
theorem dX9_placeFor_26 : decode cX9_placeFor 26 = .ok (.iconst 1, 1) := by decide +kernel
theorem dX9_placeFor_27 : decode cX9_placeFor 27 = .ok (.isub, 1) := by decide +kernel
theorem dX9_placeFor_28 : decode cX9_placeFor 28 = .ok (.laload, 1) := by decide +kernel
theorem dX9_placeFor_29 : decode cX9_placeFor 29 = .ok (.lload_n 1, 1) := by decide +kernel
theorem dX9_placeFor_30 : decode cX9_placeFor 30 = .ok (.lcmp, 1) := by decide +kernel
theorem dX9_placeFor_31 : decode cX9_placeFor 31 = .ok (.ifCond .eq 14, 3) := by decide +kernel
theorem dX9_placeFor_34 : decode cX9_placeFor 34 = .ok (.iload_n 3, 1) := by decide +kernel
theorem dX9_placeFor_35 : decode cX9_placeFor 35 = .ok (.iconst 1, 1) := by decide +kernel
theorem dX9_placeFor_36 : decode cX9_placeFor 36 = .ok (.iadd, 1) := by decide +kernel
theorem dX9_placeFor_37 : decode cX9_placeFor 37 = .ok (.sipush 4096, 3) := by decide +kernel
theorem dX9_placeFor_40 : decode cX9_placeFor 40 = .ok (.irem, 1) := by decide +kernel
theorem dX9_placeFor_41 : decode cX9_placeFor 41 = .ok (.istore_n 3, 1) := by decide +kernel
theorem dX9_placeFor_42 : decode cX9_placeFor 42 = .ok (.goto (-35), 3) := by decide +kernel
theorem dX9_placeFor_45 : decode cX9_placeFor 45 = .ok (.iload_n 3, 1) := by decide +kernel
theorem dX9_placeFor_46 : decode cX9_placeFor 46 = .ok (.ireturn, 1) := by decide +kernel
theorem dX9_addYard_0 : decode cX9_addYard 0 = .ok (.aload_n 0, 1) := by decide +kernel
theorem dX9_addYard_1 : decode cX9_addYard 1 = .ok (.lload_n 1, 1) := by decide +kernel
theorem dX9_addYard_2 : decode cX9_addYard 2 = .ok (.invokevirtual 239, 3) := by decide +kernel
theorem dX9_addYard_5 : decode cX9_addYard 5 = .ok (.istore 5, 2) := by decide +kernel
theorem dX9_addYard_7 : decode cX9_addYard 7 = .ok (.aload_n 0, 1) := by decide +kernel
theorem dX9_addYard_8 : decode cX9_addYard 8 = .ok (.getfield 63, 3) := by decide +kernel
theorem dX9_addYard_11 : decode cX9_addYard 11 = .ok (.iload 5, 2) := by decide +kernel
theorem dX9_addYard_13 : decode cX9_addYard 13 = .ok (.iaload, 1) := by decide +kernel
theorem dX9_addYard_14 : decode cX9_addYard 14 = .ok (.ifCond .eq 5, 3) := by decide +kernel
theorem dX9_addYard_17 : decode cX9_addYard 17 = .ok (.iconst 1, 1) := by decide +kernel
theorem dX9_addYard_18 : decode cX9_addYard 18 = .ok (.ireturn, 1) := by decide +kernel
theorem dX9_addYard_19 : decode cX9_addYard 19 = .ok (.aload_n 0, 1) := by decide +kernel
theorem dX9_addYard_20 : decode cX9_addYard 20 = .ok (.getfield 243, 3) := by decide +kernel
theorem dX9_addYard_23 : decode cX9_addYard 23 = .ok (.sipush 1500, 3) := by decide +kernel
theorem dX9_addYard_26 : decode cX9_addYard 26 = .ok (.if_icmp .ne 5, 3) := by decide +kernel
theorem dX9_addYard_29 : decode cX9_addYard 29 = .ok (.iconst 0, 1) := by decide +kernel
theorem dX9_addYard_30 : decode cX9_addYard 30 = .ok (.ireturn, 1) := by decide +kernel
theorem dX9_addYard_31 : decode cX9_addYard 31 = .ok (.aload_n 0, 1) := by decide +kernel
theorem dX9_addYard_32 : decode cX9_addYard 32 = .ok (.getfield 54, 3) := by decide +kernel
theorem dX9_addYard_35 : decode cX9_addYard 35 = .ok (.aload_n 0, 1) := by decide +kernel
theorem dX9_addYard_36 : decode cX9_addYard 36 = .ok (.getfield 243, 3) := by decide +kernel
theorem dX9_addYard_39 : decode cX9_addYard 39 = .ok (.lload_n 1, 1) := by decide +kernel
theorem dX9_addYard_40 : decode cX9_addYard 40 = .ok (.lastore, 1) := by decide +kernel
theorem dX9_addYard_41 : decode cX9_addYard 41 = .ok (.aload_n 0, 1) := by decide +kernel
theorem dX9_addYard_42 : decode cX9_addYard 42 = .ok (.getfield 57, 3) := by decide +kernel
theorem dX9_addYard_45 : decode cX9_addYard 45 = .ok (.aload_n 0, 1) := by decide +kernel
theorem dX9_addYard_46 : decode cX9_addYard 46 = .ok (.getfield 243, 3) := by decide +kernel
theorem dX9_addYard_49 : decode cX9_addYard 49 = .ok (.iload_n 3, 1) := by decide +kernel
theorem dX9_addYard_50 : decode cX9_addYard 50 = .ok (.iastore, 1) := by decide +kernel
theorem dX9_addYard_51 : decode cX9_addYard 51 = .ok (.aload_n 0, 1) := by decide +kernel
theorem dX9_addYard_52 : decode cX9_addYard 52 = .ok (.getfield 60, 3) := by decide +kernel
theorem dX9_addYard_55 : decode cX9_addYard 55 = .ok (.aload_n 0, 1) := by decide +kernel
theorem dX9_addYard_56 : decode cX9_addYard 56 = .ok (.getfield 243, 3) := by decide +kernel
theorem dX9_addYard_59 : decode cX9_addYard 59 = .ok (.iload 4, 2) := by decide +kernel
theorem dX9_addYard_61 : decode cX9_addYard 61 = .ok (.iastore, 1) := by decide +kernel
theorem dX9_addYard_62 : decode cX9_addYard 62 = .ok (.aload_n 0, 1) := by decide +kernel
theorem dX9_addYard_63 : decode cX9_addYard 63 = .ok (.dup, 1) := by decide +kernel
theorem dX9_addYard_64 : decode cX9_addYard 64 = .ok (.getfield 243, 3) := by decide +kernel
theorem dX9_addYard_67 : decode cX9_addYard 67 = .ok (.iconst 1, 1) := by decide +kernel
theorem dX9_addYard_68 : decode cX9_addYard 68 = .ok (.iadd, 1) := by decide +kernel
theorem dX9_addYard_69 : decode cX9_addYard 69 = .ok (.putfield 243, 3) := by decide +kernel
theorem dX9_addYard_72 : decode cX9_addYard 72 = .ok (.aload_n 0, 1) := by decide +kernel
theorem dX9_addYard_73 : decode cX9_addYard 73 = .ok (.getfield 63, 3) := by decide +kernel
theorem dX9_addYard_76 : decode cX9_addYard 76 = .ok (.iload 5, 2) := by decide +kernel
theorem dX9_addYard_78 : decode cX9_addYard 78 = .ok (.aload_n 0, 1) := by decide +kernel
theorem dX9_addYard_79 : decode cX9_addYard 79 = .ok (.getfield 243, 3) := by decide +kernel
theorem dX9_addYard_82 : decode cX9_addYard 82 = .ok (.iastore, 1) := by decide +kernel
theorem dX9_addYard_83 : decode cX9_addYard 83 = .ok (.iconst 1, 1) := by decide +kernel
theorem dX9_addYard_84 : decode cX9_addYard 84 = .ok (.ireturn, 1) := by decide +kernel
theorem dX9_spread_0 : decode cX9_spread 0 = .ok (.iconst 0, 1) := by decide +kernel
theorem dX9_spread_1 : decode cX9_spread 1 = .ok (.istore_n 3, 1) := by decide +kernel
theorem dX9_spread_2 : decode cX9_spread 2 = .ok (.iload_n 3, 1) := by decide +kernel
theorem dX9_spread_3 : decode cX9_spread 3 = .ok (.iconst 4, 1) := by decide +kernel
theorem dX9_spread_4 : decode cX9_spread 4 = .ok (.aload_n 0, 1) := by decide +kernel
theorem dX9_spread_5 : decode cX9_spread 5 = .ok (.getfield 179, 3) := by decide +kernel
theorem dX9_spread_8 : decode cX9_spread 8 = .ok (.imul, 1) := by decide +kernel
theorem dX9_spread_9 : decode cX9_spread 9 = .ok (.if_icmp .ge 71, 3) := by decide +kernel
theorem dX9_spread_12 : decode cX9_spread 12 = .ok (.aload_n 0, 1) := by decide +kernel
theorem dX9_spread_13 : decode cX9_spread 13 = .ok (.aload_n 0, 1) := by decide +kernel
theorem dX9_spread_14 : decode cX9_spread 14 = .ok (.getfield 54, 3) := by decide +kernel
theorem dX9_spread_17 : decode cX9_spread 17 = .ok (.iload_n 1, 1) := by decide +kernel
theorem dX9_spread_18 : decode cX9_spread 18 = .ok (.laload, 1) := by decide +kernel
theorem dX9_spread_19 : decode cX9_spread 19 = .ok (.invokevirtual 246, 3) := by decide +kernel
theorem dX9_spread_22 : decode cX9_spread 22 = .ok (.aload_n 0, 1) := by decide +kernel
theorem dX9_spread_23 : decode cX9_spread 23 = .ok (.iload_n 3, 1) := by decide +kernel
theorem dX9_spread_24 : decode cX9_spread 24 = .ok (.iconst 4, 1) := by decide +kernel
theorem dX9_spread_25 : decode cX9_spread 25 = .ok (.idiv, 1) := by decide +kernel
theorem dX9_spread_26 : decode cX9_spread 26 = .ok (.iload_n 3, 1) := by decide +kernel
theorem dX9_spread_27 : decode cX9_spread 27 = .ok (.iconst 4, 1) := by decide +kernel
theorem dX9_spread_28 : decode cX9_spread 28 = .ok (.irem, 1) := by decide +kernel
theorem dX9_spread_29 : decode cX9_spread 29 = .ok (.invokevirtual 221, 3) := by decide +kernel
theorem dX9_spread_32 : decode cX9_spread 32 = .ok (.ifCond .eq 42, 3) := by decide +kernel
theorem dX9_spread_35 : decode cX9_spread 35 = .ok (.aload_n 0, 1) := by decide +kernel
theorem dX9_spread_36 : decode cX9_spread 36 = .ok (.getfield 211, 3) := by decide +kernel
theorem dX9_spread_39 : decode cX9_spread 39 = .ok (.iload_n 2, 1) := by decide +kernel
theorem dX9_spread_40 : decode cX9_spread 40 = .ok (.ishr, 1) := by decide +kernel
theorem dX9_spread_41 : decode cX9_spread 41 = .ok (.iconst 1, 1) := by decide +kernel
theorem dX9_spread_42 : decode cX9_spread 42 = .ok (.iand, 1) := by decide +kernel
theorem dX9_spread_43 : decode cX9_spread 43 = .ok (.iconst 1, 1) := by decide +kernel
theorem dX9_spread_44 : decode cX9_spread 44 = .ok (.if_icmp .ne 15, 3) := by decide +kernel
theorem dX9_spread_47 : decode cX9_spread 47 = .ok (.aload_n 0, 1) := by decide +kernel
theorem dX9_spread_48 : decode cX9_spread 48 = .ok (.iload_n 1, 1) := by decide +kernel
theorem dX9_spread_49 : decode cX9_spread 49 = .ok (.putfield 250, 3) := by decide +kernel
theorem dX9_spread_52 : decode cX9_spread 52 = .ok (.aload_n 0, 1) := by decide +kernel
theorem dX9_spread_53 : decode cX9_spread 53 = .ok (.iload_n 3, 1) := by decide +kernel
theorem dX9_spread_54 : decode cX9_spread 54 = .ok (.putfield 253, 3) := by decide +kernel
theorem dX9_spread_57 : decode cX9_spread 57 = .ok (.iconst 1, 1) := by decide +kernel
theorem dX9_spread_58 : decode cX9_spread 58 = .ok (.ireturn, 1) := by decide +kernel
theorem dX9_spread_59 : decode cX9_spread 59 = .ok (.aload_n 0, 1) := by decide +kernel
theorem dX9_spread_60 : decode cX9_spread 60 = .ok (.aload_n 0, 1) := by decide +kernel
theorem dX9_spread_61 : decode cX9_spread 61 = .ok (.invokevirtual 256, 3) := by decide +kernel
theorem dX9_spread_64 : decode cX9_spread 64 = .ok (.iload_n 1, 1) := by decide +kernel
theorem dX9_spread_65 : decode cX9_spread 65 = .ok (.iload_n 3, 1) := by decide +kernel
theorem dX9_spread_66 : decode cX9_spread 66 = .ok (.invokevirtual 259, 3) := by decide +kernel
theorem dX9_spread_69 : decode cX9_spread 69 = .ok (.ifCond .ne 5, 3) := by decide +kernel
theorem dX9_spread_72 : decode cX9_spread 72 = .ok (.iconst (-1), 1) := by decide +kernel
theorem dX9_spread_73 : decode cX9_spread 73 = .ok (.ireturn, 1) := by decide +kernel
theorem dX9_spread_74 : decode cX9_spread 74 = .ok (.iinc 3 1, 3) := by decide +kernel
theorem dX9_spread_77 : decode cX9_spread 77 = .ok (.goto (-75), 3) := by decide +kernel
theorem dX9_spread_80 : decode cX9_spread 80 = .ok (.iconst 0, 1) := by decide +kernel
theorem dX9_spread_81 : decode cX9_spread 81 = .ok (.ireturn, 1) := by decide +kernel
theorem dX9_fewest_0 : decode cX9_fewest 0 = .ok (.iload_n 1, 1) := by decide +kernel
theorem dX9_fewest_1 : decode cX9_fewest 1 = .ok (.i2l, 1) := by decide +kernel
theorem dX9_fewest_2 : decode cX9_fewest 2 = .ok (.lconst 0, 1) := by decide +kernel
theorem dX9_fewest_3 : decode cX9_fewest 3 = .ok (.lconst 1, 1) := by decide +kernel
theorem dX9_fewest_4 : decode cX9_fewest 4 = .ok (.invokestatic 142, 3) := by decide +kernel
theorem dX9_fewest_7 : decode cX9_fewest 7 = .ok (.ifCond .eq 8, 3) := by decide +kernel
theorem dX9_fewest_10 : decode cX9_fewest 10 = .ok (.iload_n 2, 1) := by decide +kernel
theorem dX9_fewest_11 : decode cX9_fewest 11 = .ok (.iconst (-1), 1) := by decide +kernel
theorem dX9_fewest_12 : decode cX9_fewest 12 = .ok (.if_icmp .ge 5, 3) := by decide +kernel
theorem dX9_fewest_15 : decode cX9_fewest 15 = .ok (.iconst (-1), 1) := by decide +kernel
theorem dX9_fewest_16 : decode cX9_fewest 16 = .ok (.ireturn, 1) := by decide +kernel
theorem dX9_fewest_17 : decode cX9_fewest 17 = .ok (.aload_n 0, 1) := by decide +kernel
theorem dX9_fewest_18 : decode cX9_fewest 18 = .ok (.iconst 4, 1) := by decide +kernel
theorem dX9_fewest_19 : decode cX9_fewest 19 = .ok (.invokevirtual 217, 3) := by decide +kernel
theorem dX9_fewest_22 : decode cX9_fewest 22 = .ok (.iconst 0, 1) := by decide +kernel
theorem dX9_fewest_23 : decode cX9_fewest 23 = .ok (.istore_n 3, 1) := by decide +kernel
theorem dX9_fewest_24 : decode cX9_fewest 24 = .ok (.iload_n 3, 1) := by decide +kernel
theorem dX9_fewest_25 : decode cX9_fewest 25 = .ok (.sipush 4096, 3) := by decide +kernel
theorem dX9_fewest_28 : decode cX9_fewest 28 = .ok (.if_icmp .ge 16, 3) := by decide +kernel
theorem dX9_fewest_31 : decode cX9_fewest 31 = .ok (.aload_n 0, 1) := by decide +kernel
theorem dX9_fewest_32 : decode cX9_fewest 32 = .ok (.getfield 63, 3) := by decide +kernel
theorem dX9_fewest_35 : decode cX9_fewest 35 = .ok (.iload_n 3, 1) := by decide +kernel
theorem dX9_fewest_36 : decode cX9_fewest 36 = .ok (.iconst 0, 1) := by decide +kernel
theorem dX9_fewest_37 : decode cX9_fewest 37 = .ok (.iastore, 1) := by decide +kernel
theorem dX9_fewest_38 : decode cX9_fewest 38 = .ok (.iinc 3 1, 3) := by decide +kernel
theorem dX9_fewest_41 : decode cX9_fewest 41 = .ok (.goto (-17), 3) := by decide +kernel
theorem dX9_fewest_44 : decode cX9_fewest 44 = .ok (.aload_n 0, 1) := by decide +kernel
theorem dX9_fewest_45 : decode cX9_fewest 45 = .ok (.iconst 0, 1) := by decide +kernel
theorem dX9_fewest_46 : decode cX9_fewest 46 = .ok (.putfield 243, 3) := by decide +kernel
theorem dX9_fewest_49 : decode cX9_fewest 49 = .ok (.aload_n 0, 1) := by decide +kernel
theorem dX9_fewest_50 : decode cX9_fewest 50 = .ok (.aload_n 0, 1) := by decide +kernel
theorem dX9_fewest_51 : decode cX9_fewest 51 = .ok (.invokevirtual 256, 3) := by decide +kernel
theorem dX9_fewest_54 : decode cX9_fewest 54 = .ok (.bipush (-9), 2) := by decide +kernel
theorem dX9_fewest_56 : decode cX9_fewest 56 = .ok (.bipush (-9), 2) := by decide +kernel
theorem dX9_fewest_58 : decode cX9_fewest 58 = .ok (.invokevirtual 259, 3) := by decide +kernel
theorem dX9_fewest_61 : decode cX9_fewest 61 = .ok (.pop, 1) := by decide +kernel
theorem dX9_fewest_62 : decode cX9_fewest 62 = .ok (.iconst 0, 1) := by decide +kernel
theorem dX9_fewest_63 : decode cX9_fewest 63 = .ok (.istore_n 3, 1) := by decide +kernel
theorem dX9_fewest_64 : decode cX9_fewest 64 = .ok (.iconst 0, 1) := by decide +kernel
theorem dX9_fewest_65 : decode cX9_fewest 65 = .ok (.istore 4, 2) := by decide +kernel
theorem dX9_fewest_67 : decode cX9_fewest 67 = .ok (.iload 4, 2) := by decide +kernel
theorem dX9_fewest_69 : decode cX9_fewest 69 = .ok (.aload_n 0, 1) := by decide +kernel
theorem dX9_fewest_70 : decode cX9_fewest 70 = .ok (.getfield 243, 3) := by decide +kernel
theorem dX9_fewest_73 : decode cX9_fewest 73 = .ok (.if_icmp .ge 21, 3) := by decide +kernel
theorem dX9_fewest_76 : decode cX9_fewest 76 = .ok (.iload_n 3, 1) := by decide +kernel
theorem dX9_fewest_77 : decode cX9_fewest 77 = .ok (.ifCond .ne 17, 3) := by decide +kernel
theorem dX9_fewest_80 : decode cX9_fewest 80 = .ok (.aload_n 0, 1) := by decide +kernel
theorem dX9_fewest_81 : decode cX9_fewest 81 = .ok (.iload 4, 2) := by decide +kernel
theorem dX9_fewest_83 : decode cX9_fewest 83 = .ok (.iload_n 1, 1) := by decide +kernel
theorem dX9_fewest_84 : decode cX9_fewest 84 = .ok (.invokevirtual 263, 3) := by decide +kernel
theorem dX9_fewest_87 : decode cX9_fewest 87 = .ok (.istore_n 3, 1) := by decide +kernel
theorem dX9_fewest_88 : decode cX9_fewest 88 = .ok (.iinc 4 1, 3) := by decide +kernel
theorem dX9_fewest_91 : decode cX9_fewest 91 = .ok (.goto (-24), 3) := by decide +kernel
theorem dX9_fewest_94 : decode cX9_fewest 94 = .ok (.aload_n 0, 1) := by decide +kernel
theorem dX9_fewest_95 : decode cX9_fewest 95 = .ok (.iconst 4, 1) := by decide +kernel
theorem dX9_fewest_96 : decode cX9_fewest 96 = .ok (.invokevirtual 227, 3) := by decide +kernel
theorem dX9_fewest_99 : decode cX9_fewest 99 = .ok (.iload_n 3, 1) := by decide +kernel
theorem dX9_fewest_100 : decode cX9_fewest 100 = .ok (.ifCond .gt 15, 3) := by decide +kernel
theorem dX9_fewest_103 : decode cX9_fewest 103 = .ok (.iload_n 3, 1) := by decide +kernel
theorem dX9_fewest_104 : decode cX9_fewest 104 = .ok (.ifCond .ge 8, 3) := by decide +kernel
theorem dX9_fewest_107 : decode cX9_fewest 107 = .ok (.bipush (-5), 2) := by decide +kernel
theorem dX9_fewest_109 : decode cX9_fewest 109 = .ok (.goto 5, 3) := by decide +kernel
theorem dX9_fewest_112 : decode cX9_fewest 112 = .ok (.bipush (-9), 2) := by decide +kernel
theorem dX9_fewest_114 : decode cX9_fewest 114 = .ok (.ireturn, 1) := by decide +kernel
theorem dX9_fewest_115 : decode cX9_fewest 115 = .ok (.iconst 0, 1) := by decide +kernel
theorem dX9_fewest_116 : decode cX9_fewest 116 = .ok (.istore 4, 2) := by decide +kernel
theorem dX9_fewest_118 : decode cX9_fewest 118 = .ok (.aload_n 0, 1) := by decide +kernel
theorem dX9_fewest_119 : decode cX9_fewest 119 = .ok (.getfield 250, 3) := by decide +kernel
theorem dX9_fewest_122 : decode cX9_fewest 122 = .ok (.istore 5, 2) := by decide +kernel
theorem dX9_fewest_124 : decode cX9_fewest 124 = .ok (.aload_n 0, 1) := by decide +kernel
theorem dX9_fewest_125 : decode cX9_fewest 125 = .ok (.getfield 66, 3) := by decide +kernel
theorem dX9_fewest_128 : decode cX9_fewest 128 = .ok (.iconst 0, 1) := by decide +kernel
theorem dX9_fewest_129 : decode cX9_fewest 129 = .ok (.aload_n 0, 1) := by decide +kernel
theorem dX9_fewest_130 : decode cX9_fewest 130 = .ok (.getfield 253, 3) := by decide +kernel
theorem dX9_fewest_133 : decode cX9_fewest 133 = .ok (.iastore, 1) := by decide +kernel
theorem dX9_fewest_134 : decode cX9_fewest 134 = .ok (.iinc 4 1, 3) := by decide +kernel
theorem dX9_fewest_137 : decode cX9_fewest 137 = .ok (.aload_n 0, 1) := by decide +kernel
theorem dX9_fewest_138 : decode cX9_fewest 138 = .ok (.getfield 57, 3) := by decide +kernel
theorem dX9_fewest_141 : decode cX9_fewest 141 = .ok (.iload 5, 2) := by decide +kernel
theorem dX9_fewest_143 : decode cX9_fewest 143 = .ok (.iaload, 1) := by decide +kernel
theorem dX9_fewest_144 : decode cX9_fewest 144 = .ok (.ifCond .lt 32, 3) := by decide +kernel
theorem dX9_fewest_147 : decode cX9_fewest 147 = .ok (.aload_n 0, 1) := by decide +kernel
theorem dX9_fewest_148 : decode cX9_fewest 148 = .ok (.getfield 66, 3) := by decide +kernel
theorem dX9_fewest_151 : decode cX9_fewest 151 = .ok (.iload 4, 2) := by decide +kernel
theorem dX9_fewest_153 : decode cX9_fewest 153 = .ok (.aload_n 0, 1) := by decide +kernel
theorem dX9_fewest_154 : decode cX9_fewest 154 = .ok (.getfield 60, 3) := by decide +kernel
theorem dX9_fewest_157 : decode cX9_fewest 157 = .ok (.iload 5, 2) := by decide +kernel
theorem dX9_fewest_159 : decode cX9_fewest 159 = .ok (.iaload, 1) := by decide +kernel
theorem dX9_fewest_160 : decode cX9_fewest 160 = .ok (.iastore, 1) := by decide +kernel
theorem dX9_fewest_161 : decode cX9_fewest 161 = .ok (.aload_n 0, 1) := by decide +kernel
theorem dX9_fewest_162 : decode cX9_fewest 162 = .ok (.getfield 57, 3) := by decide +kernel
theorem dX9_fewest_165 : decode cX9_fewest 165 = .ok (.iload 5, 2) := by decide +kernel
theorem dX9_fewest_167 : decode cX9_fewest 167 = .ok (.iaload, 1) := by decide +kernel
theorem dX9_fewest_168 : decode cX9_fewest 168 = .ok (.istore 5, 2) := by decide +kernel
theorem dX9_fewest_170 : decode cX9_fewest 170 = .ok (.iinc 4 1, 3) := by decide +kernel
theorem dX9_fewest_173 : decode cX9_fewest 173 = .ok (.goto (-36), 3) := by decide +kernel
theorem dX9_fewest_176 : decode cX9_fewest 176 = .ok (.iload_n 2, 1) := by decide +kernel
theorem dX9_fewest_177 : decode cX9_fewest 177 = .ok (.ifCond .lt 9, 3) := by decide +kernel
theorem dX9_fewest_180 : decode cX9_fewest 180 = .ok (.iload_n 2, 1) := by decide +kernel
theorem dX9_fewest_181 : decode cX9_fewest 181 = .ok (.iload 4, 2) := by decide +kernel
theorem dX9_fewest_183 : decode cX9_fewest 183 = .ok (.if_icmp .lt 15, 3) := by decide +kernel
theorem dX9_fewest_186 : decode cX9_fewest 186 = .ok (.iload_n 2, 1) := by decide +kernel
theorem dX9_fewest_187 : decode cX9_fewest 187 = .ok (.ifCond .ge 8, 3) := by decide +kernel
theorem dX9_fewest_190 : decode cX9_fewest 190 = .ok (.iload 4, 2) := by decide +kernel
theorem dX9_fewest_192 : decode cX9_fewest 192 = .ok (.goto 5, 3) := by decide +kernel
theorem dX9_fewest_195 : decode cX9_fewest 195 = .ok (.bipush (-9), 2) := by decide +kernel
theorem dX9_fewest_197 : decode cX9_fewest 197 = .ok (.ireturn, 1) := by decide +kernel
theorem dX9_fewest_198 : decode cX9_fewest 198 = .ok (.aload_n 0, 1) := by decide +kernel
theorem dX9_fewest_199 : decode cX9_fewest 199 = .ok (.getfield 66, 3) := by decide +kernel
theorem dX9_fewest_202 : decode cX9_fewest 202 = .ok (.iload 4, 2) := by decide +kernel
theorem dX9_fewest_204 : decode cX9_fewest 204 = .ok (.iconst 1, 1) := by decide +kernel
theorem dX9_fewest_205 : decode cX9_fewest 205 = .ok (.isub, 1) := by decide +kernel
theorem dX9_fewest_206 : decode cX9_fewest 206 = .ok (.iload_n 2, 1) := by decide +kernel
theorem dX9_fewest_207 : decode cX9_fewest 207 = .ok (.isub, 1) := by decide +kernel
theorem dX9_fewest_208 : decode cX9_fewest 208 = .ok (.iaload, 1) := by decide +kernel
theorem dX9_fewest_209 : decode cX9_fewest 209 = .ok (.istore 6, 2) := by decide +kernel
theorem dX9_fewest_211 : decode cX9_fewest 211 = .ok (.bipush 10, 2) := by decide +kernel
theorem dX9_fewest_213 : decode cX9_fewest 213 = .ok (.iload 6, 2) := by decide +kernel
theorem dX9_fewest_215 : decode cX9_fewest 215 = .ok (.iconst 4, 1) := by decide +kernel
theorem dX9_fewest_216 : decode cX9_fewest 216 = .ok (.idiv, 1) := by decide +kernel
theorem dX9_fewest_217 : decode cX9_fewest 217 = .ok (.imul, 1) := by decide +kernel
theorem dX9_fewest_218 : decode cX9_fewest 218 = .ok (.iload 6, 2) := by decide +kernel
theorem dX9_fewest_220 : decode cX9_fewest 220 = .ok (.iconst 4, 1) := by decide +kernel
theorem dX9_fewest_221 : decode cX9_fewest 221 = .ok (.irem, 1) := by decide +kernel
theorem dX9_fewest_222 : decode cX9_fewest 222 = .ok (.iadd, 1) := by decide +kernel
theorem dX9_fewest_223 : decode cX9_fewest 223 = .ok (.ireturn, 1) := by decide +kernel
theorem dX9_isOwn_0 : decode cX9_isOwn 0 = .ok (.iload_n 1, 1) := by decide +kernel
theorem dX9_isOwn_1 : decode cX9_isOwn 1 = .ok (.iconst 2, 1) := by decide +kernel
theorem dX9_isOwn_2 : decode cX9_isOwn 2 = .ok (.irem, 1) := by decide +kernel
theorem dX9_isOwn_3 : decode cX9_isOwn 3 = .ok (.ifCond .ne 7, 3) := by decide +kernel
theorem dX9_isOwn_6 : decode cX9_isOwn 6 = .ok (.iconst 1, 1) := by decide +kernel
theorem dX9_isOwn_7 : decode cX9_isOwn 7 = .ok (.goto 4, 3) := by decide +kernel
theorem dX9_isOwn_10 : decode cX9_isOwn 10 = .ok (.iconst 0, 1) := by decide +kernel
theorem dX9_isOwn_11 : decode cX9_isOwn 11 = .ok (.ireturn, 1) := by decide +kernel
theorem dX9_enter_0 : decode cX9_enter 0 = .ok (.aload_n 0, 1) := by decide +kernel
theorem dX9_enter_1 : decode cX9_enter 1 = .ok (.iload_n 1, 1) := by decide +kernel
theorem dX9_enter_2 : decode cX9_enter 2 = .ok (.putfield 266, 3) := by decide +kernel
theorem dX9_enter_5 : decode cX9_enter 5 = .ok (.aload_n 0, 1) := by decide +kernel
theorem dX9_enter_6 : decode cX9_enter 6 = .ok (.iload_n 1, 1) := by decide +kernel
theorem dX9_enter_7 : decode cX9_enter 7 = .ok (.invokevirtual 217, 3) := by decide +kernel
theorem dX9_enter_10 : decode cX9_enter 10 = .ok (.aload_n 0, 1) := by decide +kernel
theorem dX9_enter_11 : decode cX9_enter 11 = .ok (.getfield 69, 3) := by decide +kernel
theorem dX9_enter_14 : decode cX9_enter 14 = .ok (.iload_n 1, 1) := by decide +kernel
theorem dX9_enter_15 : decode cX9_enter 15 = .ok (.iconst 0, 1) := by decide +kernel
theorem dX9_enter_16 : decode cX9_enter 16 = .ok (.iastore, 1) := by decide +kernel
theorem dX9_enter_17 : decode cX9_enter 17 = .ok (.aload_n 0, 1) := by decide +kernel
theorem dX9_enter_18 : decode cX9_enter 18 = .ok (.getfield 72, 3) := by decide +kernel
theorem dX9_enter_21 : decode cX9_enter 21 = .ok (.iload_n 1, 1) := by decide +kernel
theorem dX9_enter_22 : decode cX9_enter 22 = .ok (.iconst 0, 1) := by decide +kernel
theorem dX9_enter_23 : decode cX9_enter 23 = .ok (.bastore, 1) := by decide +kernel
theorem dX9_enter_24 : decode cX9_enter 24 = .ok (.aload_n 0, 1) := by decide +kernel
theorem dX9_enter_25 : decode cX9_enter 25 = .ok (.getfield 75, 3) := by decide +kernel
theorem dX9_enter_28 : decode cX9_enter 28 = .ok (.iload_n 1, 1) := by decide +kernel
theorem dX9_enter_29 : decode cX9_enter 29 = .ok (.iconst 0, 1) := by decide +kernel
theorem dX9_enter_30 : decode cX9_enter 30 = .ok (.bastore, 1) := by decide +kernel
theorem dX9_enter_31 : decode cX9_enter 31 = .ok (.aload_n 0, 1) := by decide +kernel
theorem dX9_enter_32 : decode cX9_enter 32 = .ok (.getfield 78, 3) := by decide +kernel
theorem dX9_enter_35 : decode cX9_enter 35 = .ok (.iload_n 1, 1) := by decide +kernel
theorem dX9_enter_36 : decode cX9_enter 36 = .ok (.aload_n 0, 1) := by decide +kernel
theorem dX9_enter_37 : decode cX9_enter 37 = .ok (.iload_n 1, 1) := by decide +kernel
theorem dX9_enter_38 : decode cX9_enter 38 = .ok (.invokevirtual 269, 3) := by decide +kernel
theorem dX9_enter_41 : decode cX9_enter 41 = .ok (.ifCond .ne 7, 3) := by decide +kernel
theorem dX9_enter_44 : decode cX9_enter 44 = .ok (.iconst 1, 1) := by decide +kernel
theorem dX9_enter_45 : decode cX9_enter 45 = .ok (.goto 4, 3) := by decide +kernel
theorem dX9_enter_48 : decode cX9_enter 48 = .ok (.iconst 0, 1) := by decide +kernel
theorem dX9_enter_49 : decode cX9_enter 49 = .ok (.bastore, 1) := by decide +kernel
theorem dX9_enter_50 : decode cX9_enter 50 = .ok (.aload_n 0, 1) := by decide +kernel
theorem dX9_enter_51 : decode cX9_enter 51 = .ok (.getfield 81, 3) := by decide +kernel
theorem dX9_enter_54 : decode cX9_enter 54 = .ok (.iload_n 1, 1) := by decide +kernel
theorem dX9_enter_55 : decode cX9_enter 55 = .ok (.iconst 0, 1) := by decide +kernel
theorem dX9_enter_56 : decode cX9_enter 56 = .ok (.bastore, 1) := by decide +kernel
theorem dX9_enter_57 : decode cX9_enter 57 = .ok (.return_, 1) := by decide +kernel
theorem dX9_learn_0 : decode cX9_learn 0 = .ok (.iload_n 2, 1) := by decide +kernel
theorem dX9_learn_1 : decode cX9_learn 1 = .ok (.aload_n 0, 1) := by decide +kernel
theorem dX9_learn_2 : decode cX9_learn 2 = .ok (.iload_n 1, 1) := by decide +kernel
theorem dX9_learn_3 : decode cX9_learn 3 = .ok (.invokevirtual 269, 3) := by decide +kernel
theorem dX9_learn_6 : decode cX9_learn 6 = .ok (.if_icmp .ne 17, 3) := by decide +kernel
theorem dX9_learn_9 : decode cX9_learn 9 = .ok (.aload_n 0, 1) := by decide +kernel
theorem dX9_learn_10 : decode cX9_learn 10 = .ok (.getfield 78, 3) := by decide +kernel
theorem dX9_learn_13 : decode cX9_learn 13 = .ok (.iload_n 1, 1) := by decide +kernel
theorem dX9_learn_14 : decode cX9_learn 14 = .ok (.iload_n 2, 1) := by decide +kernel
theorem dX9_learn_15 : decode cX9_learn 15 = .ok (.bastore, 1) := by decide +kernel
theorem dX9_learn_16 : decode cX9_learn 16 = .ok (.aload_n 0, 1) := by decide +kernel
theorem dX9_learn_17 : decode cX9_learn 17 = .ok (.getfield 81, 3) := by decide +kernel
theorem dX9_learn_20 : decode cX9_learn 20 = .ok (.iload_n 1, 1) := by decide +kernel
theorem dX9_learn_21 : decode cX9_learn 21 = .ok (.iconst 1, 1) := by decide +kernel
theorem dX9_learn_22 : decode cX9_learn 22 = .ok (.bastore, 1) := by decide +kernel
theorem dX9_learn_23 : decode cX9_learn 23 = .ok (.return_, 1) := by decide +kernel
theorem dX9_descend_0 : decode cX9_descend 0 = .ok (.iload_n 1, 1) := by decide +kernel
theorem dX9_descend_1 : decode cX9_descend 1 = .ok (.iconst 1, 1) := by decide +kernel
theorem dX9_descend_2 : decode cX9_descend 2 = .ok (.iadd, 1) := by decide +kernel
theorem dX9_descend_3 : decode cX9_descend 3 = .ok (.aload_n 0, 1) := by decide +kernel
theorem dX9_descend_4 : decode cX9_descend 4 = .ok (.getfield 272, 3) := by decide +kernel
theorem dX9_descend_7 : decode cX9_descend 7 = .ok (.if_icmp .ne 12, 3) := by decide +kernel
theorem dX9_descend_10 : decode cX9_descend 10 = .ok (.aload_n 0, 1) := by decide +kernel
theorem dX9_descend_11 : decode cX9_descend 11 = .ok (.iload_n 1, 1) := by decide +kernel
theorem dX9_descend_12 : decode cX9_descend 12 = .ok (.iconst 0, 1) := by decide +kernel
theorem dX9_descend_13 : decode cX9_descend 13 = .ok (.invokevirtual 275, 3) := by decide +kernel
theorem dX9_descend_16 : decode cX9_descend 16 = .ok (.goto 10, 3) := by decide +kernel
theorem dX9_descend_19 : decode cX9_descend 19 = .ok (.aload_n 0, 1) := by decide +kernel
theorem dX9_descend_20 : decode cX9_descend 20 = .ok (.iload_n 1, 1) := by decide +kernel
theorem dX9_descend_21 : decode cX9_descend 21 = .ok (.iconst 1, 1) := by decide +kernel
theorem dX9_descend_22 : decode cX9_descend 22 = .ok (.iadd, 1) := by decide +kernel
theorem dX9_descend_23 : decode cX9_descend 23 = .ok (.invokevirtual 279, 3) := by decide +kernel
theorem dX9_descend_26 : decode cX9_descend 26 = .ok (.return_, 1) := by decide +kernel
theorem dX9_tryNext_0 : decode cX9_tryNext 0 = .ok (.aload_n 0, 1) := by decide +kernel
theorem dX9_tryNext_1 : decode cX9_tryNext 1 = .ok (.getfield 69, 3) := by decide +kernel
theorem dX9_tryNext_4 : decode cX9_tryNext 4 = .ok (.iload_n 1, 1) := by decide +kernel
theorem dX9_tryNext_5 : decode cX9_tryNext 5 = .ok (.iaload, 1) := by decide +kernel
theorem dX9_tryNext_6 : decode cX9_tryNext 6 = .ok (.iconst 4, 1) := by decide +kernel
theorem dX9_tryNext_7 : decode cX9_tryNext 7 = .ok (.aload_n 0, 1) := by decide +kernel
theorem dX9_tryNext_8 : decode cX9_tryNext 8 = .ok (.getfield 179, 3) := by decide +kernel
theorem dX9_tryNext_11 : decode cX9_tryNext 11 = .ok (.imul, 1) := by decide +kernel
theorem dX9_tryNext_12 : decode cX9_tryNext 12 = .ok (.if_icmp .ge 140, 3) := by decide +kernel
theorem dX9_tryNext_15 : decode cX9_tryNext 15 = .ok (.aload_n 0, 1) := by decide +kernel
theorem dX9_tryNext_16 : decode cX9_tryNext 16 = .ok (.getfield 69, 3) := by decide +kernel
theorem dX9_tryNext_19 : decode cX9_tryNext 19 = .ok (.iload_n 1, 1) := by decide +kernel
theorem dX9_tryNext_20 : decode cX9_tryNext 20 = .ok (.iaload, 1) := by decide +kernel
theorem dX9_tryNext_21 : decode cX9_tryNext 21 = .ok (.istore_n 2, 1) := by decide +kernel
theorem dX9_tryNext_22 : decode cX9_tryNext 22 = .ok (.aload_n 0, 1) := by decide +kernel
theorem dX9_tryNext_23 : decode cX9_tryNext 23 = .ok (.getfield 69, 3) := by decide +kernel
theorem dX9_tryNext_26 : decode cX9_tryNext 26 = .ok (.iload_n 1, 1) := by decide +kernel
theorem dX9_tryNext_27 : decode cX9_tryNext 27 = .ok (.dup2, 1) := by decide +kernel
theorem dX9_tryNext_28 : decode cX9_tryNext 28 = .ok (.iaload, 1) := by decide +kernel
theorem dX9_tryNext_29 : decode cX9_tryNext 29 = .ok (.iconst 1, 1) := by decide +kernel
theorem dX9_tryNext_30 : decode cX9_tryNext 30 = .ok (.iadd, 1) := by decide +kernel
theorem dX9_tryNext_31 : decode cX9_tryNext 31 = .ok (.iastore, 1) := by decide +kernel
theorem dX9_tryNext_32 : decode cX9_tryNext 32 = .ok (.aload_n 0, 1) := by decide +kernel
theorem dX9_tryNext_33 : decode cX9_tryNext 33 = .ok (.iload_n 1, 1) := by decide +kernel
theorem dX9_tryNext_34 : decode cX9_tryNext 34 = .ok (.invokevirtual 227, 3) := by decide +kernel
theorem dX9_tryNext_37 : decode cX9_tryNext 37 = .ok (.aload_n 0, 1) := by decide +kernel
theorem dX9_tryNext_38 : decode cX9_tryNext 38 = .ok (.iload_n 2, 1) := by decide +kernel
theorem dX9_tryNext_39 : decode cX9_tryNext 39 = .ok (.iconst 4, 1) := by decide +kernel
theorem dX9_tryNext_40 : decode cX9_tryNext 40 = .ok (.idiv, 1) := by decide +kernel
theorem dX9_tryNext_41 : decode cX9_tryNext 41 = .ok (.iload_n 2, 1) := by decide +kernel
theorem dX9_tryNext_42 : decode cX9_tryNext 42 = .ok (.iconst 4, 1) := by decide +kernel
theorem dX9_tryNext_43 : decode cX9_tryNext 43 = .ok (.irem, 1) := by decide +kernel
theorem dX9_tryNext_44 : decode cX9_tryNext 44 = .ok (.invokevirtual 221, 3) := by decide +kernel
theorem dX9_tryNext_47 : decode cX9_tryNext 47 = .ok (.ifCond .eq 102, 3) := by decide +kernel
theorem dX9_tryNext_50 : decode cX9_tryNext 50 = .ok (.aload_n 0, 1) := by decide +kernel
theorem dX9_tryNext_51 : decode cX9_tryNext 51 = .ok (.getfield 72, 3) := by decide +kernel
theorem dX9_tryNext_54 : decode cX9_tryNext 54 = .ok (.iload_n 1, 1) := by decide +kernel
theorem dX9_tryNext_55 : decode cX9_tryNext 55 = .ok (.iconst 1, 1) := by decide +kernel
theorem dX9_tryNext_56 : decode cX9_tryNext 56 = .ok (.bastore, 1) := by decide +kernel
theorem dX9_tryNext_57 : decode cX9_tryNext 57 = .ok (.aload_n 0, 1) := by decide +kernel
theorem dX9_tryNext_58 : decode cX9_tryNext 58 = .ok (.getfield 211, 3) := by decide +kernel
theorem dX9_tryNext_61 : decode cX9_tryNext 61 = .ok (.aload_n 0, 1) := by decide +kernel
theorem dX9_tryNext_62 : decode cX9_tryNext 62 = .ok (.getfield 282, 3) := by decide +kernel
theorem dX9_tryNext_65 : decode cX9_tryNext 65 = .ok (.ishr, 1) := by decide +kernel
theorem dX9_tryNext_66 : decode cX9_tryNext 66 = .ok (.iconst 1, 1) := by decide +kernel
theorem dX9_tryNext_67 : decode cX9_tryNext 67 = .ok (.iand, 1) := by decide +kernel
theorem dX9_tryNext_68 : decode cX9_tryNext 68 = .ok (.iconst 1, 1) := by decide +kernel
theorem dX9_tryNext_69 : decode cX9_tryNext 69 = .ok (.if_icmp .ne 7, 3) := by decide +kernel
theorem dX9_tryNext_72 : decode cX9_tryNext 72 = .ok (.iconst 1, 1) := by decide +kernel
theorem dX9_tryNext_73 : decode cX9_tryNext 73 = .ok (.goto 4, 3) := by decide +kernel
theorem dX9_tryNext_76 : decode cX9_tryNext 76 = .ok (.iconst 0, 1) := by decide +kernel
theorem dX9_tryNext_77 : decode cX9_tryNext 77 = .ok (.istore_n 3, 1) := by decide +kernel
theorem dX9_tryNext_78 : decode cX9_tryNext 78 = .ok (.aload_n 0, 1) := by decide +kernel
theorem dX9_tryNext_79 : decode cX9_tryNext 79 = .ok (.getfield 211, 3) := by decide +kernel
theorem dX9_tryNext_82 : decode cX9_tryNext 82 = .ok (.iconst 1, 1) := by decide +kernel
theorem dX9_tryNext_83 : decode cX9_tryNext 83 = .ok (.aload_n 0, 1) := by decide +kernel
theorem dX9_tryNext_84 : decode cX9_tryNext 84 = .ok (.getfield 282, 3) := by decide +kernel
theorem dX9_tryNext_87 : decode cX9_tryNext 87 = .ok (.isub, 1) := by decide +kernel
theorem dX9_tryNext_88 : decode cX9_tryNext 88 = .ok (.ishr, 1) := by decide +kernel
theorem dX9_tryNext_89 : decode cX9_tryNext 89 = .ok (.iconst 1, 1) := by decide +kernel
theorem dX9_tryNext_90 : decode cX9_tryNext 90 = .ok (.iand, 1) := by decide +kernel
theorem dX9_tryNext_91 : decode cX9_tryNext 91 = .ok (.iconst 1, 1) := by decide +kernel
theorem dX9_tryNext_92 : decode cX9_tryNext 92 = .ok (.if_icmp .ne 7, 3) := by decide +kernel
theorem dX9_tryNext_95 : decode cX9_tryNext 95 = .ok (.iconst 1, 1) := by decide +kernel
theorem dX9_tryNext_96 : decode cX9_tryNext 96 = .ok (.goto 4, 3) := by decide +kernel
theorem dX9_tryNext_99 : decode cX9_tryNext 99 = .ok (.iconst 0, 1) := by decide +kernel
theorem dX9_tryNext_100 : decode cX9_tryNext 100 = .ok (.istore 4, 2) := by decide +kernel
theorem dX9_tryNext_102 : decode cX9_tryNext 102 = .ok (.iload_n 3, 1) := by decide +kernel
theorem dX9_tryNext_103 : decode cX9_tryNext 103 = .ok (.ifCond .eq 25, 3) := by decide +kernel
theorem dX9_tryNext_106 : decode cX9_tryNext 106 = .ok (.iload 4, 2) := by decide +kernel
theorem dX9_tryNext_108 : decode cX9_tryNext 108 = .ok (.ifCond .eq 11, 3) := by decide +kernel
theorem dX9_tryNext_111 : decode cX9_tryNext 111 = .ok (.aload_n 0, 1) := by decide +kernel
theorem dX9_tryNext_112 : decode cX9_tryNext 112 = .ok (.iload_n 1, 1) := by decide +kernel
theorem dX9_tryNext_113 : decode cX9_tryNext 113 = .ok (.invokevirtual 269, 3) := by decide +kernel
theorem dX9_tryNext_116 : decode cX9_tryNext 116 = .ok (.ifCond .eq 12, 3) := by decide +kernel
theorem dX9_tryNext_119 : decode cX9_tryNext 119 = .ok (.aload_n 0, 1) := by decide +kernel
theorem dX9_tryNext_120 : decode cX9_tryNext 120 = .ok (.iload_n 1, 1) := by decide +kernel
theorem dX9_tryNext_121 : decode cX9_tryNext 121 = .ok (.iconst 1, 1) := by decide +kernel
theorem dX9_tryNext_122 : decode cX9_tryNext 122 = .ok (.invokevirtual 275, 3) := by decide +kernel
theorem dX9_tryNext_125 : decode cX9_tryNext 125 = .ok (.goto 22, 3) := by decide +kernel
theorem dX9_tryNext_128 : decode cX9_tryNext 128 = .ok (.iload 4, 2) := by decide +kernel
theorem dX9_tryNext_130 : decode cX9_tryNext 130 = .ok (.ifCond .eq 12, 3) := by decide +kernel
theorem dX9_tryNext_133 : decode cX9_tryNext 133 = .ok (.aload_n 0, 1) := by decide +kernel
theorem dX9_tryNext_134 : decode cX9_tryNext 134 = .ok (.iload_n 1, 1) := by decide +kernel
theorem dX9_tryNext_135 : decode cX9_tryNext 135 = .ok (.iconst 0, 1) := by decide +kernel
theorem dX9_tryNext_136 : decode cX9_tryNext 136 = .ok (.invokevirtual 275, 3) := by decide +kernel
theorem dX9_tryNext_139 : decode cX9_tryNext 139 = .ok (.goto 8, 3) := by decide +kernel
theorem dX9_tryNext_142 : decode cX9_tryNext 142 = .ok (.aload_n 0, 1) := by decide +kernel
theorem dX9_tryNext_143 : decode cX9_tryNext 143 = .ok (.iload_n 1, 1) := by decide +kernel
theorem dX9_tryNext_144 : decode cX9_tryNext 144 = .ok (.invokevirtual 285, 3) := by decide +kernel
theorem dX9_tryNext_147 : decode cX9_tryNext 147 = .ok (.iconst 1, 1) := by decide +kernel
theorem dX9_tryNext_148 : decode cX9_tryNext 148 = .ok (.ireturn, 1) := by decide +kernel
theorem dX9_tryNext_149 : decode cX9_tryNext 149 = .ok (.goto (-149), 3) := by decide +kernel
theorem dX9_tryNext_152 : decode cX9_tryNext 152 = .ok (.aload_n 0, 1) := by decide +kernel
theorem dX9_tryNext_153 : decode cX9_tryNext 153 = .ok (.getfield 72, 3) := by decide +kernel
theorem dX9_tryNext_156 : decode cX9_tryNext 156 = .ok (.iload_n 1, 1) := by decide +kernel
theorem dX9_tryNext_157 : decode cX9_tryNext 157 = .ok (.baload, 1) := by decide +kernel
theorem dX9_tryNext_158 : decode cX9_tryNext 158 = .ok (.ifCond .ne 31, 3) := by decide +kernel
theorem dX9_tryNext_161 : decode cX9_tryNext 161 = .ok (.aload_n 0, 1) := by decide +kernel
theorem dX9_tryNext_162 : decode cX9_tryNext 162 = .ok (.getfield 75, 3) := by decide +kernel
theorem dX9_tryNext_165 : decode cX9_tryNext 165 = .ok (.iload_n 1, 1) := by decide +kernel
theorem dX9_tryNext_166 : decode cX9_tryNext 166 = .ok (.baload, 1) := by decide +kernel
theorem dX9_tryNext_167 : decode cX9_tryNext 167 = .ok (.ifCond .ne 22, 3) := by decide +kernel
theorem dX9_tryNext_170 : decode cX9_tryNext 170 = .ok (.aload_n 0, 1) := by decide +kernel
theorem dX9_tryNext_171 : decode cX9_tryNext 171 = .ok (.getfield 75, 3) := by decide +kernel
theorem dX9_tryNext_174 : decode cX9_tryNext 174 = .ok (.iload_n 1, 1) := by decide +kernel
theorem dX9_tryNext_175 : decode cX9_tryNext 175 = .ok (.iconst 1, 1) := by decide +kernel
theorem dX9_tryNext_176 : decode cX9_tryNext 176 = .ok (.bastore, 1) := by decide +kernel
theorem dX9_tryNext_177 : decode cX9_tryNext 177 = .ok (.aload_n 0, 1) := by decide +kernel
theorem dX9_tryNext_178 : decode cX9_tryNext 178 = .ok (.iload_n 1, 1) := by decide +kernel
theorem dX9_tryNext_179 : decode cX9_tryNext 179 = .ok (.invokevirtual 227, 3) := by decide +kernel
theorem dX9_tryNext_182 : decode cX9_tryNext 182 = .ok (.aload_n 0, 1) := by decide +kernel
theorem dX9_tryNext_183 : decode cX9_tryNext 183 = .ok (.iload_n 1, 1) := by decide +kernel
theorem dX9_tryNext_184 : decode cX9_tryNext 184 = .ok (.invokevirtual 285, 3) := by decide +kernel
theorem dX9_tryNext_187 : decode cX9_tryNext 187 = .ok (.iconst 1, 1) := by decide +kernel
theorem dX9_tryNext_188 : decode cX9_tryNext 188 = .ok (.ireturn, 1) := by decide +kernel
theorem dX9_tryNext_189 : decode cX9_tryNext 189 = .ok (.iconst 0, 1) := by decide +kernel
theorem dX9_tryNext_190 : decode cX9_tryNext 190 = .ok (.ireturn, 1) := by decide +kernel
theorem dX9_hasWon_0 : decode cX9_hasWon 0 = .ok (.aload_n 0, 1) := by decide +kernel
theorem dX9_hasWon_1 : decode cX9_hasWon 1 = .ok (.iload_n 1, 1) := by decide +kernel
theorem dX9_hasWon_2 : decode cX9_hasWon 2 = .ok (.putfield 282, 3) := by decide +kernel
theorem dX9_hasWon_5 : decode cX9_hasWon 5 = .ok (.aload_n 0, 1) := by decide +kernel
theorem dX9_hasWon_6 : decode cX9_hasWon 6 = .ok (.iload_n 2, 1) := by decide +kernel
theorem dX9_hasWon_7 : decode cX9_hasWon 7 = .ok (.putfield 272, 3) := by decide +kernel
theorem dX9_hasWon_10 : decode cX9_hasWon 10 = .ok (.aload_n 0, 1) := by decide +kernel
theorem dX9_hasWon_11 : decode cX9_hasWon 11 = .ok (.iconst 0, 1) := by decide +kernel
theorem dX9_hasWon_12 : decode cX9_hasWon 12 = .ok (.invokevirtual 279, 3) := by decide +kernel
theorem dX9_hasWon_15 : decode cX9_hasWon 15 = .ok (.aload_n 0, 1) := by decide +kernel
theorem dX9_hasWon_16 : decode cX9_hasWon 16 = .ok (.getfield 266, 3) := by decide +kernel
theorem dX9_hasWon_19 : decode cX9_hasWon 19 = .ok (.istore_n 3, 1) := by decide +kernel
theorem dX9_hasWon_20 : decode cX9_hasWon 20 = .ok (.aload_n 0, 1) := by decide +kernel
theorem dX9_hasWon_21 : decode cX9_hasWon 21 = .ok (.getfield 81, 3) := by decide +kernel
theorem dX9_hasWon_24 : decode cX9_hasWon 24 = .ok (.iload_n 3, 1) := by decide +kernel
theorem dX9_hasWon_25 : decode cX9_hasWon 25 = .ok (.baload, 1) := by decide +kernel
theorem dX9_hasWon_26 : decode cX9_hasWon 26 = .ok (.ifCond .ne 11, 3) := by decide +kernel
theorem dX9_hasWon_29 : decode cX9_hasWon 29 = .ok (.aload_n 0, 1) := by decide +kernel
theorem dX9_hasWon_30 : decode cX9_hasWon 30 = .ok (.iload_n 3, 1) := by decide +kernel
theorem dX9_hasWon_31 : decode cX9_hasWon 31 = .ok (.invokevirtual 288, 3) := by decide +kernel
theorem dX9_hasWon_34 : decode cX9_hasWon 34 = .ok (.ifCond .ne 39, 3) := by decide +kernel
theorem dX9_hasWon_37 : decode cX9_hasWon 37 = .ok (.iload_n 3, 1) := by decide +kernel
theorem dX9_hasWon_38 : decode cX9_hasWon 38 = .ok (.ifCond .ne 15, 3) := by decide +kernel
theorem dX9_hasWon_41 : decode cX9_hasWon 41 = .ok (.aload_n 0, 1) := by decide +kernel
theorem dX9_hasWon_42 : decode cX9_hasWon 42 = .ok (.iconst 0, 1) := by decide +kernel
theorem dX9_hasWon_43 : decode cX9_hasWon 43 = .ok (.invokevirtual 227, 3) := by decide +kernel
theorem dX9_hasWon_46 : decode cX9_hasWon 46 = .ok (.aload_n 0, 1) := by decide +kernel
theorem dX9_hasWon_47 : decode cX9_hasWon 47 = .ok (.getfield 78, 3) := by decide +kernel
theorem dX9_hasWon_50 : decode cX9_hasWon 50 = .ok (.iconst 0, 1) := by decide +kernel
theorem dX9_hasWon_51 : decode cX9_hasWon 51 = .ok (.baload, 1) := by decide +kernel
theorem dX9_hasWon_52 : decode cX9_hasWon 52 = .ok (.ireturn, 1) := by decide +kernel
theorem dX9_hasWon_53 : decode cX9_hasWon 53 = .ok (.aload_n 0, 1) := by decide +kernel
theorem dX9_hasWon_54 : decode cX9_hasWon 54 = .ok (.iload_n 3, 1) := by decide +kernel
theorem dX9_hasWon_55 : decode cX9_hasWon 55 = .ok (.iconst 1, 1) := by decide +kernel
theorem dX9_hasWon_56 : decode cX9_hasWon 56 = .ok (.isub, 1) := by decide +kernel
theorem dX9_hasWon_57 : decode cX9_hasWon 57 = .ok (.putfield 266, 3) := by decide +kernel
theorem dX9_hasWon_60 : decode cX9_hasWon 60 = .ok (.aload_n 0, 1) := by decide +kernel
theorem dX9_hasWon_61 : decode cX9_hasWon 61 = .ok (.iload_n 3, 1) := by decide +kernel
theorem dX9_hasWon_62 : decode cX9_hasWon 62 = .ok (.iconst 1, 1) := by decide +kernel
theorem dX9_hasWon_63 : decode cX9_hasWon 63 = .ok (.isub, 1) := by decide +kernel
theorem dX9_hasWon_64 : decode cX9_hasWon 64 = .ok (.aload_n 0, 1) := by decide +kernel
theorem dX9_hasWon_65 : decode cX9_hasWon 65 = .ok (.getfield 78, 3) := by decide +kernel
theorem dX9_hasWon_68 : decode cX9_hasWon 68 = .ok (.iload_n 3, 1) := by decide +kernel
theorem dX9_hasWon_69 : decode cX9_hasWon 69 = .ok (.baload, 1) := by decide +kernel
theorem dX9_hasWon_70 : decode cX9_hasWon 70 = .ok (.invokevirtual 275, 3) := by decide +kernel
theorem dX9_hasWon_73 : decode cX9_hasWon 73 = .ok (.goto (-58), 3) := by decide +kernel
theorem dX9_wonIn_0 : decode cX9_wonIn 0 = .ok (.iconst 1, 1) := by decide +kernel
theorem dX9_wonIn_1 : decode cX9_wonIn 1 = .ok (.istore_n 2, 1) := by decide +kernel
theorem dX9_wonIn_2 : decode cX9_wonIn 2 = .ok (.iload_n 2, 1) := by decide +kernel
theorem dX9_wonIn_3 : decode cX9_wonIn 3 = .ok (.iconst 5, 1) := by decide +kernel
theorem dX9_wonIn_4 : decode cX9_wonIn 4 = .ok (.if_icmp .ge 20, 3) := by decide +kernel
theorem dX9_wonIn_7 : decode cX9_wonIn 7 = .ok (.aload_n 0, 1) := by decide +kernel
theorem dX9_wonIn_8 : decode cX9_wonIn 8 = .ok (.iload_n 1, 1) := by decide +kernel
theorem dX9_wonIn_9 : decode cX9_wonIn 9 = .ok (.iload_n 2, 1) := by decide +kernel
theorem dX9_wonIn_10 : decode cX9_wonIn 10 = .ok (.invokevirtual 291, 3) := by decide +kernel
theorem dX9_wonIn_13 : decode cX9_wonIn 13 = .ok (.ifCond .eq 5, 3) := by decide +kernel
theorem dX9_wonIn_16 : decode cX9_wonIn 16 = .ok (.iload_n 2, 1) := by decide +kernel
theorem dX9_wonIn_17 : decode cX9_wonIn 17 = .ok (.ireturn, 1) := by decide +kernel
theorem dX9_wonIn_18 : decode cX9_wonIn 18 = .ok (.iinc 2 1, 3) := by decide +kernel
theorem dX9_wonIn_21 : decode cX9_wonIn 21 = .ok (.goto (-19), 3) := by decide +kernel
theorem dX9_wonIn_24 : decode cX9_wonIn 24 = .ok (.bipush (-9), 2) := by decide +kernel
theorem dX9_wonIn_26 : decode cX9_wonIn 26 = .ok (.ireturn, 1) := by decide +kernel
theorem dX9_won_0 : decode cX9_won 0 = .ok (.iload_n 1, 1) := by decide +kernel
theorem dX9_won_1 : decode cX9_won 1 = .ok (.i2l, 1) := by decide +kernel
theorem dX9_won_2 : decode cX9_won 2 = .ok (.lconst 0, 1) := by decide +kernel
theorem dX9_won_3 : decode cX9_won 3 = .ok (.lconst 1, 1) := by decide +kernel
theorem dX9_won_4 : decode cX9_won 4 = .ok (.invokestatic 142, 3) := by decide +kernel
theorem dX9_won_7 : decode cX9_won 7 = .ok (.ifCond .eq 11, 3) := by decide +kernel
theorem dX9_won_10 : decode cX9_won 10 = .ok (.aload_n 0, 1) := by decide +kernel
theorem dX9_won_11 : decode cX9_won 11 = .ok (.iload_n 1, 1) := by decide +kernel
theorem dX9_won_12 : decode cX9_won 12 = .ok (.invokevirtual 294, 3) := by decide +kernel
theorem dX9_won_15 : decode cX9_won 15 = .ok (.goto 4, 3) := by decide +kernel
theorem dX9_won_18 : decode cX9_won 18 = .ok (.iconst (-1), 1) := by decide +kernel
theorem dX9_won_19 : decode cX9_won 19 = .ok (.ireturn, 1) := by decide +kernel
theorem dX9_first_0 : decode cX9_first 0 = .ok (.iload_n 1, 1) := by decide +kernel
theorem dX9_first_1 : decode cX9_first 1 = .ok (.i2l, 1) := by decide +kernel
theorem dX9_first_2 : decode cX9_first 2 = .ok (.lconst 0, 1) := by decide +kernel
theorem dX9_first_3 : decode cX9_first 3 = .ok (.lconst 1, 1) := by decide +kernel
theorem dX9_first_4 : decode cX9_first 4 = .ok (.invokestatic 142, 3) := by decide +kernel
theorem dX9_first_7 : decode cX9_first 7 = .ok (.ifCond .ne 5, 3) := by decide +kernel
theorem dX9_first_10 : decode cX9_first 10 = .ok (.iconst (-1), 1) := by decide +kernel
theorem dX9_first_11 : decode cX9_first 11 = .ok (.ireturn, 1) := by decide +kernel
theorem dX9_first_12 : decode cX9_first 12 = .ok (.aload_n 0, 1) := by decide +kernel
theorem dX9_first_13 : decode cX9_first 13 = .ok (.iload_n 1, 1) := by decide +kernel
theorem dX9_first_14 : decode cX9_first 14 = .ok (.invokevirtual 294, 3) := by decide +kernel
theorem dX9_first_17 : decode cX9_first 17 = .ok (.ifCond .lt 12, 3) := by decide +kernel
theorem dX9_first_20 : decode cX9_first 20 = .ok (.aload_n 0, 1) := by decide +kernel
