theorem dX0_init_0 : decode cX0_init 0 = .ok (.aload_n 0, 1) := by decide +kernel
theorem dX0_init_1 : decode cX0_init 1 = .ok (.invokespecial 3, 3) := by decide +kernel
theorem dX0_init_4 : decode cX0_init 4 = .ok (.aload_n 0, 1) := by decide +kernel
theorem dX0_init_5 : decode cX0_init 5 = .ok (.bipush (-9), 2) := by decide +kernel
theorem dX0_init_7 : decode cX0_init 7 = .ok (.putfield 9, 3) := by decide +kernel
theorem dX0_init_10 : decode cX0_init 10 = .ok (.aload_n 0, 1) := by decide +kernel
theorem dX0_init_11 : decode cX0_init 11 = .ok (.aload_n 1, 1) := by decide +kernel
theorem dX0_init_12 : decode cX0_init 12 = .ok (.putfield 15, 3) := by decide +kernel
theorem dX0_init_15 : decode cX0_init 15 = .ok (.aload_n 0, 1) := by decide +kernel
theorem dX0_init_16 : decode cX0_init 16 = .ok (.aload_n 2, 1) := by decide +kernel
theorem dX0_init_17 : decode cX0_init 17 = .ok (.putfield 19, 3) := by decide +kernel
theorem dX0_init_20 : decode cX0_init 20 = .ok (.return_, 1) := by decide +kernel
theorem dX0_leastTurns_0 : decode cX0_leastTurns 0 = .ok (.iconst 1, 1) := by decide +kernel
theorem dX0_leastTurns_1 : decode cX0_leastTurns 1 = .ok (.istore 4, 2) := by decide +kernel
theorem dX0_leastTurns_3 : decode cX0_leastTurns 3 = .ok (.iload 4, 2) := by decide +kernel
theorem dX0_leastTurns_5 : decode cX0_leastTurns 5 = .ok (.iconst 4, 1) := by decide +kernel
theorem dX0_leastTurns_6 : decode cX0_leastTurns 6 = .ok (.if_icmp .gt 31, 3) := by decide +kernel
theorem dX0_leastTurns_9 : decode cX0_leastTurns 9 = .ok (.aload_n 0, 1) := by decide +kernel
theorem dX0_leastTurns_10 : decode cX0_leastTurns 10 = .ok (.aload_n 0, 1) := by decide +kernel
theorem dX0_leastTurns_11 : decode cX0_leastTurns 11 = .ok (.lload_n 1, 1) := by decide +kernel
theorem dX0_leastTurns_12 : decode cX0_leastTurns 12 = .ok (.iload_n 3, 1) := by decide +kernel
theorem dX0_leastTurns_13 : decode cX0_leastTurns 13 = .ok (.iload 4, 2) := by decide +kernel
theorem dX0_leastTurns_15 : decode cX0_leastTurns 15 = .ok (.invokevirtual 23, 3) := by decide +kernel
theorem dX0_leastTurns_18 : decode cX0_leastTurns 18 = .ok (.putfield 9, 3) := by decide +kernel
theorem dX0_leastTurns_21 : decode cX0_leastTurns 21 = .ok (.aload_n 0, 1) := by decide +kernel
theorem dX0_leastTurns_22 : decode cX0_leastTurns 22 = .ok (.getfield 9, 3) := by decide +kernel
theorem dX0_leastTurns_25 : decode cX0_leastTurns 25 = .ok (.ifCond .lt 6, 3) := by decide +kernel
theorem dX0_leastTurns_28 : decode cX0_leastTurns 28 = .ok (.iload 4, 2) := by decide +kernel
theorem dX0_leastTurns_30 : decode cX0_leastTurns 30 = .ok (.ireturn, 1) := by decide +kernel
theorem dX0_leastTurns_31 : decode cX0_leastTurns 31 = .ok (.iinc 4 1, 3) := by decide +kernel
theorem dX0_leastTurns_34 : decode cX0_leastTurns 34 = .ok (.goto (-31), 3) := by decide +kernel
theorem dX0_leastTurns_37 : decode cX0_leastTurns 37 = .ok (.bipush (-9), 2) := by decide +kernel
theorem dX0_leastTurns_39 : decode cX0_leastTurns 39 = .ok (.ireturn, 1) := by decide +kernel
theorem dX0_winningPush_0 : decode cX0_winningPush 0 = .ok (.iload 4, 2) := by decide +kernel
theorem dX0_winningPush_2 : decode cX0_winningPush 2 = .ok (.iconst 1, 1) := by decide +kernel
theorem dX0_winningPush_3 : decode cX0_winningPush 3 = .ok (.if_icmp .lt 9, 3) := by decide +kernel
theorem dX0_winningPush_6 : decode cX0_winningPush 6 = .ok (.iload 4, 2) := by decide +kernel
theorem dX0_winningPush_8 : decode cX0_winningPush 8 = .ok (.iconst 4, 1) := by decide +kernel
theorem dX0_winningPush_9 : decode cX0_winningPush 9 = .ok (.if_icmp .le 6, 3) := by decide +kernel
theorem dX0_winningPush_12 : decode cX0_winningPush 12 = .ok (.bipush (-9), 2) := by decide +kernel
theorem dX0_winningPush_14 : decode cX0_winningPush 14 = .ok (.ireturn, 1) := by decide +kernel
theorem dX0_winningPush_15 : decode cX0_winningPush 15 = .ok (.iconst 0, 1) := by decide +kernel
theorem dX0_winningPush_16 : decode cX0_winningPush 16 = .ok (.istore 5, 2) := by decide +kernel
theorem dX0_winningPush_18 : decode cX0_winningPush 18 = .ok (.iload 5, 2) := by decide +kernel
theorem dX0_winningPush_20 : decode cX0_winningPush 20 = .ok (.aload_n 0, 1) := by decide +kernel
theorem dX0_winningPush_21 : decode cX0_winningPush 21 = .ok (.getfield 15, 3) := by decide +kernel
theorem dX0_winningPush_24 : decode cX0_winningPush 24 = .ok (.getfield 27, 3) := by decide +kernel
theorem dX0_winningPush_27 : decode cX0_winningPush 27 = .ok (.if_icmp .ge 95, 3) := by decide +kernel
theorem dX0_winningPush_30 : decode cX0_winningPush 30 = .ok (.iconst 0, 1) := by decide +kernel
theorem dX0_winningPush_31 : decode cX0_winningPush 31 = .ok (.istore 6, 2) := by decide +kernel
theorem dX0_winningPush_33 : decode cX0_winningPush 33 = .ok (.iload 6, 2) := by decide +kernel
theorem dX0_winningPush_35 : decode cX0_winningPush 35 = .ok (.iconst 4, 1) := by decide +kernel
theorem dX0_winningPush_36 : decode cX0_winningPush 36 = .ok (.if_icmp .ge 80, 3) := by decide +kernel
theorem dX0_winningPush_39 : decode cX0_winningPush 39 = .ok (.aload_n 0, 1) := by decide +kernel
theorem dX0_winningPush_40 : decode cX0_winningPush 40 = .ok (.getfield 19, 3) := by decide +kernel
theorem dX0_winningPush_43 : decode cX0_winningPush 43 = .ok (.lload_n 1, 1) := by decide +kernel
theorem dX0_winningPush_44 : decode cX0_winningPush 44 = .ok (.iload 5, 2) := by decide +kernel
theorem dX0_winningPush_46 : decode cX0_winningPush 46 = .ok (.iload 6, 2) := by decide +kernel
theorem dX0_winningPush_48 : decode cX0_winningPush 48 = .ok (.invokevirtual 32, 3) := by decide +kernel
theorem dX0_winningPush_51 : decode cX0_winningPush 51 = .ok (.ifCond .ne 6, 3) := by decide +kernel
theorem dX0_winningPush_54 : decode cX0_winningPush 54 = .ok (.goto 56, 3) := by decide +kernel
theorem dX0_winningPush_57 : decode cX0_winningPush 57 = .ok (.aload_n 0, 1) := by decide +kernel
theorem dX0_winningPush_58 : decode cX0_winningPush 58 = .ok (.getfield 19, 3) := by decide +kernel
theorem dX0_winningPush_61 : decode cX0_winningPush 61 = .ok (.getfield 38, 3) := by decide +kernel
theorem dX0_winningPush_64 : decode cX0_winningPush 64 = .ok (.istore 7, 2) := by decide +kernel
theorem dX0_winningPush_66 : decode cX0_winningPush 66 = .ok (.iload 7, 2) := by decide +kernel
theorem dX0_winningPush_68 : decode cX0_winningPush 68 = .ok (.iload_n 3, 1) := by decide +kernel
theorem dX0_winningPush_69 : decode cX0_winningPush 69 = .ok (.if_icmp .eq 33, 3) := by decide +kernel
theorem dX0_winningPush_72 : decode cX0_winningPush 72 = .ok (.iload 7, 2) := by decide +kernel
theorem dX0_winningPush_74 : decode cX0_winningPush 74 = .ok (.ifCond .ge 36, 3) := by decide +kernel
theorem dX0_winningPush_77 : decode cX0_winningPush 77 = .ok (.iload 4, 2) := by decide +kernel
theorem dX0_winningPush_79 : decode cX0_winningPush 79 = .ok (.iconst 1, 1) := by decide +kernel
theorem dX0_winningPush_80 : decode cX0_winningPush 80 = .ok (.if_icmp .le 30, 3) := by decide +kernel
theorem dX0_winningPush_83 : decode cX0_winningPush 83 = .ok (.aload_n 0, 1) := by decide +kernel
theorem dX0_winningPush_84 : decode cX0_winningPush 84 = .ok (.aload_n 0, 1) := by decide +kernel
theorem dX0_winningPush_85 : decode cX0_winningPush 85 = .ok (.getfield 19, 3) := by decide +kernel
theorem dX0_winningPush_88 : decode cX0_winningPush 88 = .ok (.getfield 41, 3) := by decide +kernel
theorem dX0_winningPush_91 : decode cX0_winningPush 91 = .ok (.iload_n 3, 1) := by decide +kernel
theorem dX0_winningPush_92 : decode cX0_winningPush 92 = .ok (.iload 4, 2) := by decide +kernel
theorem dX0_winningPush_94 : decode cX0_winningPush 94 = .ok (.iconst 1, 1) := by decide +kernel
theorem dX0_winningPush_95 : decode cX0_winningPush 95 = .ok (.isub, 1) := by decide +kernel
theorem dX0_winningPush_96 : decode cX0_winningPush 96 = .ok (.invokevirtual 45, 3) := by decide +kernel
theorem dX0_winningPush_99 : decode cX0_winningPush 99 = .ok (.ifCond .eq 11, 3) := by decide +kernel
theorem dX0_winningPush_102 : decode cX0_winningPush 102 = .ok (.iload 5, 2) := by decide +kernel
theorem dX0_winningPush_104 : decode cX0_winningPush 104 = .ok (.iload 6, 2) := by decide +kernel
theorem dX0_winningPush_106 : decode cX0_winningPush 106 = .ok (.invokestatic 48, 3) := by decide +kernel
theorem dX0_winningPush_109 : decode cX0_winningPush 109 = .ok (.ireturn, 1) := by decide +kernel
theorem dX0_winningPush_110 : decode cX0_winningPush 110 = .ok (.iinc 6 1, 3) := by decide +kernel
theorem dX0_winningPush_113 : decode cX0_winningPush 113 = .ok (.goto (-80), 3) := by decide +kernel
theorem dX0_winningPush_116 : decode cX0_winningPush 116 = .ok (.iinc 5 1, 3) := by decide +kernel
theorem dX0_winningPush_119 : decode cX0_winningPush 119 = .ok (.goto (-101), 3) := by decide +kernel
theorem dX0_winningPush_122 : decode cX0_winningPush 122 = .ok (.bipush (-9), 2) := by decide +kernel
theorem dX0_winningPush_124 : decode cX0_winningPush 124 = .ok (.ireturn, 1) := by decide +kernel
theorem dX0_winsWhateverComes_0 : decode cX0_winsWhateverComes 0 = .ok (.iconst 0, 1) := by decide +kernel
theorem dX0_winsWhateverComes_1 : decode cX0_winsWhateverComes 1 = .ok (.istore 5, 2) := by decide +kernel
theorem dX0_winsWhateverComes_3 : decode cX0_winsWhateverComes 3 = .ok (.iconst 0, 1) := by decide +kernel
theorem dX0_winsWhateverComes_4 : decode cX0_winsWhateverComes 4 = .ok (.istore 6, 2) := by decide +kernel
theorem dX0_winsWhateverComes_6 : decode cX0_winsWhateverComes 6 = .ok (.iload 6, 2) := by decide +kernel
theorem dX0_winsWhateverComes_8 : decode cX0_winsWhateverComes 8 = .ok (.aload_n 0, 1) := by decide +kernel
theorem dX0_winsWhateverComes_9 : decode cX0_winsWhateverComes 9 = .ok (.getfield 15, 3) := by decide +kernel
theorem dX0_winsWhateverComes_12 : decode cX0_winsWhateverComes 12 = .ok (.getfield 27, 3) := by decide +kernel
theorem dX0_winsWhateverComes_15 : decode cX0_winsWhateverComes 15 = .ok (.if_icmp .ge 89, 3) := by decide +kernel
theorem dX0_winsWhateverComes_18 : decode cX0_winsWhateverComes 18 = .ok (.iconst 0, 1) := by decide +kernel
theorem dX0_winsWhateverComes_19 : decode cX0_winsWhateverComes 19 = .ok (.istore 7, 2) := by decide +kernel
theorem dX0_winsWhateverComes_21 : decode cX0_winsWhateverComes 21 = .ok (.iload 7, 2) := by decide +kernel
theorem dX0_winsWhateverComes_23 : decode cX0_winsWhateverComes 23 = .ok (.iconst 4, 1) := by decide +kernel
theorem dX0_winsWhateverComes_24 : decode cX0_winsWhateverComes 24 = .ok (.if_icmp .ge 74, 3) := by decide +kernel
theorem dX0_winsWhateverComes_27 : decode cX0_winsWhateverComes 27 = .ok (.aload_n 0, 1) := by decide +kernel
theorem dX0_winsWhateverComes_28 : decode cX0_winsWhateverComes 28 = .ok (.getfield 19, 3) := by decide +kernel
theorem dX0_winsWhateverComes_31 : decode cX0_winsWhateverComes 31 = .ok (.lload_n 1, 1) := by decide +kernel
theorem dX0_winsWhateverComes_32 : decode cX0_winsWhateverComes 32 = .ok (.iload 6, 2) := by decide +kernel
theorem dX0_winsWhateverComes_34 : decode cX0_winsWhateverComes 34 = .ok (.iload 7, 2) := by decide +kernel
theorem dX0_winsWhateverComes_36 : decode cX0_winsWhateverComes 36 = .ok (.invokevirtual 32, 3) := by decide +kernel
theorem dX0_winsWhateverComes_39 : decode cX0_winsWhateverComes 39 = .ok (.ifCond .ne 6, 3) := by decide +kernel
theorem dX0_winsWhateverComes_42 : decode cX0_winsWhateverComes 42 = .ok (.goto 50, 3) := by decide +kernel
theorem dX0_winsWhateverComes_45 : decode cX0_winsWhateverComes 45 = .ok (.iconst 1, 1) := by decide +kernel
theorem dX0_winsWhateverComes_46 : decode cX0_winsWhateverComes 46 = .ok (.istore 5, 2) := by decide +kernel
theorem dX0_winsWhateverComes_48 : decode cX0_winsWhateverComes 48 = .ok (.aload_n 0, 1) := by decide +kernel
theorem dX0_winsWhateverComes_49 : decode cX0_winsWhateverComes 49 = .ok (.getfield 19, 3) := by decide +kernel
theorem dX0_winsWhateverComes_52 : decode cX0_winsWhateverComes 52 = .ok (.getfield 38, 3) := by decide +kernel
theorem dX0_winsWhateverComes_55 : decode cX0_winsWhateverComes 55 = .ok (.istore 8, 2) := by decide +kernel
theorem dX0_winsWhateverComes_57 : decode cX0_winsWhateverComes 57 = .ok (.iload 8, 2) := by decide +kernel
theorem dX0_winsWhateverComes_59 : decode cX0_winsWhateverComes 59 = .ok (.iload_n 3, 1) := by decide +kernel
theorem dX0_winsWhateverComes_60 : decode cX0_winsWhateverComes 60 = .ok (.if_icmp .ne 6, 3) := by decide +kernel
theorem dX0_winsWhateverComes_63 : decode cX0_winsWhateverComes 63 = .ok (.goto 29, 3) := by decide +kernel
theorem dX0_winsWhateverComes_66 : decode cX0_winsWhateverComes 66 = .ok (.iload 8, 2) := by decide +kernel
theorem dX0_winsWhateverComes_68 : decode cX0_winsWhateverComes 68 = .ok (.ifCond .ge 22, 3) := by decide +kernel
theorem dX0_winsWhateverComes_71 : decode cX0_winsWhateverComes 71 = .ok (.aload_n 0, 1) := by decide +kernel
theorem dX0_winsWhateverComes_72 : decode cX0_winsWhateverComes 72 = .ok (.aload_n 0, 1) := by decide +kernel
theorem dX0_winsWhateverComes_73 : decode cX0_winsWhateverComes 73 = .ok (.getfield 19, 3) := by decide +kernel
theorem dX0_winsWhateverComes_76 : decode cX0_winsWhateverComes 76 = .ok (.getfield 41, 3) := by decide +kernel
theorem dX0_winsWhateverComes_79 : decode cX0_winsWhateverComes 79 = .ok (.iload_n 3, 1) := by decide +kernel
theorem dX0_winsWhateverComes_80 : decode cX0_winsWhateverComes 80 = .ok (.iload 4, 2) := by decide +kernel
theorem dX0_winsWhateverComes_82 : decode cX0_winsWhateverComes 82 = .ok (.iconst 1, 1) := by decide +kernel
theorem dX0_winsWhateverComes_83 : decode cX0_winsWhateverComes 83 = .ok (.isub, 1) := by decide +kernel
theorem dX0_winsWhateverComes_84 : decode cX0_winsWhateverComes 84 = .ok (.invokevirtual 23, 3) := by decide +kernel
theorem dX0_winsWhateverComes_87 : decode cX0_winsWhateverComes 87 = .ok (.ifCond .ge 5, 3) := by decide +kernel
theorem dX0_winsWhateverComes_90 : decode cX0_winsWhateverComes 90 = .ok (.iconst 0, 1) := by decide +kernel
theorem dX0_winsWhateverComes_91 : decode cX0_winsWhateverComes 91 = .ok (.ireturn, 1) := by decide +kernel
theorem dX0_winsWhateverComes_92 : decode cX0_winsWhateverComes 92 = .ok (.iinc 7 1, 3) := by decide +kernel
theorem dX0_winsWhateverComes_95 : decode cX0_winsWhateverComes 95 = .ok (.goto (-74), 3) := by decide +kernel
theorem dX0_winsWhateverComes_98 : decode cX0_winsWhateverComes 98 = .ok (.iinc 6 1, 3) := by decide +kernel
theorem dX0_winsWhateverComes_101 : decode cX0_winsWhateverComes 101 = .ok (.goto (-95), 3) := by decide +kernel
theorem dX0_winsWhateverComes_104 : decode cX0_winsWhateverComes 104 = .ok (.iload 5, 2) := by decide +kernel
theorem dX0_winsWhateverComes_106 : decode cX0_winsWhateverComes 106 = .ok (.ireturn, 1) := by decide +kernel
theorem dX1_init_0 : decode cX1_init 0 = .ok (.aload_n 0, 1) := by decide +kernel
theorem dX1_init_1 : decode cX1_init 1 = .ok (.invokespecial 3, 3) := by decide +kernel
theorem dX1_init_4 : decode cX1_init 4 = .ok (.aload_n 0, 1) := by decide +kernel
theorem dX1_init_5 : decode cX1_init 5 = .ok (.bipush 6, 2) := by decide +kernel
theorem dX1_init_7 : decode cX1_init 7 = .ok (.newarray .int, 2) := by decide +kernel
theorem dX1_init_9 : decode cX1_init 9 = .ok (.putfield 9, 3) := by decide +kernel
theorem dX1_init_12 : decode cX1_init 12 = .ok (.aload_n 0, 1) := by decide +kernel
theorem dX1_init_13 : decode cX1_init 13 = .ok (.bipush 6, 2) := by decide +kernel
theorem dX1_init_15 : decode cX1_init 15 = .ok (.newarray .int, 2) := by decide +kernel
theorem dX1_init_17 : decode cX1_init 17 = .ok (.putfield 15, 3) := by decide +kernel
theorem dX1_init_20 : decode cX1_init 20 = .ok (.aload_n 0, 1) := by decide +kernel
theorem dX1_init_21 : decode cX1_init 21 = .ok (.iconst 4, 1) := by decide +kernel
theorem dX1_init_22 : decode cX1_init 22 = .ok (.newarray .int, 2) := by decide +kernel
theorem dX1_init_24 : decode cX1_init 24 = .ok (.putfield 18, 3) := by decide +kernel
theorem dX1_init_27 : decode cX1_init 27 = .ok (.aload_n 0, 1) := by decide +kernel
theorem dX1_init_28 : decode cX1_init 28 = .ok (.sipush 144, 3) := by decide +kernel
theorem dX1_init_31 : decode cX1_init 31 = .ok (.newarray .int, 2) := by decide +kernel
theorem dX1_init_33 : decode cX1_init 33 = .ok (.putfield 21, 3) := by decide +kernel
theorem dX1_init_36 : decode cX1_init 36 = .ok (.return_, 1) := by decide +kernel
theorem dX1_cells_0 : decode cX1_cells 0 = .ok (.aload_n 0, 1) := by decide +kernel
theorem dX1_cells_1 : decode cX1_cells 1 = .ok (.getfield 24, 3) := by decide +kernel
theorem dX1_cells_4 : decode cX1_cells 4 = .ok (.aload_n 0, 1) := by decide +kernel
theorem dX1_cells_5 : decode cX1_cells 5 = .ok (.getfield 28, 3) := by decide +kernel
theorem dX1_cells_8 : decode cX1_cells 8 = .ok (.imul, 1) := by decide +kernel
theorem dX1_cells_9 : decode cX1_cells 9 = .ok (.ireturn, 1) := by decide +kernel
theorem dX1_hasBlock_0 : decode cX1_hasBlock 0 = .ok (.iload_n 1, 1) := by decide +kernel
theorem dX1_hasBlock_1 : decode cX1_hasBlock 1 = .ok (.ifCond .lt 21, 3) := by decide +kernel
theorem dX1_hasBlock_4 : decode cX1_hasBlock 4 = .ok (.iload_n 1, 1) := by decide +kernel
theorem dX1_hasBlock_5 : decode cX1_hasBlock 5 = .ok (.aload_n 0, 1) := by decide +kernel
theorem dX1_hasBlock_6 : decode cX1_hasBlock 6 = .ok (.getfield 31, 3) := by decide +kernel
theorem dX1_hasBlock_9 : decode cX1_hasBlock 9 = .ok (.if_icmp .ge 13, 3) := by decide +kernel
theorem dX1_hasBlock_12 : decode cX1_hasBlock 12 = .ok (.iload_n 1, 1) := by decide +kernel
theorem dX1_hasBlock_13 : decode cX1_hasBlock 13 = .ok (.bipush 6, 2) := by decide +kernel
theorem dX1_hasBlock_15 : decode cX1_hasBlock 15 = .ok (.if_icmp .ge 7, 3) := by decide +kernel
theorem dX1_hasBlock_18 : decode cX1_hasBlock 18 = .ok (.iconst 1, 1) := by decide +kernel
theorem dX1_hasBlock_19 : decode cX1_hasBlock 19 = .ok (.goto 4, 3) := by decide +kernel
theorem dX1_hasBlock_22 : decode cX1_hasBlock 22 = .ok (.iconst 0, 1) := by decide +kernel
theorem dX1_hasBlock_23 : decode cX1_hasBlock 23 = .ok (.ireturn, 1) := by decide +kernel
theorem dX1_kindOf_0 : decode cX1_kindOf 0 = .ok (.aload_n 0, 1) := by decide +kernel
theorem dX1_kindOf_1 : decode cX1_kindOf 1 = .ok (.iload_n 1, 1) := by decide +kernel
theorem dX1_kindOf_2 : decode cX1_kindOf 2 = .ok (.invokevirtual 34, 3) := by decide +kernel
theorem dX1_kindOf_5 : decode cX1_kindOf 5 = .ok (.ifCond .eq 12, 3) := by decide +kernel
theorem dX1_kindOf_8 : decode cX1_kindOf 8 = .ok (.aload_n 0, 1) := by decide +kernel
theorem dX1_kindOf_9 : decode cX1_kindOf 9 = .ok (.getfield 9, 3) := by decide +kernel
theorem dX1_kindOf_12 : decode cX1_kindOf 12 = .ok (.iload_n 1, 1) := by decide +kernel
theorem dX1_kindOf_13 : decode cX1_kindOf 13 = .ok (.iaload, 1) := by decide +kernel
theorem dX1_kindOf_14 : decode cX1_kindOf 14 = .ok (.goto 4, 3) := by decide +kernel
theorem dX1_kindOf_17 : decode cX1_kindOf 17 = .ok (.iconst 0, 1) := by decide +kernel
theorem dX1_kindOf_18 : decode cX1_kindOf 18 = .ok (.ireturn, 1) := by decide +kernel
theorem dX1_startOf_0 : decode cX1_startOf 0 = .ok (.aload_n 0, 1) := by decide +kernel
theorem dX1_startOf_1 : decode cX1_startOf 1 = .ok (.iload_n 1, 1) := by decide +kernel
theorem dX1_startOf_2 : decode cX1_startOf 2 = .ok (.invokevirtual 34, 3) := by decide +kernel
theorem dX1_startOf_5 : decode cX1_startOf 5 = .ok (.ifCond .eq 12, 3) := by decide +kernel
theorem dX1_startOf_8 : decode cX1_startOf 8 = .ok (.aload_n 0, 1) := by decide +kernel
theorem dX1_startOf_9 : decode cX1_startOf 9 = .ok (.getfield 15, 3) := by decide +kernel
theorem dX1_startOf_12 : decode cX1_startOf 12 = .ok (.iload_n 1, 1) := by decide +kernel
theorem dX1_startOf_13 : decode cX1_startOf 13 = .ok (.iaload, 1) := by decide +kernel
theorem dX1_startOf_14 : decode cX1_startOf 14 = .ok (.goto 4, 3) := by decide +kernel
theorem dX1_startOf_17 : decode cX1_startOf 17 = .ok (.iconst 0, 1) := by decide +kernel
theorem dX1_startOf_18 : decode cX1_startOf 18 = .ok (.ireturn, 1) := by decide +kernel
theorem dX1_wayFrom_0 : decode cX1_wayFrom 0 = .ok (.iload_n 1, 1) := by decide +kernel
theorem dX1_wayFrom_1 : decode cX1_wayFrom 1 = .ok (.iconst 4, 1) := by decide +kernel
theorem dX1_wayFrom_2 : decode cX1_wayFrom 2 = .ok (.imul, 1) := by decide +kernel
theorem dX1_wayFrom_3 : decode cX1_wayFrom 3 = .ok (.iload_n 2, 1) := by decide +kernel
theorem dX1_wayFrom_4 : decode cX1_wayFrom 4 = .ok (.iadd, 1) := by decide +kernel
theorem dX1_wayFrom_5 : decode cX1_wayFrom 5 = .ok (.istore_n 3, 1) := by decide +kernel
theorem dX1_wayFrom_6 : decode cX1_wayFrom 6 = .ok (.iload_n 3, 1) := by decide +kernel
theorem dX1_wayFrom_7 : decode cX1_wayFrom 7 = .ok (.ifCond .lt 12, 3) := by decide +kernel
theorem dX1_wayFrom_10 : decode cX1_wayFrom 10 = .ok (.iload_n 3, 1) := by decide +kernel
theorem dX1_wayFrom_11 : decode cX1_wayFrom 11 = .ok (.aload_n 0, 1) := by decide +kernel
theorem dX1_wayFrom_12 : decode cX1_wayFrom 12 = .ok (.getfield 21, 3) := by decide +kernel
theorem dX1_wayFrom_15 : decode cX1_wayFrom 15 = .ok (.arraylength, 1) := by decide +kernel
theorem dX1_wayFrom_16 : decode cX1_wayFrom 16 = .ok (.if_icmp .lt 7, 3) := by decide +kernel
theorem dX1_wayFrom_19 : decode cX1_wayFrom 19 = .ok (.iconst (-1), 1) := by decide +kernel
theorem dX1_wayFrom_20 : decode cX1_wayFrom 20 = .ok (.goto 9, 3) := by decide +kernel
theorem dX1_wayFrom_23 : decode cX1_wayFrom 23 = .ok (.aload_n 0, 1) := by decide +kernel
theorem dX1_wayFrom_24 : decode cX1_wayFrom 24 = .ok (.getfield 21, 3) := by decide +kernel
theorem dX1_wayFrom_27 : decode cX1_wayFrom 27 = .ok (.iload_n 3, 1) := by decide +kernel
theorem dX1_wayFrom_28 : decode cX1_wayFrom 28 = .ok (.iaload, 1) := by decide +kernel
theorem dX1_wayFrom_29 : decode cX1_wayFrom 29 = .ok (.ireturn, 1) := by decide +kernel
theorem dX1_lay_0 : decode cX1_lay 0 = .ok (.aload_n 0, 1) := by decide +kernel
theorem dX1_lay_1 : decode cX1_lay 1 = .ok (.aload_n 1, 1) := by decide +kernel
theorem dX1_lay_2 : decode cX1_lay 2 = .ok (.iload_n 2, 1) := by decide +kernel
theorem dX1_lay_3 : decode cX1_lay 3 = .ok (.iconst 1, 1) := by decide +kernel
theorem dX1_lay_4 : decode cX1_lay 4 = .ok (.iadd, 1) := by decide +kernel
theorem dX1_lay_5 : decode cX1_lay 5 = .ok (.invokevirtual 38, 3) := by decide +kernel
theorem dX1_lay_8 : decode cX1_lay 8 = .ok (.bipush 48, 2) := by decide +kernel
theorem dX1_lay_10 : decode cX1_lay 10 = .ok (.isub, 1) := by decide +kernel
theorem dX1_lay_11 : decode cX1_lay 11 = .ok (.putfield 24, 3) := by decide +kernel
theorem dX1_lay_14 : decode cX1_lay 14 = .ok (.aload_n 0, 1) := by decide +kernel
theorem dX1_lay_15 : decode cX1_lay 15 = .ok (.aload_n 1, 1) := by decide +kernel
theorem dX1_lay_16 : decode cX1_lay 16 = .ok (.iload_n 2, 1) := by decide +kernel
theorem dX1_lay_17 : decode cX1_lay 17 = .ok (.iconst 2, 1) := by decide +kernel
theorem dX1_lay_18 : decode cX1_lay 18 = .ok (.iadd, 1) := by decide +kernel
theorem dX1_lay_19 : decode cX1_lay 19 = .ok (.invokevirtual 38, 3) := by decide +kernel
theorem dX1_lay_22 : decode cX1_lay 22 = .ok (.bipush 48, 2) := by decide +kernel
theorem dX1_lay_24 : decode cX1_lay 24 = .ok (.isub, 1) := by decide +kernel
theorem dX1_lay_25 : decode cX1_lay 25 = .ok (.putfield 28, 3) := by decide +kernel
theorem dX1_lay_28 : decode cX1_lay 28 = .ok (.aload_n 0, 1) := by decide +kernel
theorem dX1_lay_29 : decode cX1_lay 29 = .ok (.iconst 0, 1) := by decide +kernel
theorem dX1_lay_30 : decode cX1_lay 30 = .ok (.putfield 31, 3) := by decide +kernel
theorem dX1_lay_33 : decode cX1_lay 33 = .ok (.aload_n 0, 1) := by decide +kernel
theorem dX1_lay_34 : decode cX1_lay 34 = .ok (.iconst 0, 1) := by decide +kernel
theorem dX1_lay_35 : decode cX1_lay 35 = .ok (.putfield 44, 3) := by decide +kernel
theorem dX1_lay_38 : decode cX1_lay 38 = .ok (.aload_n 0, 1) := by decide +kernel
theorem dX1_lay_39 : decode cX1_lay 39 = .ok (.lconst 0, 1) := by decide +kernel
theorem dX1_lay_40 : decode cX1_lay 40 = .ok (.putfield 47, 3) := by decide +kernel
theorem dX1_lay_43 : decode cX1_lay 43 = .ok (.aload_n 0, 1) := by decide +kernel
theorem dX1_lay_44 : decode cX1_lay 44 = .ok (.lconst 0, 1) := by decide +kernel
theorem dX1_lay_45 : decode cX1_lay 45 = .ok (.putfield 51, 3) := by decide +kernel
theorem dX1_lay_48 : decode cX1_lay 48 = .ok (.aload_n 0, 1) := by decide +kernel
theorem dX1_lay_49 : decode cX1_lay 49 = .ok (.lconst 0, 1) := by decide +kernel
theorem dX1_lay_50 : decode cX1_lay 50 = .ok (.putfield 54, 3) := by decide +kernel
theorem dX1_lay_53 : decode cX1_lay 53 = .ok (.aload_n 0, 1) := by decide +kernel
theorem dX1_lay_54 : decode cX1_lay 54 = .ok (.lconst 0, 1) := by decide +kernel
theorem dX1_lay_55 : decode cX1_lay 55 = .ok (.putfield 57, 3) := by decide +kernel
theorem dX1_lay_58 : decode cX1_lay 58 = .ok (.aload_n 0, 1) := by decide +kernel
theorem dX1_lay_59 : decode cX1_lay 59 = .ok (.lconst 0, 1) := by decide +kernel
theorem dX1_lay_60 : decode cX1_lay 60 = .ok (.putfield 60, 3) := by decide +kernel
theorem dX1_lay_63 : decode cX1_lay 63 = .ok (.iconst 0, 1) := by decide +kernel
theorem dX1_lay_64 : decode cX1_lay 64 = .ok (.istore 4, 2) := by decide +kernel
theorem dX1_lay_66 : decode cX1_lay 66 = .ok (.iconst 3, 1) := by decide +kernel
theorem dX1_lay_67 : decode cX1_lay 67 = .ok (.istore 5, 2) := by decide +kernel
theorem dX1_lay_69 : decode cX1_lay 69 = .ok (.iload 5, 2) := by decide +kernel
theorem dX1_lay_71 : decode cX1_lay 71 = .ok (.iload_n 3, 1) := by decide +kernel
theorem dX1_lay_72 : decode cX1_lay 72 = .ok (.if_icmp .ge 38, 3) := by decide +kernel
theorem dX1_lay_75 : decode cX1_lay 75 = .ok (.iload 5, 2) := by decide +kernel
theorem dX1_lay_77 : decode cX1_lay 77 = .ok (.aload_n 0, 1) := by decide +kernel
theorem dX1_lay_78 : decode cX1_lay 78 = .ok (.getfield 28, 3) := by decide +kernel
theorem dX1_lay_81 : decode cX1_lay 81 = .ok (.invokestatic 65, 3) := by decide +kernel
theorem dX1_lay_84 : decode cX1_lay 84 = .ok (.ifCond .ne 20, 3) := by decide +kernel
theorem dX1_lay_87 : decode cX1_lay 87 = .ok (.aload_n 0, 1) := by decide +kernel
theorem dX1_lay_88 : decode cX1_lay 88 = .ok (.iload 4, 2) := by decide +kernel
theorem dX1_lay_90 : decode cX1_lay 90 = .ok (.aload_n 1, 1) := by decide +kernel
theorem dX1_lay_91 : decode cX1_lay 91 = .ok (.iload_n 2, 1) := by decide +kernel
theorem dX1_lay_92 : decode cX1_lay 92 = .ok (.iload 5, 2) := by decide +kernel
theorem dX1_lay_94 : decode cX1_lay 94 = .ok (.iadd, 1) := by decide +kernel
theorem dX1_lay_95 : decode cX1_lay 95 = .ok (.invokevirtual 38, 3) := by decide +kernel
theorem dX1_lay_98 : decode cX1_lay 98 = .ok (.invokevirtual 69, 3) := by decide +kernel
theorem dX1_lay_101 : decode cX1_lay 101 = .ok (.iinc 4 1, 3) := by decide +kernel
theorem dX1_lay_104 : decode cX1_lay 104 = .ok (.iinc 5 1, 3) := by decide +kernel
theorem dX1_lay_107 : decode cX1_lay 107 = .ok (.goto (-38), 3) := by decide +kernel
theorem dX1_lay_110 : decode cX1_lay 110 = .ok (.aload_n 0, 1) := by decide +kernel
theorem dX1_lay_111 : decode cX1_lay 111 = .ok (.invokevirtual 73, 3) := by decide +kernel
theorem dX1_lay_114 : decode cX1_lay 114 = .ok (.return_, 1) := by decide +kernel
theorem dX1_layCell_0 : decode cX1_layCell 0 = .ok (.lconst 1, 1) := by decide +kernel
theorem dX1_layCell_1 : decode cX1_layCell 1 = .ok (.iload_n 1, 1) := by decide +kernel
theorem dX1_layCell_2 : decode cX1_layCell 2 = .ok (.lshl, 1) := by decide +kernel
theorem dX1_layCell_3 : decode cX1_layCell 3 = .ok (.lstore_n 3, 1) := by decide +kernel
theorem dX1_layCell_4 : decode cX1_layCell 4 = .ok (.iload_n 2, 1) := by decide +kernel
theorem dX1_layCell_5 : decode cX1_layCell 5 = .ok (.lookupswitch 111 #[(35, 51), (97, 77), (98, 90), (99, 103), (115, 64)], 51) := by decide +kernel
theorem dX1_layCell_56 : decode cX1_layCell 56 = .ok (.aload_n 0, 1) := by decide +kernel
theorem dX1_layCell_57 : decode cX1_layCell 57 = .ok (.dup, 1) := by decide +kernel
theorem dX1_layCell_58 : decode cX1_layCell 58 = .ok (.getfield 47, 3) := by decide +kernel
theorem dX1_layCell_61 : decode cX1_layCell 61 = .ok (.lload_n 3, 1) := by decide +kernel
theorem dX1_layCell_62 : decode cX1_layCell 62 = .ok (.lor, 1) := by decide +kernel
theorem dX1_layCell_63 : decode cX1_layCell 63 = .ok (.putfield 47, 3) := by decide +kernel
theorem dX1_layCell_66 : decode cX1_layCell 66 = .ok (.goto 69, 3) := by decide +kernel
theorem dX1_layCell_69 : decode cX1_layCell 69 = .ok (.aload_n 0, 1) := by decide +kernel
theorem dX1_layCell_70 : decode cX1_layCell 70 = .ok (.dup, 1) := by decide +kernel
theorem dX1_layCell_71 : decode cX1_layCell 71 = .ok (.getfield 51, 3) := by decide +kernel
theorem dX1_layCell_74 : decode cX1_layCell 74 = .ok (.lload_n 3, 1) := by decide +kernel
theorem dX1_layCell_75 : decode cX1_layCell 75 = .ok (.lor, 1) := by decide +kernel
theorem dX1_layCell_76 : decode cX1_layCell 76 = .ok (.putfield 51, 3) := by decide +kernel
theorem dX1_layCell_79 : decode cX1_layCell 79 = .ok (.goto 56, 3) := by decide +kernel
theorem dX1_layCell_82 : decode cX1_layCell 82 = .ok (.aload_n 0, 1) := by decide +kernel
theorem dX1_layCell_83 : decode cX1_layCell 83 = .ok (.dup, 1) := by decide +kernel
theorem dX1_layCell_84 : decode cX1_layCell 84 = .ok (.getfield 54, 3) := by decide +kernel
theorem dX1_layCell_87 : decode cX1_layCell 87 = .ok (.lload_n 3, 1) := by decide +kernel
theorem dX1_layCell_88 : decode cX1_layCell 88 = .ok (.lor, 1) := by decide +kernel
theorem dX1_layCell_89 : decode cX1_layCell 89 = .ok (.putfield 54, 3) := by decide +kernel
theorem dX1_layCell_92 : decode cX1_layCell 92 = .ok (.goto 43, 3) := by decide +kernel
theorem dX1_layCell_95 : decode cX1_layCell 95 = .ok (.aload_n 0, 1) := by decide +kernel
theorem dX1_layCell_96 : decode cX1_layCell 96 = .ok (.dup, 1) := by decide +kernel
theorem dX1_layCell_97 : decode cX1_layCell 97 = .ok (.getfield 57, 3) := by decide +kernel
theorem dX1_layCell_100 : decode cX1_layCell 100 = .ok (.lload_n 3, 1) := by decide +kernel
theorem dX1_layCell_101 : decode cX1_layCell 101 = .ok (.lor, 1) := by decide +kernel
theorem dX1_layCell_102 : decode cX1_layCell 102 = .ok (.putfield 57, 3) := by decide +kernel
theorem dX1_layCell_105 : decode cX1_layCell 105 = .ok (.goto 30, 3) := by decide +kernel
theorem dX1_layCell_108 : decode cX1_layCell 108 = .ok (.aload_n 0, 1) := by decide +kernel
theorem dX1_layCell_109 : decode cX1_layCell 109 = .ok (.iload_n 1, 1) := by decide +kernel
theorem dX1_layCell_110 : decode cX1_layCell 110 = .ok (.invokevirtual 76, 3) := by decide +kernel
theorem dX1_layCell_113 : decode cX1_layCell 113 = .ok (.goto 22, 3) := by decide +kernel
theorem dX1_layCell_116 : decode cX1_layCell 116 = .ok (.aload_n 0, 1) := by decide +kernel
theorem dX1_layCell_117 : decode cX1_layCell 117 = .ok (.dup, 1) := by decide +kernel
theorem dX1_layCell_118 : decode cX1_layCell 118 = .ok (.getfield 60, 3) := by decide +kernel
theorem dX1_layCell_121 : decode cX1_layCell 121 = .ok (.lload_n 3, 1) := by decide +kernel
theorem dX1_layCell_122 : decode cX1_layCell 122 = .ok (.lor, 1) := by decide +kernel
theorem dX1_layCell_123 : decode cX1_layCell 123 = .ok (.putfield 60, 3) := by decide +kernel
theorem dX1_layCell_126 : decode cX1_layCell 126 = .ok (.aload_n 0, 1) := by decide +kernel
theorem dX1_layCell_127 : decode cX1_layCell 127 = .ok (.iload_n 1, 1) := by decide +kernel
theorem dX1_layCell_128 : decode cX1_layCell 128 = .ok (.iload_n 2, 1) := by decide +kernel
theorem dX1_layCell_129 : decode cX1_layCell 129 = .ok (.invokestatic 80, 3) := by decide +kernel
theorem dX1_layCell_132 : decode cX1_layCell 132 = .ok (.invokevirtual 83, 3) := by decide +kernel
theorem dX1_layCell_135 : decode cX1_layCell 135 = .ok (.return_, 1) := by decide +kernel
theorem dX1_layCrack_0 : decode cX1_layCrack 0 = .ok (.aload_n 0, 1) := by decide +kernel
theorem dX1_layCrack_1 : decode cX1_layCrack 1 = .ok (.getfield 44, 3) := by decide +kernel
theorem dX1_layCrack_4 : decode cX1_layCrack 4 = .ok (.iconst 4, 1) := by decide +kernel
theorem dX1_layCrack_5 : decode cX1_layCrack 5 = .ok (.if_icmp .ge 23, 3) := by decide +kernel
theorem dX1_layCrack_8 : decode cX1_layCrack 8 = .ok (.aload_n 0, 1) := by decide +kernel
theorem dX1_layCrack_9 : decode cX1_layCrack 9 = .ok (.getfield 18, 3) := by decide +kernel
theorem dX1_layCrack_12 : decode cX1_layCrack 12 = .ok (.aload_n 0, 1) := by decide +kernel
theorem dX1_layCrack_13 : decode cX1_layCrack 13 = .ok (.getfield 44, 3) := by decide +kernel
theorem dX1_layCrack_16 : decode cX1_layCrack 16 = .ok (.iload_n 1, 1) := by decide +kernel
theorem dX1_layCrack_17 : decode cX1_layCrack 17 = .ok (.iastore, 1) := by decide +kernel
theorem dX1_layCrack_18 : decode cX1_layCrack 18 = .ok (.aload_n 0, 1) := by decide +kernel
theorem dX1_layCrack_19 : decode cX1_layCrack 19 = .ok (.dup, 1) := by decide +kernel
theorem dX1_layCrack_20 : decode cX1_layCrack 20 = .ok (.getfield 44, 3) := by decide +kernel
theorem dX1_layCrack_23 : decode cX1_layCrack 23 = .ok (.iconst 1, 1) := by decide +kernel
theorem dX1_layCrack_24 : decode cX1_layCrack 24 = .ok (.iadd, 1) := by decide +kernel
theorem dX1_layCrack_25 : decode cX1_layCrack 25 = .ok (.putfield 44, 3) := by decide +kernel
theorem dX1_layCrack_28 : decode cX1_layCrack 28 = .ok (.return_, 1) := by decide +kernel
theorem dX1_layBlock_0 : decode cX1_layBlock 0 = .ok (.iload_n 2, 1) := by decide +kernel
theorem dX1_layBlock_1 : decode cX1_layBlock 1 = .ok (.ifCond .lt 42, 3) := by decide +kernel
theorem dX1_layBlock_4 : decode cX1_layBlock 4 = .ok (.aload_n 0, 1) := by decide +kernel
theorem dX1_layBlock_5 : decode cX1_layBlock 5 = .ok (.getfield 31, 3) := by decide +kernel
theorem dX1_layBlock_8 : decode cX1_layBlock 8 = .ok (.bipush 6, 2) := by decide +kernel
theorem dX1_layBlock_10 : decode cX1_layBlock 10 = .ok (.if_icmp .ge 33, 3) := by decide +kernel
theorem dX1_layBlock_13 : decode cX1_layBlock 13 = .ok (.aload_n 0, 1) := by decide +kernel
theorem dX1_layBlock_14 : decode cX1_layBlock 14 = .ok (.getfield 9, 3) := by decide +kernel
theorem dX1_layBlock_17 : decode cX1_layBlock 17 = .ok (.aload_n 0, 1) := by decide +kernel
theorem dX1_layBlock_18 : decode cX1_layBlock 18 = .ok (.getfield 31, 3) := by decide +kernel
theorem dX1_layBlock_21 : decode cX1_layBlock 21 = .ok (.iload_n 2, 1) := by decide +kernel
theorem dX1_layBlock_22 : decode cX1_layBlock 22 = .ok (.iastore, 1) := by decide +kernel
theorem dX1_layBlock_23 : decode cX1_layBlock 23 = .ok (.aload_n 0, 1) := by decide +kernel
theorem dX1_layBlock_24 : decode cX1_layBlock 24 = .ok (.getfield 15, 3) := by decide +kernel
theorem dX1_layBlock_27 : decode cX1_layBlock 27 = .ok (.aload_n 0, 1) := by decide +kernel
theorem dX1_layBlock_28 : decode cX1_layBlock 28 = .ok (.getfield 31, 3) := by decide +kernel
theorem dX1_layBlock_31 : decode cX1_layBlock 31 = .ok (.iload_n 1, 1) := by decide +kernel
theorem dX1_layBlock_32 : decode cX1_layBlock 32 = .ok (.iastore, 1) := by decide +kernel
theorem dX1_layBlock_33 : decode cX1_layBlock 33 = .ok (.aload_n 0, 1) := by decide +kernel
theorem dX1_layBlock_34 : decode cX1_layBlock 34 = .ok (.dup, 1) := by decide +kernel
theorem dX1_layBlock_35 : decode cX1_layBlock 35 = .ok (.getfield 31, 3) := by decide +kernel
theorem dX1_layBlock_38 : decode cX1_layBlock 38 = .ok (.iconst 1, 1) := by decide +kernel
theorem dX1_layBlock_39 : decode cX1_layBlock 39 = .ok (.iadd, 1) := by decide +kernel
theorem dX1_layBlock_40 : decode cX1_layBlock 40 = .ok (.putfield 31, 3) := by decide +kernel
theorem dX1_layBlock_43 : decode cX1_layBlock 43 = .ok (.return_, 1) := by decide +kernel
theorem dX1_layWays_0 : decode cX1_layWays 0 = .ok (.iconst 0, 1) := by decide +kernel
theorem dX1_layWays_1 : decode cX1_layWays 1 = .ok (.istore_n 1, 1) := by decide +kernel
theorem dX1_layWays_2 : decode cX1_layWays 2 = .ok (.iload_n 1, 1) := by decide +kernel
theorem dX1_layWays_3 : decode cX1_layWays 3 = .ok (.aload_n 0, 1) := by decide +kernel
theorem dX1_layWays_4 : decode cX1_layWays 4 = .ok (.getfield 24, 3) := by decide +kernel
theorem dX1_layWays_7 : decode cX1_layWays 7 = .ok (.if_icmp .ge 124, 3) := by decide +kernel
theorem dX1_layWays_10 : decode cX1_layWays 10 = .ok (.iconst 0, 1) := by decide +kernel
theorem dX1_layWays_11 : decode cX1_layWays 11 = .ok (.istore_n 2, 1) := by decide +kernel
theorem dX1_layWays_12 : decode cX1_layWays 12 = .ok (.iload_n 2, 1) := by decide +kernel
theorem dX1_layWays_13 : decode cX1_layWays 13 = .ok (.aload_n 0, 1) := by decide +kernel
theorem dX1_layWays_14 : decode cX1_layWays 14 = .ok (.getfield 28, 3) := by decide +kernel
theorem dX1_layWays_17 : decode cX1_layWays 17 = .ok (.if_icmp .ge 108, 3) := by decide +kernel
theorem dX1_layWays_20 : decode cX1_layWays 20 = .ok (.iload_n 1, 1) := by decide +kernel
theorem dX1_layWays_21 : decode cX1_layWays 21 = .ok (.aload_n 0, 1) := by decide +kernel
theorem dX1_layWays_22 : decode cX1_layWays 22 = .ok (.getfield 28, 3) := by decide +kernel
theorem dX1_layWays_25 : decode cX1_layWays 25 = .ok (.imul, 1) := by decide +kernel
theorem dX1_layWays_26 : decode cX1_layWays 26 = .ok (.iload_n 2, 1) := by decide +kernel
theorem dX1_layWays_27 : decode cX1_layWays 27 = .ok (.iadd, 1) := by decide +kernel
theorem dX1_layWays_28 : decode cX1_layWays 28 = .ok (.istore_n 3, 1) := by decide +kernel
theorem dX1_layWays_29 : decode cX1_layWays 29 = .ok (.aload_n 0, 1) := by decide +kernel
theorem dX1_layWays_30 : decode cX1_layWays 30 = .ok (.iload_n 3, 1) := by decide +kernel
theorem dX1_layWays_31 : decode cX1_layWays 31 = .ok (.iconst 0, 1) := by decide +kernel
theorem dX1_layWays_32 : decode cX1_layWays 32 = .ok (.iload_n 1, 1) := by decide +kernel
theorem dX1_layWays_33 : decode cX1_layWays 33 = .ok (.ifCond .le 7, 3) := by decide +kernel
theorem dX1_layWays_36 : decode cX1_layWays 36 = .ok (.iconst 1, 1) := by decide +kernel
theorem dX1_layWays_37 : decode cX1_layWays 37 = .ok (.goto 4, 3) := by decide +kernel
theorem dX1_layWays_40 : decode cX1_layWays 40 = .ok (.iconst 0, 1) := by decide +kernel
theorem dX1_layWays_41 : decode cX1_layWays 41 = .ok (.iload_n 3, 1) := by decide +kernel
theorem dX1_layWays_42 : decode cX1_layWays 42 = .ok (.aload_n 0, 1) := by decide +kernel
theorem dX1_layWays_43 : decode cX1_layWays 43 = .ok (.getfield 28, 3) := by decide +kernel
theorem dX1_layWays_46 : decode cX1_layWays 46 = .ok (.isub, 1) := by decide +kernel
theorem dX1_layWays_47 : decode cX1_layWays 47 = .ok (.invokevirtual 86, 3) := by decide +kernel
theorem dX1_layWays_50 : decode cX1_layWays 50 = .ok (.aload_n 0, 1) := by decide +kernel
theorem dX1_layWays_51 : decode cX1_layWays 51 = .ok (.iload_n 3, 1) := by decide +kernel
theorem dX1_layWays_52 : decode cX1_layWays 52 = .ok (.iconst 1, 1) := by decide +kernel
theorem dX1_layWays_53 : decode cX1_layWays 53 = .ok (.iload_n 2, 1) := by decide +kernel
theorem dX1_layWays_54 : decode cX1_layWays 54 = .ok (.aload_n 0, 1) := by decide +kernel
theorem dX1_layWays_55 : decode cX1_layWays 55 = .ok (.getfield 28, 3) := by decide +kernel
theorem dX1_layWays_58 : decode cX1_layWays 58 = .ok (.iconst 1, 1) := by decide +kernel
theorem dX1_layWays_59 : decode cX1_layWays 59 = .ok (.isub, 1) := by decide +kernel
theorem dX1_layWays_60 : decode cX1_layWays 60 = .ok (.if_icmp .ge 7, 3) := by decide +kernel
theorem dX1_layWays_63 : decode cX1_layWays 63 = .ok (.iconst 1, 1) := by decide +kernel
theorem dX1_layWays_64 : decode cX1_layWays 64 = .ok (.goto 4, 3) := by decide +kernel
theorem dX1_layWays_67 : decode cX1_layWays 67 = .ok (.iconst 0, 1) := by decide +kernel
theorem dX1_layWays_68 : decode cX1_layWays 68 = .ok (.iload_n 3, 1) := by decide +kernel
theorem dX1_layWays_69 : decode cX1_layWays 69 = .ok (.iconst 1, 1) := by decide +kernel
theorem dX1_layWays_70 : decode cX1_layWays 70 = .ok (.iadd, 1) := by decide +kernel
theorem dX1_layWays_71 : decode cX1_layWays 71 = .ok (.invokevirtual 86, 3) := by decide +kernel
theorem dX1_layWays_74 : decode cX1_layWays 74 = .ok (.aload_n 0, 1) := by decide +kernel
theorem dX1_layWays_75 : decode cX1_layWays 75 = .ok (.iload_n 3, 1) := by decide +kernel
theorem dX1_layWays_76 : decode cX1_layWays 76 = .ok (.iconst 2, 1) := by decide +kernel
theorem dX1_layWays_77 : decode cX1_layWays 77 = .ok (.iload_n 1, 1) := by decide +kernel
theorem dX1_layWays_78 : decode cX1_layWays 78 = .ok (.aload_n 0, 1) := by decide +kernel
theorem dX1_layWays_79 : decode cX1_layWays 79 = .ok (.getfield 24, 3) := by decide +kernel
theorem dX1_layWays_82 : decode cX1_layWays 82 = .ok (.iconst 1, 1) := by decide +kernel
theorem dX1_layWays_83 : decode cX1_layWays 83 = .ok (.isub, 1) := by decide +kernel
theorem dX1_layWays_84 : decode cX1_layWays 84 = .ok (.if_icmp .ge 7, 3) := by decide +kernel
theorem dX1_layWays_87 : decode cX1_layWays 87 = .ok (.iconst 1, 1) := by decide +kernel
theorem dX1_layWays_88 : decode cX1_layWays 88 = .ok (.goto 4, 3) := by decide +kernel
theorem dX1_layWays_91 : decode cX1_layWays 91 = .ok (.iconst 0, 1) := by decide +kernel
theorem dX1_layWays_92 : decode cX1_layWays 92 = .ok (.iload_n 3, 1) := by decide +kernel
theorem dX1_layWays_93 : decode cX1_layWays 93 = .ok (.aload_n 0, 1) := by decide +kernel
theorem dX1_layWays_94 : decode cX1_layWays 94 = .ok (.getfield 28, 3) := by decide +kernel
theorem dX1_layWays_97 : decode cX1_layWays 97 = .ok (.iadd, 1) := by decide +kernel
theorem dX1_layWays_98 : decode cX1_layWays 98 = .ok (.invokevirtual 86, 3) := by decide +kernel
theorem dX1_layWays_101 : decode cX1_layWays 101 = .ok (.aload_n 0, 1) := by decide +kernel
theorem dX1_layWays_102 : decode cX1_layWays 102 = .ok (.iload_n 3, 1) := by decide +kernel
theorem dX1_layWays_103 : decode cX1_layWays 103 = .ok (.iconst 3, 1) := by decide +kernel
theorem dX1_layWays_104 : decode cX1_layWays 104 = .ok (.iload_n 2, 1) := by decide +kernel
theorem dX1_layWays_105 : decode cX1_layWays 105 = .ok (.ifCond .le 7, 3) := by decide +kernel
theorem dX1_layWays_108 : decode cX1_layWays 108 = .ok (.iconst 1, 1) := by decide +kernel
theorem dX1_layWays_109 : decode cX1_layWays 109 = .ok (.goto 4, 3) := by decide +kernel
theorem dX1_layWays_112 : decode cX1_layWays 112 = .ok (.iconst 0, 1) := by decide +kernel
theorem dX1_layWays_113 : decode cX1_layWays 113 = .ok (.iload_n 3, 1) := by decide +kernel
theorem dX1_layWays_114 : decode cX1_layWays 114 = .ok (.iconst 1, 1) := by decide +kernel
theorem dX1_layWays_115 : decode cX1_layWays 115 = .ok (.isub, 1) := by decide +kernel
theorem dX1_layWays_116 : decode cX1_layWays 116 = .ok (.invokevirtual 86, 3) := by decide +kernel
theorem dX1_layWays_119 : decode cX1_layWays 119 = .ok (.iinc 2 1, 3) := by decide +kernel
theorem dX1_layWays_122 : decode cX1_layWays 122 = .ok (.goto (-110), 3) := by decide +kernel
theorem dX1_layWays_125 : decode cX1_layWays 125 = .ok (.iinc 1 1, 3) := by decide +kernel
theorem dX1_layWays_128 : decode cX1_layWays 128 = .ok (.goto (-126), 3) := by decide +kernel
theorem dX1_layWays_131 : decode cX1_layWays 131 = .ok (.return_, 1) := by decide +kernel
theorem dX1_layWay_0 : decode cX1_layWay 0 = .ok (.iload_n 1, 1) := by decide +kernel
theorem dX1_layWay_1 : decode cX1_layWay 1 = .ok (.iconst 4, 1) := by decide +kernel
theorem dX1_layWay_2 : decode cX1_layWay 2 = .ok (.imul, 1) := by decide +kernel
theorem dX1_layWay_3 : decode cX1_layWay 3 = .ok (.iload_n 2, 1) := by decide +kernel
theorem dX1_layWay_4 : decode cX1_layWay 4 = .ok (.iadd, 1) := by decide +kernel
theorem dX1_layWay_5 : decode cX1_layWay 5 = .ok (.istore 5, 2) := by decide +kernel
theorem dX1_layWay_7 : decode cX1_layWay 7 = .ok (.iload 5, 2) := by decide +kernel
theorem dX1_layWay_9 : decode cX1_layWay 9 = .ok (.ifCond .lt 42, 3) := by decide +kernel
theorem dX1_layWay_12 : decode cX1_layWay 12 = .ok (.iload 5, 2) := by decide +kernel
theorem dX1_layWay_14 : decode cX1_layWay 14 = .ok (.aload_n 0, 1) := by decide +kernel
theorem dX1_layWay_15 : decode cX1_layWay 15 = .ok (.getfield 21, 3) := by decide +kernel
theorem dX1_layWay_18 : decode cX1_layWay 18 = .ok (.arraylength, 1) := by decide +kernel
theorem dX1_layWay_19 : decode cX1_layWay 19 = .ok (.if_icmp .ge 32, 3) := by decide +kernel
theorem dX1_layWay_22 : decode cX1_layWay 22 = .ok (.aload_n 0, 1) := by decide +kernel
theorem dX1_layWay_23 : decode cX1_layWay 23 = .ok (.getfield 21, 3) := by decide +kernel
theorem dX1_layWay_26 : decode cX1_layWay 26 = .ok (.iload 5, 2) := by decide +kernel
theorem dX1_layWay_28 : decode cX1_layWay 28 = .ok (.iload_n 3, 1) := by decide +kernel
theorem dX1_layWay_29 : decode cX1_layWay 29 = .ok (.ifCond .eq 20, 3) := by decide +kernel
theorem dX1_layWay_32 : decode cX1_layWay 32 = .ok (.aload_n 0, 1) := by decide +kernel
theorem dX1_layWay_33 : decode cX1_layWay 33 = .ok (.getfield 47, 3) := by decide +kernel
theorem dX1_layWay_36 : decode cX1_layWay 36 = .ok (.iload 4, 2) := by decide +kernel
theorem dX1_layWay_38 : decode cX1_layWay 38 = .ok (.invokestatic 90, 3) := by decide +kernel
theorem dX1_layWay_41 : decode cX1_layWay 41 = .ok (.ifCond .ne 8, 3) := by decide +kernel
theorem dX1_layWay_44 : decode cX1_layWay 44 = .ok (.iload 4, 2) := by decide +kernel
theorem dX1_layWay_46 : decode cX1_layWay 46 = .ok (.goto 4, 3) := by decide +kernel
theorem dX1_layWay_49 : decode cX1_layWay 49 = .ok (.iconst (-1), 1) := by decide +kernel
theorem dX1_layWay_50 : decode cX1_layWay 50 = .ok (.iastore, 1) := by decide +kernel
theorem dX1_layWay_51 : decode cX1_layWay 51 = .ok (.return_, 1) := by decide +kernel
theorem dX1_firstYard_0 : decode cX1_firstYard 0 = .ok (.lconst 0, 1) := by decide +kernel
theorem dX1_firstYard_1 : decode cX1_firstYard 1 = .ok (.lstore_n 1, 1) := by decide +kernel
theorem dX1_firstYard_2 : decode cX1_firstYard 2 = .ok (.iconst 0, 1) := by decide +kernel
theorem dX1_firstYard_3 : decode cX1_firstYard 3 = .ok (.istore_n 3, 1) := by decide +kernel
theorem dX1_firstYard_4 : decode cX1_firstYard 4 = .ok (.iload_n 3, 1) := by decide +kernel
theorem dX1_firstYard_5 : decode cX1_firstYard 5 = .ok (.aload_n 0, 1) := by decide +kernel
theorem dX1_firstYard_6 : decode cX1_firstYard 6 = .ok (.getfield 31, 3) := by decide +kernel
theorem dX1_firstYard_9 : decode cX1_firstYard 9 = .ok (.if_icmp .ge 20, 3) := by decide +kernel
theorem dX1_firstYard_12 : decode cX1_firstYard 12 = .ok (.lload_n 1, 1) := by decide +kernel
theorem dX1_firstYard_13 : decode cX1_firstYard 13 = .ok (.iload_n 3, 1) := by decide +kernel
theorem dX1_firstYard_14 : decode cX1_firstYard 14 = .ok (.aload_n 0, 1) := by decide +kernel
theorem dX1_firstYard_15 : decode cX1_firstYard 15 = .ok (.iload_n 3, 1) := by decide +kernel
theorem dX1_firstYard_16 : decode cX1_firstYard 16 = .ok (.invokevirtual 94, 3) := by decide +kernel
theorem dX1_firstYard_19 : decode cX1_firstYard 19 = .ok (.invokestatic 97, 3) := by decide +kernel
theorem dX1_firstYard_22 : decode cX1_firstYard 22 = .ok (.lstore_n 1, 1) := by decide +kernel
theorem dX1_firstYard_23 : decode cX1_firstYard 23 = .ok (.iinc 3 1, 3) := by decide +kernel
theorem dX1_firstYard_26 : decode cX1_firstYard 26 = .ok (.goto (-22), 3) := by decide +kernel
theorem dX1_firstYard_29 : decode cX1_firstYard 29 = .ok (.lload_n 1, 1) := by decide +kernel
theorem dX1_firstYard_30 : decode cX1_firstYard 30 = .ok (.lreturn, 1) := by decide +kernel
theorem dX1_openCracks_0 : decode cX1_openCracks 0 = .ok (.lconst 0, 1) := by decide +kernel
theorem dX1_openCracks_1 : decode cX1_openCracks 1 = .ok (.lstore_n 3, 1) := by decide +kernel
theorem dX1_openCracks_2 : decode cX1_openCracks 2 = .ok (.iconst 0, 1) := by decide +kernel
theorem dX1_openCracks_3 : decode cX1_openCracks 3 = .ok (.istore 5, 2) := by decide +kernel
theorem dX1_openCracks_5 : decode cX1_openCracks 5 = .ok (.iload 5, 2) := by decide +kernel
theorem dX1_openCracks_7 : decode cX1_openCracks 7 = .ok (.aload_n 0, 1) := by decide +kernel
theorem dX1_openCracks_8 : decode cX1_openCracks 8 = .ok (.getfield 44, 3) := by decide +kernel
theorem dX1_openCracks_11 : decode cX1_openCracks 11 = .ok (.if_icmp .ge 39, 3) := by decide +kernel
theorem dX1_openCracks_14 : decode cX1_openCracks 14 = .ok (.iload 5, 2) := by decide +kernel
theorem dX1_openCracks_16 : decode cX1_openCracks 16 = .ok (.iconst 4, 1) := by decide +kernel
theorem dX1_openCracks_17 : decode cX1_openCracks 17 = .ok (.if_icmp .ge 33, 3) := by decide +kernel
theorem dX1_openCracks_20 : decode cX1_openCracks 20 = .ok (.lload_n 1, 1) := by decide +kernel
theorem dX1_openCracks_21 : decode cX1_openCracks 21 = .ok (.bipush 36, 2) := by decide +kernel
theorem dX1_openCracks_23 : decode cX1_openCracks 23 = .ok (.iload 5, 2) := by decide +kernel
theorem dX1_openCracks_25 : decode cX1_openCracks 25 = .ok (.iadd, 1) := by decide +kernel
theorem dX1_openCracks_26 : decode cX1_openCracks 26 = .ok (.invokestatic 90, 3) := by decide +kernel
theorem dX1_openCracks_29 : decode cX1_openCracks 29 = .ok (.ifCond .ne 15, 3) := by decide +kernel
theorem dX1_openCracks_32 : decode cX1_openCracks 32 = .ok (.lload_n 3, 1) := by decide +kernel
theorem dX1_openCracks_33 : decode cX1_openCracks 33 = .ok (.lconst 1, 1) := by decide +kernel
theorem dX1_openCracks_34 : decode cX1_openCracks 34 = .ok (.aload_n 0, 1) := by decide +kernel
theorem dX1_openCracks_35 : decode cX1_openCracks 35 = .ok (.getfield 18, 3) := by decide +kernel
theorem dX1_openCracks_38 : decode cX1_openCracks 38 = .ok (.iload 5, 2) := by decide +kernel
theorem dX1_openCracks_40 : decode cX1_openCracks 40 = .ok (.iaload, 1) := by decide +kernel
theorem dX1_openCracks_41 : decode cX1_openCracks 41 = .ok (.lshl, 1) := by decide +kernel
theorem dX1_openCracks_42 : decode cX1_openCracks 42 = .ok (.lor, 1) := by decide +kernel
theorem dX1_openCracks_43 : decode cX1_openCracks 43 = .ok (.lstore_n 3, 1) := by decide +kernel
theorem dX1_openCracks_44 : decode cX1_openCracks 44 = .ok (.iinc 5 1, 3) := by decide +kernel
theorem dX1_openCracks_47 : decode cX1_openCracks 47 = .ok (.goto (-42), 3) := by decide +kernel
theorem dX1_openCracks_50 : decode cX1_openCracks 50 = .ok (.lload_n 3, 1) := by decide +kernel
theorem dX1_openCracks_51 : decode cX1_openCracks 51 = .ok (.lreturn, 1) := by decide +kernel
theorem dX1_fillCrack_0 : decode cX1_fillCrack 0 = .ok (.iconst 0, 1) := by decide +kernel
theorem dX1_fillCrack_1 : decode cX1_fillCrack 1 = .ok (.istore 4, 2) := by decide +kernel
theorem dX1_fillCrack_3 : decode cX1_fillCrack 3 = .ok (.iload 4, 2) := by decide +kernel
theorem dX1_fillCrack_5 : decode cX1_fillCrack 5 = .ok (.aload_n 0, 1) := by decide +kernel
theorem dX1_fillCrack_6 : decode cX1_fillCrack 6 = .ok (.getfield 44, 3) := by decide +kernel
theorem dX1_fillCrack_9 : decode cX1_fillCrack 9 = .ok (.if_icmp .ge 36, 3) := by decide +kernel
theorem dX1_fillCrack_12 : decode cX1_fillCrack 12 = .ok (.iload 4, 2) := by decide +kernel
theorem dX1_fillCrack_14 : decode cX1_fillCrack 14 = .ok (.iconst 4, 1) := by decide +kernel
theorem dX1_fillCrack_15 : decode cX1_fillCrack 15 = .ok (.if_icmp .ge 30, 3) := by decide +kernel
theorem dX1_fillCrack_18 : decode cX1_fillCrack 18 = .ok (.aload_n 0, 1) := by decide +kernel
theorem dX1_fillCrack_19 : decode cX1_fillCrack 19 = .ok (.getfield 18, 3) := by decide +kernel
theorem dX1_fillCrack_22 : decode cX1_fillCrack 22 = .ok (.iload 4, 2) := by decide +kernel
theorem dX1_fillCrack_24 : decode cX1_fillCrack 24 = .ok (.iaload, 1) := by decide +kernel
theorem dX1_fillCrack_25 : decode cX1_fillCrack 25 = .ok (.iload_n 3, 1) := by decide +kernel
theorem dX1_fillCrack_26 : decode cX1_fillCrack 26 = .ok (.if_icmp .ne 13, 3) := by decide +kernel
theorem dX1_fillCrack_29 : decode cX1_fillCrack 29 = .ok (.lload_n 1, 1) := by decide +kernel
theorem dX1_fillCrack_30 : decode cX1_fillCrack 30 = .ok (.lconst 1, 1) := by decide +kernel
theorem dX1_fillCrack_31 : decode cX1_fillCrack 31 = .ok (.bipush 36, 2) := by decide +kernel
theorem dX1_fillCrack_33 : decode cX1_fillCrack 33 = .ok (.iload 4, 2) := by decide +kernel
theorem dX1_fillCrack_35 : decode cX1_fillCrack 35 = .ok (.iadd, 1) := by decide +kernel
theorem dX1_fillCrack_36 : decode cX1_fillCrack 36 = .ok (.lshl, 1) := by decide +kernel
theorem dX1_fillCrack_37 : decode cX1_fillCrack 37 = .ok (.lor, 1) := by decide +kernel
theorem dX1_fillCrack_38 : decode cX1_fillCrack 38 = .ok (.lreturn, 1) := by decide +kernel
theorem dX1_fillCrack_39 : decode cX1_fillCrack 39 = .ok (.iinc 4 1, 3) := by decide +kernel
theorem dX1_fillCrack_42 : decode cX1_fillCrack 42 = .ok (.goto (-39), 3) := by decide +kernel
theorem dX1_fillCrack_45 : decode cX1_fillCrack 45 = .ok (.lload_n 1, 1) := by decide +kernel
theorem dX1_fillCrack_46 : decode cX1_fillCrack 46 = .ok (.lreturn, 1) := by decide +kernel
theorem dX1_signAt_0 : decode cX1_signAt 0 = .ok (.aload_n 0, 1) := by decide +kernel
theorem dX1_signAt_1 : decode cX1_signAt 1 = .ok (.getfield 47, 3) := by decide +kernel
theorem dX1_signAt_4 : decode cX1_signAt 4 = .ok (.iload_n 1, 1) := by decide +kernel
theorem dX1_signAt_5 : decode cX1_signAt 5 = .ok (.invokestatic 90, 3) := by decide +kernel
theorem dX1_signAt_8 : decode cX1_signAt 8 = .ok (.ifCond .eq 5, 3) := by decide +kernel
theorem dX1_signAt_11 : decode cX1_signAt 11 = .ok (.iconst 1, 1) := by decide +kernel
theorem dX1_signAt_12 : decode cX1_signAt 12 = .ok (.ireturn, 1) := by decide +kernel
theorem dX1_signAt_13 : decode cX1_signAt 13 = .ok (.aload_n 0, 1) := by decide +kernel
theorem dX1_signAt_14 : decode cX1_signAt 14 = .ok (.getfield 51, 3) := by decide +kernel
theorem dX1_signAt_17 : decode cX1_signAt 17 = .ok (.iload_n 1, 1) := by decide +kernel
theorem dX1_signAt_18 : decode cX1_signAt 18 = .ok (.invokestatic 90, 3) := by decide +kernel
theorem dX1_signAt_21 : decode cX1_signAt 21 = .ok (.ifCond .eq 5, 3) := by decide +kernel
theorem dX1_signAt_24 : decode cX1_signAt 24 = .ok (.iconst 2, 1) := by decide +kernel
theorem dX1_signAt_25 : decode cX1_signAt 25 = .ok (.ireturn, 1) := by decide +kernel
theorem dX1_signAt_26 : decode cX1_signAt 26 = .ok (.aload_n 0, 1) := by decide +kernel
theorem dX1_signAt_27 : decode cX1_signAt 27 = .ok (.lload_n 2, 1) := by decide +kernel
theorem dX1_signAt_28 : decode cX1_signAt 28 = .ok (.invokevirtual 101, 3) := by decide +kernel
theorem dX1_signAt_31 : decode cX1_signAt 31 = .ok (.iload_n 1, 1) := by decide +kernel
theorem dX1_signAt_32 : decode cX1_signAt 32 = .ok (.invokestatic 90, 3) := by decide +kernel
theorem dX1_signAt_35 : decode cX1_signAt 35 = .ok (.ifCond .eq 5, 3) := by decide +kernel
theorem dX1_signAt_38 : decode cX1_signAt 38 = .ok (.iconst 3, 1) := by decide +kernel
theorem dX1_signAt_39 : decode cX1_signAt 39 = .ok (.ireturn, 1) := by decide +kernel
theorem dX1_signAt_40 : decode cX1_signAt 40 = .ok (.aload_n 0, 1) := by decide +kernel
theorem dX1_signAt_41 : decode cX1_signAt 41 = .ok (.getfield 54, 3) := by decide +kernel
theorem dX1_signAt_44 : decode cX1_signAt 44 = .ok (.iload_n 1, 1) := by decide +kernel
theorem dX1_signAt_45 : decode cX1_signAt 45 = .ok (.invokestatic 90, 3) := by decide +kernel
theorem dX1_signAt_48 : decode cX1_signAt 48 = .ok (.ifCond .eq 5, 3) := by decide +kernel
theorem dX1_signAt_51 : decode cX1_signAt 51 = .ok (.iconst 4, 1) := by decide +kernel
theorem dX1_signAt_52 : decode cX1_signAt 52 = .ok (.ireturn, 1) := by decide +kernel
theorem dX1_signAt_53 : decode cX1_signAt 53 = .ok (.aload_n 0, 1) := by decide +kernel
theorem dX1_signAt_54 : decode cX1_signAt 54 = .ok (.getfield 57, 3) := by decide +kernel
theorem dX1_signAt_57 : decode cX1_signAt 57 = .ok (.iload_n 1, 1) := by decide +kernel
theorem dX1_signAt_58 : decode cX1_signAt 58 = .ok (.invokestatic 90, 3) := by decide +kernel
theorem dX1_signAt_61 : decode cX1_signAt 61 = .ok (.ifCond .eq 7, 3) := by decide +kernel
theorem dX1_signAt_64 : decode cX1_signAt 64 = .ok (.iconst 5, 1) := by decide +kernel
theorem dX1_signAt_65 : decode cX1_signAt 65 = .ok (.goto 4, 3) := by decide +kernel
theorem dX1_signAt_68 : decode cX1_signAt 68 = .ok (.iconst 0, 1) := by decide +kernel
theorem dX1_signAt_69 : decode cX1_signAt 69 = .ok (.ireturn, 1) := by decide +kernel
theorem dX2_init_0 : decode cX2_init 0 = .ok (.aload_n 0, 1) := by decide +kernel
theorem dX2_init_1 : decode cX2_init 1 = .ok (.invokespecial 3, 3) := by decide +kernel
theorem dX2_init_4 : decode cX2_init 4 = .ok (.aload_n 0, 1) := by decide +kernel
theorem dX2_init_5 : decode cX2_init 5 = .ok (.iconst 3, 1) := by decide +kernel
theorem dX2_init_6 : decode cX2_init 6 = .ok (.newarray .int, 2) := by decide +kernel
theorem dX2_init_8 : decode cX2_init 8 = .ok (.putfield 11, 3) := by decide +kernel
theorem dX2_init_11 : decode cX2_init 11 = .ok (.aload_n 0, 1) := by decide +kernel
theorem dX2_init_12 : decode cX2_init 12 = .ok (.iconst 3, 1) := by decide +kernel
theorem dX2_init_13 : decode cX2_init 13 = .ok (.newarray .int, 2) := by decide +kernel
theorem dX2_init_15 : decode cX2_init 15 = .ok (.putfield 15, 3) := by decide +kernel
theorem dX2_init_18 : decode cX2_init 18 = .ok (.aload_n 0, 1) := by decide +kernel
theorem dX2_init_19 : decode cX2_init 19 = .ok (.aload_n 1, 1) := by decide +kernel
theorem dX2_init_20 : decode cX2_init 20 = .ok (.putfield 18, 3) := by decide +kernel
theorem dX2_init_23 : decode cX2_init 23 = .ok (.aload_n 0, 1) := by decide +kernel
theorem dX2_init_24 : decode cX2_init 24 = .ok (.aload_n 2, 1) := by decide +kernel
theorem dX2_init_25 : decode cX2_init 25 = .ok (.putfield 22, 3) := by decide +kernel
theorem dX2_init_28 : decode cX2_init 28 = .ok (.return_, 1) := by decide +kernel
theorem dX2_count_0 : decode cX2_count 0 = .ok (.aload_n 0, 1) := by decide +kernel
theorem dX2_count_1 : decode cX2_count 1 = .ok (.lload 4, 2) := by decide +kernel
theorem dX2_count_3 : decode cX2_count 3 = .ok (.putfield 26, 3) := by decide +kernel
theorem dX2_count_6 : decode cX2_count 6 = .ok (.aload_n 0, 1) := by decide +kernel
theorem dX2_count_7 : decode cX2_count 7 = .ok (.iconst 0, 1) := by decide +kernel
theorem dX2_count_8 : decode cX2_count 8 = .ok (.putfield 30, 3) := by decide +kernel
theorem dX2_count_11 : decode cX2_count 11 = .ok (.aload_n 0, 1) := by decide +kernel
theorem dX2_count_12 : decode cX2_count 12 = .ok (.lload_n 1, 1) := by decide +kernel
theorem dX2_count_13 : decode cX2_count 13 = .ok (.iconst 0, 1) := by decide +kernel
theorem dX2_count_14 : decode cX2_count 14 = .ok (.iload_n 3, 1) := by decide +kernel
theorem dX2_count_15 : decode cX2_count 15 = .ok (.iconst 3, 1) := by decide +kernel
theorem dX2_count_16 : decode cX2_count 16 = .ok (.invokestatic 34, 3) := by decide +kernel
theorem dX2_count_19 : decode cX2_count 19 = .ok (.lconst 0, 1) := by decide +kernel
theorem dX2_count_20 : decode cX2_count 20 = .ok (.invokevirtual 40, 3) := by decide +kernel
theorem dX2_count_23 : decode cX2_count 23 = .ok (.aload_n 0, 1) := by decide +kernel
theorem dX2_count_24 : decode cX2_count 24 = .ok (.getfield 30, 3) := by decide +kernel
theorem dX2_count_27 : decode cX2_count 27 = .ok (.ireturn, 1) := by decide +kernel
theorem dX2_pushAt_0 : decode cX2_pushAt 0 = .ok (.iload_n 1, 1) := by decide +kernel
theorem dX2_pushAt_1 : decode cX2_pushAt 1 = .ok (.ifCond .lt 17, 3) := by decide +kernel
theorem dX2_pushAt_4 : decode cX2_pushAt 4 = .ok (.iload_n 1, 1) := by decide +kernel
theorem dX2_pushAt_5 : decode cX2_pushAt 5 = .ok (.iconst 3, 1) := by decide +kernel
theorem dX2_pushAt_6 : decode cX2_pushAt 6 = .ok (.if_icmp .ge 12, 3) := by decide +kernel
theorem dX2_pushAt_9 : decode cX2_pushAt 9 = .ok (.aload_n 0, 1) := by decide +kernel
theorem dX2_pushAt_10 : decode cX2_pushAt 10 = .ok (.getfield 15, 3) := by decide +kernel
theorem dX2_pushAt_13 : decode cX2_pushAt 13 = .ok (.iload_n 1, 1) := by decide +kernel
theorem dX2_pushAt_14 : decode cX2_pushAt 14 = .ok (.iaload, 1) := by decide +kernel
theorem dX2_pushAt_15 : decode cX2_pushAt 15 = .ok (.goto 5, 3) := by decide +kernel
theorem dX2_pushAt_18 : decode cX2_pushAt 18 = .ok (.bipush (-9), 2) := by decide +kernel
theorem dX2_pushAt_20 : decode cX2_pushAt 20 = .ok (.ireturn, 1) := by decide +kernel
theorem dX2_walk_0 : decode cX2_walk 0 = .ok (.iload_n 3, 1) := by decide +kernel
theorem dX2_walk_1 : decode cX2_walk 1 = .ok (.ifCond .lt 14, 3) := by decide +kernel
theorem dX2_walk_4 : decode cX2_walk 4 = .ok (.iload_n 3, 1) := by decide +kernel
theorem dX2_walk_5 : decode cX2_walk 5 = .ok (.iload 4, 2) := by decide +kernel
theorem dX2_walk_7 : decode cX2_walk 7 = .ok (.if_icmp .ge 8, 3) := by decide +kernel
theorem dX2_walk_10 : decode cX2_walk 10 = .ok (.iload_n 3, 1) := by decide +kernel
theorem dX2_walk_11 : decode cX2_walk 11 = .ok (.iconst 3, 1) := by decide +kernel
theorem dX2_walk_12 : decode cX2_walk 12 = .ok (.if_icmp .lt 4, 3) := by decide +kernel
theorem dX2_walk_15 : decode cX2_walk 15 = .ok (.return_, 1) := by decide +kernel
theorem dX2_walk_16 : decode cX2_walk 16 = .ok (.iconst 0, 1) := by decide +kernel
theorem dX2_walk_17 : decode cX2_walk 17 = .ok (.istore 7, 2) := by decide +kernel
theorem dX2_walk_19 : decode cX2_walk 19 = .ok (.iload 7, 2) := by decide +kernel
theorem dX2_walk_21 : decode cX2_walk 21 = .ok (.aload_n 0, 1) := by decide +kernel
theorem dX2_walk_22 : decode cX2_walk 22 = .ok (.getfield 18, 3) := by decide +kernel
theorem dX2_walk_25 : decode cX2_walk 25 = .ok (.getfield 44, 3) := by decide +kernel
theorem dX2_walk_28 : decode cX2_walk 28 = .ok (.if_icmp .ge 131, 3) := by decide +kernel
theorem dX2_walk_31 : decode cX2_walk 31 = .ok (.iconst 0, 1) := by decide +kernel
theorem dX2_walk_32 : decode cX2_walk 32 = .ok (.istore 8, 2) := by decide +kernel
theorem dX2_walk_34 : decode cX2_walk 34 = .ok (.iload 8, 2) := by decide +kernel
theorem dX2_walk_36 : decode cX2_walk 36 = .ok (.iconst 4, 1) := by decide +kernel
theorem dX2_walk_37 : decode cX2_walk 37 = .ok (.if_icmp .ge 116, 3) := by decide +kernel
theorem dX2_walk_40 : decode cX2_walk 40 = .ok (.aload_n 0, 1) := by decide +kernel
theorem dX2_walk_41 : decode cX2_walk 41 = .ok (.getfield 22, 3) := by decide +kernel
theorem dX2_walk_44 : decode cX2_walk 44 = .ok (.lload_n 1, 1) := by decide +kernel
theorem dX2_walk_45 : decode cX2_walk 45 = .ok (.iload 7, 2) := by decide +kernel
theorem dX2_walk_47 : decode cX2_walk 47 = .ok (.iload 8, 2) := by decide +kernel
theorem dX2_walk_49 : decode cX2_walk 49 = .ok (.invokevirtual 49, 3) := by decide +kernel
theorem dX2_walk_52 : decode cX2_walk 52 = .ok (.ifCond .ne 6, 3) := by decide +kernel
theorem dX2_walk_55 : decode cX2_walk 55 = .ok (.goto 92, 3) := by decide +kernel
theorem dX2_walk_58 : decode cX2_walk 58 = .ok (.lload 5, 2) := by decide +kernel
theorem dX2_walk_60 : decode cX2_walk 60 = .ok (.aload_n 0, 1) := by decide +kernel
theorem dX2_walk_61 : decode cX2_walk 61 = .ok (.getfield 22, 3) := by decide +kernel
theorem dX2_walk_64 : decode cX2_walk 64 = .ok (.getfield 55, 3) := by decide +kernel
theorem dX2_walk_67 : decode cX2_walk 67 = .ok (.lor, 1) := by decide +kernel
theorem dX2_walk_68 : decode cX2_walk 68 = .ok (.lstore 9, 2) := by decide +kernel
theorem dX2_walk_70 : decode cX2_walk 70 = .ok (.lload 9, 2) := by decide +kernel
theorem dX2_walk_72 : decode cX2_walk 72 = .ok (.aload_n 0, 1) := by decide +kernel
theorem dX2_walk_73 : decode cX2_walk 73 = .ok (.getfield 26, 3) := by decide +kernel
theorem dX2_walk_76 : decode cX2_walk 76 = .ok (.ldc2_w 58, 3) := by decide +kernel
theorem dX2_walk_79 : decode cX2_walk 79 = .ok (.lxor, 1) := by decide +kernel
theorem dX2_walk_80 : decode cX2_walk 80 = .ok (.land, 1) := by decide +kernel
theorem dX2_walk_81 : decode cX2_walk 81 = .ok (.lconst 0, 1) := by decide +kernel
theorem dX2_walk_82 : decode cX2_walk 82 = .ok (.lcmp, 1) := by decide +kernel
theorem dX2_walk_83 : decode cX2_walk 83 = .ok (.ifCond .eq 6, 3) := by decide +kernel
theorem dX2_walk_86 : decode cX2_walk 86 = .ok (.goto 61, 3) := by decide +kernel
theorem dX2_walk_89 : decode cX2_walk 89 = .ok (.aload_n 0, 1) := by decide +kernel
theorem dX2_walk_90 : decode cX2_walk 90 = .ok (.getfield 11, 3) := by decide +kernel
theorem dX2_walk_93 : decode cX2_walk 93 = .ok (.iload_n 3, 1) := by decide +kernel
theorem dX2_walk_94 : decode cX2_walk 94 = .ok (.iload 7, 2) := by decide +kernel
theorem dX2_walk_96 : decode cX2_walk 96 = .ok (.iload 8, 2) := by decide +kernel
theorem dX2_walk_98 : decode cX2_walk 98 = .ok (.invokestatic 60, 3) := by decide +kernel
theorem dX2_walk_101 : decode cX2_walk 101 = .ok (.iastore, 1) := by decide +kernel
theorem dX2_walk_102 : decode cX2_walk 102 = .ok (.iload_n 3, 1) := by decide +kernel
theorem dX2_walk_103 : decode cX2_walk 103 = .ok (.iconst 1, 1) := by decide +kernel
theorem dX2_walk_104 : decode cX2_walk 104 = .ok (.iadd, 1) := by decide +kernel
theorem dX2_walk_105 : decode cX2_walk 105 = .ok (.iload 4, 2) := by decide +kernel
theorem dX2_walk_107 : decode cX2_walk 107 = .ok (.if_icmp .ge 24, 3) := by decide +kernel
theorem dX2_walk_110 : decode cX2_walk 110 = .ok (.aload_n 0, 1) := by decide +kernel
theorem dX2_walk_111 : decode cX2_walk 111 = .ok (.aload_n 0, 1) := by decide +kernel
theorem dX2_walk_112 : decode cX2_walk 112 = .ok (.getfield 22, 3) := by decide +kernel
theorem dX2_walk_115 : decode cX2_walk 115 = .ok (.getfield 63, 3) := by decide +kernel
theorem dX2_walk_118 : decode cX2_walk 118 = .ok (.iload_n 3, 1) := by decide +kernel
theorem dX2_walk_119 : decode cX2_walk 119 = .ok (.iconst 1, 1) := by decide +kernel
theorem dX2_walk_120 : decode cX2_walk 120 = .ok (.iadd, 1) := by decide +kernel
theorem dX2_walk_121 : decode cX2_walk 121 = .ok (.iload 4, 2) := by decide +kernel
theorem dX2_walk_123 : decode cX2_walk 123 = .ok (.lload 9, 2) := by decide +kernel
theorem dX2_walk_125 : decode cX2_walk 125 = .ok (.invokevirtual 40, 3) := by decide +kernel
theorem dX2_walk_128 : decode cX2_walk 128 = .ok (.goto 19, 3) := by decide +kernel
theorem dX2_walk_131 : decode cX2_walk 131 = .ok (.lload 9, 2) := by decide +kernel
theorem dX2_walk_133 : decode cX2_walk 133 = .ok (.aload_n 0, 1) := by decide +kernel
theorem dX2_walk_134 : decode cX2_walk 134 = .ok (.getfield 26, 3) := by decide +kernel
theorem dX2_walk_137 : decode cX2_walk 137 = .ok (.lcmp, 1) := by decide +kernel
theorem dX2_walk_138 : decode cX2_walk 138 = .ok (.ifCond .ne 9, 3) := by decide +kernel
theorem dX2_walk_141 : decode cX2_walk 141 = .ok (.aload_n 0, 1) := by decide +kernel
theorem dX2_walk_142 : decode cX2_walk 142 = .ok (.iload 4, 2) := by decide +kernel
theorem dX2_walk_144 : decode cX2_walk 144 = .ok (.invokevirtual 66, 3) := by decide +kernel
theorem dX2_walk_147 : decode cX2_walk 147 = .ok (.iinc 8 1, 3) := by decide +kernel
theorem dX2_walk_150 : decode cX2_walk 150 = .ok (.goto (-116), 3) := by decide +kernel
theorem dX2_walk_153 : decode cX2_walk 153 = .ok (.iinc 7 1, 3) := by decide +kernel
theorem dX2_walk_156 : decode cX2_walk 156 = .ok (.goto (-137), 3) := by decide +kernel
theorem dX2_walk_159 : decode cX2_walk 159 = .ok (.return_, 1) := by decide +kernel
theorem dX2_countRow_0 : decode cX2_countRow 0 = .ok (.aload_n 0, 1) := by decide +kernel
theorem dX2_countRow_1 : decode cX2_countRow 1 = .ok (.getfield 30, 3) := by decide +kernel
theorem dX2_countRow_4 : decode cX2_countRow 4 = .ok (.ifCond .ne 33, 3) := by decide +kernel
theorem dX2_countRow_7 : decode cX2_countRow 7 = .ok (.iconst 0, 1) := by decide +kernel
theorem dX2_countRow_8 : decode cX2_countRow 8 = .ok (.istore_n 2, 1) := by decide +kernel
theorem dX2_countRow_9 : decode cX2_countRow 9 = .ok (.iload_n 2, 1) := by decide +kernel
theorem dX2_countRow_10 : decode cX2_countRow 10 = .ok (.iload_n 1, 1) := by decide +kernel
theorem dX2_countRow_11 : decode cX2_countRow 11 = .ok (.if_icmp .ge 26, 3) := by decide +kernel
theorem dX2_countRow_14 : decode cX2_countRow 14 = .ok (.iload_n 2, 1) := by decide +kernel
theorem dX2_countRow_15 : decode cX2_countRow 15 = .ok (.iconst 3, 1) := by decide +kernel
theorem dX2_countRow_16 : decode cX2_countRow 16 = .ok (.if_icmp .ge 21, 3) := by decide +kernel
theorem dX2_countRow_19 : decode cX2_countRow 19 = .ok (.aload_n 0, 1) := by decide +kernel
theorem dX2_countRow_20 : decode cX2_countRow 20 = .ok (.getfield 15, 3) := by decide +kernel
theorem dX2_countRow_23 : decode cX2_countRow 23 = .ok (.iload_n 2, 1) := by decide +kernel
theorem dX2_countRow_24 : decode cX2_countRow 24 = .ok (.aload_n 0, 1) := by decide +kernel
theorem dX2_countRow_25 : decode cX2_countRow 25 = .ok (.getfield 11, 3) := by decide +kernel
theorem dX2_countRow_28 : decode cX2_countRow 28 = .ok (.iload_n 2, 1) := by decide +kernel
theorem dX2_countRow_29 : decode cX2_countRow 29 = .ok (.iaload, 1) := by decide +kernel
theorem dX2_countRow_30 : decode cX2_countRow 30 = .ok (.iastore, 1) := by decide +kernel
theorem dX2_countRow_31 : decode cX2_countRow 31 = .ok (.iinc 2 1, 3) := by decide +kernel
theorem dX2_countRow_34 : decode cX2_countRow 34 = .ok (.goto (-25), 3) := by decide +kernel
theorem dX2_countRow_37 : decode cX2_countRow 37 = .ok (.aload_n 0, 1) := by decide +kernel
theorem dX2_countRow_38 : decode cX2_countRow 38 = .ok (.dup, 1) := by decide +kernel
theorem dX2_countRow_39 : decode cX2_countRow 39 = .ok (.getfield 30, 3) := by decide +kernel
theorem dX2_countRow_42 : decode cX2_countRow 42 = .ok (.iconst 1, 1) := by decide +kernel
theorem dX2_countRow_43 : decode cX2_countRow 43 = .ok (.iadd, 1) := by decide +kernel
theorem dX2_countRow_44 : decode cX2_countRow 44 = .ok (.putfield 30, 3) := by decide +kernel
theorem dX2_countRow_47 : decode cX2_countRow 47 = .ok (.return_, 1) := by decide +kernel
theorem dX3_init_0 : decode cX3_init 0 = .ok (.aload_n 0, 1) := by decide +kernel
theorem dX3_init_1 : decode cX3_init 1 = .ok (.invokespecial 3, 3) := by decide +kernel
theorem dX3_init_4 : decode cX3_init 4 = .ok (.aload_n 0, 1) := by decide +kernel
theorem dX3_init_5 : decode cX3_init 5 = .ok (.aload_n 1, 1) := by decide +kernel
theorem dX3_init_6 : decode cX3_init 6 = .ok (.putfield 9, 3) := by decide +kernel
theorem dX3_init_9 : decode cX3_init 9 = .ok (.aload_n 0, 1) := by decide +kernel
theorem dX3_init_10 : decode cX3_init 10 = .ok (.aload_n 2, 1) := by decide +kernel
theorem dX3_init_11 : decode cX3_init 11 = .ok (.putfield 15, 3) := by decide +kernel
theorem dX3_init_14 : decode cX3_init 14 = .ok (.return_, 1) := by decide +kernel
theorem dX3_fewestCells_0 : decode cX3_fewestCells 0 = .ok (.lload_n 1, 1) := by decide +kernel
theorem dX3_fewestCells_1 : decode cX3_fewestCells 1 = .ok (.iload_n 3, 1) := by decide +kernel
theorem dX3_fewestCells_2 : decode cX3_fewestCells 2 = .ok (.invokestatic 19, 3) := by decide +kernel
theorem dX3_fewestCells_5 : decode cX3_fewestCells 5 = .ok (.bipush 36, 2) := by decide +kernel
theorem dX3_fewestCells_7 : decode cX3_fewestCells 7 = .ok (.if_icmp .lt 6, 3) := by decide +kernel
theorem dX3_fewestCells_10 : decode cX3_fewestCells 10 = .ok (.bipush (-9), 2) := by decide +kernel
theorem dX3_fewestCells_12 : decode cX3_fewestCells 12 = .ok (.ireturn, 1) := by decide +kernel
theorem dX3_fewestCells_13 : decode cX3_fewestCells 13 = .ok (.aload_n 0, 1) := by decide +kernel
theorem dX3_fewestCells_14 : decode cX3_fewestCells 14 = .ok (.lload_n 1, 1) := by decide +kernel
theorem dX3_fewestCells_15 : decode cX3_fewestCells 15 = .ok (.iload_n 3, 1) := by decide +kernel
theorem dX3_fewestCells_16 : decode cX3_fewestCells 16 = .ok (.iload 4, 2) := by decide +kernel
theorem dX3_fewestCells_18 : decode cX3_fewestCells 18 = .ok (.iload 5, 2) := by decide +kernel
theorem dX3_fewestCells_20 : decode cX3_fewestCells 20 = .ok (.invokevirtual 23, 3) := by decide +kernel
theorem dX3_fewestCells_23 : decode cX3_fewestCells 23 = .ok (.ifCond .eq 5, 3) := by decide +kernel
theorem dX3_fewestCells_26 : decode cX3_fewestCells 26 = .ok (.iconst 0, 1) := by decide +kernel
theorem dX3_fewestCells_27 : decode cX3_fewestCells 27 = .ok (.ireturn, 1) := by decide +kernel
theorem dX3_fewestCells_28 : decode cX3_fewestCells 28 = .ok (.aload_n 0, 1) := by decide +kernel
theorem dX3_fewestCells_29 : decode cX3_fewestCells 29 = .ok (.lload_n 1, 1) := by decide +kernel
theorem dX3_fewestCells_30 : decode cX3_fewestCells 30 = .ok (.invokevirtual 27, 3) := by decide +kernel
theorem dX3_fewestCells_33 : decode cX3_fewestCells 33 = .ok (.lstore 6, 2) := by decide +kernel
theorem dX3_fewestCells_35 : decode cX3_fewestCells 35 = .ok (.bipush (-9), 2) := by decide +kernel
theorem dX3_fewestCells_37 : decode cX3_fewestCells 37 = .ok (.istore 8, 2) := by decide +kernel
theorem dX3_fewestCells_39 : decode cX3_fewestCells 39 = .ok (.iconst 0, 1) := by decide +kernel
theorem dX3_fewestCells_40 : decode cX3_fewestCells 40 = .ok (.istore 9, 2) := by decide +kernel
theorem dX3_fewestCells_42 : decode cX3_fewestCells 42 = .ok (.iload 9, 2) := by decide +kernel
theorem dX3_fewestCells_44 : decode cX3_fewestCells 44 = .ok (.aload_n 0, 1) := by decide +kernel
theorem dX3_fewestCells_45 : decode cX3_fewestCells 45 = .ok (.getfield 9, 3) := by decide +kernel
theorem dX3_fewestCells_48 : decode cX3_fewestCells 48 = .ok (.invokevirtual 31, 3) := by decide +kernel
theorem dX3_fewestCells_51 : decode cX3_fewestCells 51 = .ok (.if_icmp .ge 66, 3) := by decide +kernel
theorem dX3_fewestCells_54 : decode cX3_fewestCells 54 = .ok (.iload 9, 2) := by decide +kernel
theorem dX3_fewestCells_56 : decode cX3_fewestCells 56 = .ok (.bipush 36, 2) := by decide +kernel
theorem dX3_fewestCells_58 : decode cX3_fewestCells 58 = .ok (.if_icmp .ge 59, 3) := by decide +kernel
theorem dX3_fewestCells_61 : decode cX3_fewestCells 61 = .ok (.iload 8, 2) := by decide +kernel
theorem dX3_fewestCells_63 : decode cX3_fewestCells 63 = .ok (.bipush (-9), 2) := by decide +kernel
theorem dX3_fewestCells_65 : decode cX3_fewestCells 65 = .ok (.if_icmp .ne 52, 3) := by decide +kernel
theorem dX3_fewestCells_68 : decode cX3_fewestCells 68 = .ok (.aload_n 0, 1) := by decide +kernel
theorem dX3_fewestCells_69 : decode cX3_fewestCells 69 = .ok (.getfield 15, 3) := by decide +kernel
theorem dX3_fewestCells_72 : decode cX3_fewestCells 72 = .ok (.lconst 1, 1) := by decide +kernel
theorem dX3_fewestCells_73 : decode cX3_fewestCells 73 = .ok (.iload 9, 2) := by decide +kernel
theorem dX3_fewestCells_75 : decode cX3_fewestCells 75 = .ok (.lshl, 1) := by decide +kernel
theorem dX3_fewestCells_76 : decode cX3_fewestCells 76 = .ok (.putfield 37, 3) := by decide +kernel
theorem dX3_fewestCells_79 : decode cX3_fewestCells 79 = .ok (.lload 6, 2) := by decide +kernel
theorem dX3_fewestCells_81 : decode cX3_fewestCells 81 = .ok (.iload 9, 2) := by decide +kernel
theorem dX3_fewestCells_83 : decode cX3_fewestCells 83 = .ok (.invokestatic 43, 3) := by decide +kernel
theorem dX3_fewestCells_86 : decode cX3_fewestCells 86 = .ok (.ifCond .eq 25, 3) := by decide +kernel
theorem dX3_fewestCells_89 : decode cX3_fewestCells 89 = .ok (.aload_n 0, 1) := by decide +kernel
theorem dX3_fewestCells_90 : decode cX3_fewestCells 90 = .ok (.lload_n 1, 1) := by decide +kernel
theorem dX3_fewestCells_91 : decode cX3_fewestCells 91 = .ok (.iload_n 3, 1) := by decide +kernel
theorem dX3_fewestCells_92 : decode cX3_fewestCells 92 = .ok (.iload 4, 2) := by decide +kernel
theorem dX3_fewestCells_94 : decode cX3_fewestCells 94 = .ok (.iload 5, 2) := by decide +kernel
theorem dX3_fewestCells_96 : decode cX3_fewestCells 96 = .ok (.invokevirtual 23, 3) := by decide +kernel
theorem dX3_fewestCells_99 : decode cX3_fewestCells 99 = .ok (.ifCond .eq 12, 3) := by decide +kernel
theorem dX3_fewestCells_102 : decode cX3_fewestCells 102 = .ok (.aload_n 0, 1) := by decide +kernel
theorem dX3_fewestCells_103 : decode cX3_fewestCells 103 = .ok (.iload 9, 2) := by decide +kernel
theorem dX3_fewestCells_105 : decode cX3_fewestCells 105 = .ok (.putfield 47, 3) := by decide +kernel
theorem dX3_fewestCells_108 : decode cX3_fewestCells 108 = .ok (.iconst 1, 1) := by decide +kernel
theorem dX3_fewestCells_109 : decode cX3_fewestCells 109 = .ok (.istore 8, 2) := by decide +kernel
theorem dX3_fewestCells_111 : decode cX3_fewestCells 111 = .ok (.iinc 9 1, 3) := by decide +kernel
theorem dX3_fewestCells_114 : decode cX3_fewestCells 114 = .ok (.goto (-72), 3) := by decide +kernel
theorem dX3_fewestCells_117 : decode cX3_fewestCells 117 = .ok (.aload_n 0, 1) := by decide +kernel
theorem dX3_fewestCells_118 : decode cX3_fewestCells 118 = .ok (.getfield 15, 3) := by decide +kernel
theorem dX3_fewestCells_121 : decode cX3_fewestCells 121 = .ok (.lconst 0, 1) := by decide +kernel
theorem dX3_fewestCells_122 : decode cX3_fewestCells 122 = .ok (.putfield 37, 3) := by decide +kernel
theorem dX3_fewestCells_125 : decode cX3_fewestCells 125 = .ok (.iload 8, 2) := by decide +kernel
theorem dX3_fewestCells_127 : decode cX3_fewestCells 127 = .ok (.ireturn, 1) := by decide +kernel
theorem dX3_freeIce_0 : decode cX3_freeIce 0 = .ok (.aload_n 0, 1) := by decide +kernel
theorem dX3_freeIce_1 : decode cX3_freeIce 1 = .ok (.getfield 9, 3) := by decide +kernel
theorem dX3_freeIce_4 : decode cX3_freeIce 4 = .ok (.getfield 51, 3) := by decide +kernel
theorem dX3_freeIce_7 : decode cX3_freeIce 7 = .ok (.lstore_n 3, 1) := by decide +kernel
theorem dX3_freeIce_8 : decode cX3_freeIce 8 = .ok (.iconst 0, 1) := by decide +kernel
theorem dX3_freeIce_9 : decode cX3_freeIce 9 = .ok (.istore 5, 2) := by decide +kernel
theorem dX3_freeIce_11 : decode cX3_freeIce 11 = .ok (.iload 5, 2) := by decide +kernel
theorem dX3_freeIce_13 : decode cX3_freeIce 13 = .ok (.aload_n 0, 1) := by decide +kernel
theorem dX3_freeIce_14 : decode cX3_freeIce 14 = .ok (.getfield 9, 3) := by decide +kernel
theorem dX3_freeIce_17 : decode cX3_freeIce 17 = .ok (.getfield 54, 3) := by decide +kernel
theorem dX3_freeIce_20 : decode cX3_freeIce 20 = .ok (.if_icmp .ge 35, 3) := by decide +kernel
theorem dX3_freeIce_23 : decode cX3_freeIce 23 = .ok (.lload_n 1, 1) := by decide +kernel
theorem dX3_freeIce_24 : decode cX3_freeIce 24 = .ok (.iload 5, 2) := by decide +kernel
theorem dX3_freeIce_26 : decode cX3_freeIce 26 = .ok (.invokestatic 19, 3) := by decide +kernel
theorem dX3_freeIce_29 : decode cX3_freeIce 29 = .ok (.istore 6, 2) := by decide +kernel
theorem dX3_freeIce_31 : decode cX3_freeIce 31 = .ok (.iload 6, 2) := by decide +kernel
theorem dX3_freeIce_33 : decode cX3_freeIce 33 = .ok (.bipush 36, 2) := by decide +kernel
theorem dX3_freeIce_35 : decode cX3_freeIce 35 = .ok (.if_icmp .ge 14, 3) := by decide +kernel
theorem dX3_freeIce_38 : decode cX3_freeIce 38 = .ok (.lload_n 3, 1) := by decide +kernel
theorem dX3_freeIce_39 : decode cX3_freeIce 39 = .ok (.lconst 1, 1) := by decide +kernel
theorem dX3_freeIce_40 : decode cX3_freeIce 40 = .ok (.iload 6, 2) := by decide +kernel
theorem dX3_freeIce_42 : decode cX3_freeIce 42 = .ok (.lshl, 1) := by decide +kernel
theorem dX3_freeIce_43 : decode cX3_freeIce 43 = .ok (.ldc2_w 57, 3) := by decide +kernel
theorem dX3_freeIce_46 : decode cX3_freeIce 46 = .ok (.lxor, 1) := by decide +kernel
theorem dX3_freeIce_47 : decode cX3_freeIce 47 = .ok (.land, 1) := by decide +kernel
theorem dX3_freeIce_48 : decode cX3_freeIce 48 = .ok (.lstore_n 3, 1) := by decide +kernel
theorem dX3_freeIce_49 : decode cX3_freeIce 49 = .ok (.iinc 5 1, 3) := by decide +kernel
theorem dX3_freeIce_52 : decode cX3_freeIce 52 = .ok (.goto (-41), 3) := by decide +kernel
theorem dX3_freeIce_55 : decode cX3_freeIce 55 = .ok (.lload_n 3, 1) := by decide +kernel
theorem dX3_freeIce_56 : decode cX3_freeIce 56 = .ok (.lreturn, 1) := by decide +kernel
theorem dX3_bringsHome_0 : decode cX3_bringsHome 0 = .ok (.iload 5, 2) := by decide +kernel
theorem dX3_bringsHome_2 : decode cX3_bringsHome 2 = .ok (.iconst 1, 1) := by decide +kernel
theorem dX3_bringsHome_3 : decode cX3_bringsHome 3 = .ok (.if_icmp .ge 5, 3) := by decide +kernel
theorem dX3_bringsHome_6 : decode cX3_bringsHome 6 = .ok (.iconst 0, 1) := by decide +kernel
theorem dX3_bringsHome_7 : decode cX3_bringsHome 7 = .ok (.ireturn, 1) := by decide +kernel
theorem dX3_bringsHome_8 : decode cX3_bringsHome 8 = .ok (.iconst 0, 1) := by decide +kernel
theorem dX3_bringsHome_9 : decode cX3_bringsHome 9 = .ok (.istore 6, 2) := by decide +kernel
theorem dX3_bringsHome_11 : decode cX3_bringsHome 11 = .ok (.iload 6, 2) := by decide +kernel
theorem dX3_bringsHome_13 : decode cX3_bringsHome 13 = .ok (.aload_n 0, 1) := by decide +kernel
theorem dX3_bringsHome_14 : decode cX3_bringsHome 14 = .ok (.getfield 9, 3) := by decide +kernel
theorem dX3_bringsHome_17 : decode cX3_bringsHome 17 = .ok (.getfield 54, 3) := by decide +kernel
theorem dX3_bringsHome_20 : decode cX3_bringsHome 20 = .ok (.if_icmp .ge 96, 3) := by decide +kernel
theorem dX3_bringsHome_23 : decode cX3_bringsHome 23 = .ok (.iconst 0, 1) := by decide +kernel
theorem dX3_bringsHome_24 : decode cX3_bringsHome 24 = .ok (.istore 7, 2) := by decide +kernel
theorem dX3_bringsHome_26 : decode cX3_bringsHome 26 = .ok (.iload 7, 2) := by decide +kernel
theorem dX3_bringsHome_28 : decode cX3_bringsHome 28 = .ok (.iconst 4, 1) := by decide +kernel
theorem dX3_bringsHome_29 : decode cX3_bringsHome 29 = .ok (.if_icmp .ge 81, 3) := by decide +kernel
theorem dX3_bringsHome_32 : decode cX3_bringsHome 32 = .ok (.aload_n 0, 1) := by decide +kernel
theorem dX3_bringsHome_33 : decode cX3_bringsHome 33 = .ok (.getfield 15, 3) := by decide +kernel
theorem dX3_bringsHome_36 : decode cX3_bringsHome 36 = .ok (.lload_n 1, 1) := by decide +kernel
theorem dX3_bringsHome_37 : decode cX3_bringsHome 37 = .ok (.iload 6, 2) := by decide +kernel
theorem dX3_bringsHome_39 : decode cX3_bringsHome 39 = .ok (.iload 7, 2) := by decide +kernel
theorem dX3_bringsHome_41 : decode cX3_bringsHome 41 = .ok (.invokevirtual 59, 3) := by decide +kernel
theorem dX3_bringsHome_44 : decode cX3_bringsHome 44 = .ok (.ifCond .ne 6, 3) := by decide +kernel
theorem dX3_bringsHome_47 : decode cX3_bringsHome 47 = .ok (.goto 57, 3) := by decide +kernel
theorem dX3_bringsHome_50 : decode cX3_bringsHome 50 = .ok (.aload_n 0, 1) := by decide +kernel
theorem dX3_bringsHome_51 : decode cX3_bringsHome 51 = .ok (.getfield 15, 3) := by decide +kernel
theorem dX3_bringsHome_54 : decode cX3_bringsHome 54 = .ok (.getfield 63, 3) := by decide +kernel
theorem dX3_bringsHome_57 : decode cX3_bringsHome 57 = .ok (.iload_n 3, 1) := by decide +kernel
theorem dX3_bringsHome_58 : decode cX3_bringsHome 58 = .ok (.if_icmp .ne 17, 3) := by decide +kernel
theorem dX3_bringsHome_61 : decode cX3_bringsHome 61 = .ok (.aload_n 0, 1) := by decide +kernel
theorem dX3_bringsHome_62 : decode cX3_bringsHome 62 = .ok (.getfield 15, 3) := by decide +kernel
theorem dX3_bringsHome_65 : decode cX3_bringsHome 65 = .ok (.getfield 66, 3) := by decide +kernel
theorem dX3_bringsHome_68 : decode cX3_bringsHome 68 = .ok (.iload 4, 2) := by decide +kernel
theorem dX3_bringsHome_70 : decode cX3_bringsHome 70 = .ok (.if_icmp .ne 5, 3) := by decide +kernel
theorem dX3_bringsHome_73 : decode cX3_bringsHome 73 = .ok (.iconst 1, 1) := by decide +kernel
theorem dX3_bringsHome_74 : decode cX3_bringsHome 74 = .ok (.ireturn, 1) := by decide +kernel
theorem dX3_bringsHome_75 : decode cX3_bringsHome 75 = .ok (.iload 5, 2) := by decide +kernel
theorem dX3_bringsHome_77 : decode cX3_bringsHome 77 = .ok (.iconst 1, 1) := by decide +kernel
theorem dX3_bringsHome_78 : decode cX3_bringsHome 78 = .ok (.if_icmp .le 26, 3) := by decide +kernel
theorem dX3_bringsHome_81 : decode cX3_bringsHome 81 = .ok (.aload_n 0, 1) := by decide +kernel
theorem dX3_bringsHome_82 : decode cX3_bringsHome 82 = .ok (.aload_n 0, 1) := by decide +kernel
theorem dX3_bringsHome_83 : decode cX3_bringsHome 83 = .ok (.getfield 15, 3) := by decide +kernel
theorem dX3_bringsHome_86 : decode cX3_bringsHome 86 = .ok (.getfield 69, 3) := by decide +kernel
theorem dX3_bringsHome_89 : decode cX3_bringsHome 89 = .ok (.iload_n 3, 1) := by decide +kernel
theorem dX3_bringsHome_90 : decode cX3_bringsHome 90 = .ok (.iload 4, 2) := by decide +kernel
theorem dX3_bringsHome_92 : decode cX3_bringsHome 92 = .ok (.iload 5, 2) := by decide +kernel
theorem dX3_bringsHome_94 : decode cX3_bringsHome 94 = .ok (.iconst 1, 1) := by decide +kernel
theorem dX3_bringsHome_95 : decode cX3_bringsHome 95 = .ok (.isub, 1) := by decide +kernel
theorem dX3_bringsHome_96 : decode cX3_bringsHome 96 = .ok (.invokevirtual 23, 3) := by decide +kernel
theorem dX3_bringsHome_99 : decode cX3_bringsHome 99 = .ok (.ifCond .eq 5, 3) := by decide +kernel
theorem dX3_bringsHome_102 : decode cX3_bringsHome 102 = .ok (.iconst 1, 1) := by decide +kernel
theorem dX3_bringsHome_103 : decode cX3_bringsHome 103 = .ok (.ireturn, 1) := by decide +kernel
theorem dX3_bringsHome_104 : decode cX3_bringsHome 104 = .ok (.iinc 7 1, 3) := by decide +kernel
theorem dX3_bringsHome_107 : decode cX3_bringsHome 107 = .ok (.goto (-81), 3) := by decide +kernel
theorem dX3_bringsHome_110 : decode cX3_bringsHome 110 = .ok (.iinc 6 1, 3) := by decide +kernel
theorem dX3_bringsHome_113 : decode cX3_bringsHome 113 = .ok (.goto (-102), 3) := by decide +kernel
theorem dX3_bringsHome_116 : decode cX3_bringsHome 116 = .ok (.iconst 0, 1) := by decide +kernel
theorem dX3_bringsHome_117 : decode cX3_bringsHome 117 = .ok (.ireturn, 1) := by decide +kernel
theorem dX4_init_0 : decode cX4_init 0 = .ok (.aload_n 0, 1) := by decide +kernel
theorem dX4_init_1 : decode cX4_init 1 = .ok (.invokespecial 3, 3) := by decide +kernel
theorem dX4_init_4 : decode cX4_init 4 = .ok (.aload_n 0, 1) := by decide +kernel
theorem dX4_init_5 : decode cX4_init 5 = .ok (.sipush 1500, 3) := by decide +kernel
theorem dX4_init_8 : decode cX4_init 8 = .ok (.newarray .long, 2) := by decide +kernel
theorem dX4_init_10 : decode cX4_init 10 = .ok (.putfield 11, 3) := by decide +kernel
theorem dX4_init_13 : decode cX4_init 13 = .ok (.aload_n 0, 1) := by decide +kernel
theorem dX4_init_14 : decode cX4_init 14 = .ok (.sipush 1500, 3) := by decide +kernel
theorem dX4_init_17 : decode cX4_init 17 = .ok (.newarray .int, 2) := by decide +kernel
theorem dX4_init_19 : decode cX4_init 19 = .ok (.putfield 15, 3) := by decide +kernel
theorem dX4_init_22 : decode cX4_init 22 = .ok (.aload_n 0, 1) := by decide +kernel
theorem dX4_init_23 : decode cX4_init 23 = .ok (.sipush 1500, 3) := by decide +kernel
theorem dX4_init_26 : decode cX4_init 26 = .ok (.newarray .int, 2) := by decide +kernel
theorem dX4_init_28 : decode cX4_init 28 = .ok (.putfield 19, 3) := by decide +kernel
theorem dX4_init_31 : decode cX4_init 31 = .ok (.aload_n 0, 1) := by decide +kernel
theorem dX4_init_32 : decode cX4_init 32 = .ok (.sipush 1500, 3) := by decide +kernel
theorem dX4_init_35 : decode cX4_init 35 = .ok (.newarray .int, 2) := by decide +kernel
theorem dX4_init_37 : decode cX4_init 37 = .ok (.putfield 22, 3) := by decide +kernel
theorem dX4_init_40 : decode cX4_init 40 = .ok (.aload_n 0, 1) := by decide +kernel
theorem dX4_init_41 : decode cX4_init 41 = .ok (.sipush 4096, 3) := by decide +kernel
theorem dX4_init_44 : decode cX4_init 44 = .ok (.newarray .int, 2) := by decide +kernel
theorem dX4_init_46 : decode cX4_init 46 = .ok (.putfield 25, 3) := by decide +kernel
theorem dX4_init_49 : decode cX4_init 49 = .ok (.aload_n 0, 1) := by decide +kernel
theorem dX4_init_50 : decode cX4_init 50 = .ok (.aload_n 1, 1) := by decide +kernel
theorem dX4_init_51 : decode cX4_init 51 = .ok (.putfield 28, 3) := by decide +kernel
theorem dX4_init_54 : decode cX4_init 54 = .ok (.aload_n 0, 1) := by decide +kernel
theorem dX4_init_55 : decode cX4_init 55 = .ok (.aload_n 2, 1) := by decide +kernel
theorem dX4_init_56 : decode cX4_init 56 = .ok (.putfield 32, 3) := by decide +kernel
theorem dX4_init_59 : decode cX4_init 59 = .ok (.return_, 1) := by decide +kernel
theorem dX4_fewestPushes_0 : decode cX4_fewestPushes 0 = .ok (.aload_n 0, 1) := by decide +kernel
theorem dX4_fewestPushes_1 : decode cX4_fewestPushes 1 = .ok (.getfield 25, 3) := by decide +kernel
theorem dX4_fewestPushes_4 : decode cX4_fewestPushes 4 = .ok (.iconst 0, 1) := by decide +kernel
theorem dX4_fewestPushes_5 : decode cX4_fewestPushes 5 = .ok (.invokestatic 36, 3) := by decide +kernel
theorem dX4_fewestPushes_8 : decode cX4_fewestPushes 8 = .ok (.aload_n 0, 1) := by decide +kernel
theorem dX4_fewestPushes_9 : decode cX4_fewestPushes 9 = .ok (.iconst 0, 1) := by decide +kernel
theorem dX4_fewestPushes_10 : decode cX4_fewestPushes 10 = .ok (.putfield 42, 3) := by decide +kernel
theorem dX4_fewestPushes_13 : decode cX4_fewestPushes 13 = .ok (.aload_n 0, 1) := by decide +kernel
theorem dX4_fewestPushes_14 : decode cX4_fewestPushes 14 = .ok (.iconst 0, 1) := by decide +kernel
theorem dX4_fewestPushes_15 : decode cX4_fewestPushes 15 = .ok (.putfield 46, 3) := by decide +kernel
theorem dX4_fewestPushes_18 : decode cX4_fewestPushes 18 = .ok (.aload_n 0, 1) := by decide +kernel
theorem dX4_fewestPushes_19 : decode cX4_fewestPushes 19 = .ok (.lload_n 1, 1) := by decide +kernel
theorem dX4_fewestPushes_20 : decode cX4_fewestPushes 20 = .ok (.iconst (-1), 1) := by decide +kernel
theorem dX4_fewestPushes_21 : decode cX4_fewestPushes 21 = .ok (.iconst 0, 1) := by decide +kernel
theorem dX4_fewestPushes_22 : decode cX4_fewestPushes 22 = .ok (.invokevirtual 49, 3) := by decide +kernel
theorem dX4_fewestPushes_25 : decode cX4_fewestPushes 25 = .ok (.pop, 1) := by decide +kernel
theorem dX4_fewestPushes_26 : decode cX4_fewestPushes 26 = .ok (.iconst 0, 1) := by decide +kernel
theorem dX4_fewestPushes_27 : decode cX4_fewestPushes 27 = .ok (.istore 4, 2) := by decide +kernel
theorem dX4_fewestPushes_29 : decode cX4_fewestPushes 29 = .ok (.iload 4, 2) := by decide +kernel
theorem dX4_fewestPushes_31 : decode cX4_fewestPushes 31 = .ok (.aload_n 0, 1) := by decide +kernel
theorem dX4_fewestPushes_32 : decode cX4_fewestPushes 32 = .ok (.getfield 42, 3) := by decide +kernel
theorem dX4_fewestPushes_35 : decode cX4_fewestPushes 35 = .ok (.if_icmp .ge 34, 3) := by decide +kernel
theorem dX4_fewestPushes_38 : decode cX4_fewestPushes 38 = .ok (.iload 4, 2) := by decide +kernel
theorem dX4_fewestPushes_40 : decode cX4_fewestPushes 40 = .ok (.sipush 1500, 3) := by decide +kernel
theorem dX4_fewestPushes_43 : decode cX4_fewestPushes 43 = .ok (.if_icmp .ge 26, 3) := by decide +kernel
theorem dX4_fewestPushes_46 : decode cX4_fewestPushes 46 = .ok (.aload_n 0, 1) := by decide +kernel
theorem dX4_fewestPushes_47 : decode cX4_fewestPushes 47 = .ok (.iload 4, 2) := by decide +kernel
theorem dX4_fewestPushes_49 : decode cX4_fewestPushes 49 = .ok (.iload_n 3, 1) := by decide +kernel
theorem dX4_fewestPushes_50 : decode cX4_fewestPushes 50 = .ok (.invokevirtual 53, 3) := by decide +kernel
theorem dX4_fewestPushes_53 : decode cX4_fewestPushes 53 = .ok (.istore 5, 2) := by decide +kernel
theorem dX4_fewestPushes_55 : decode cX4_fewestPushes 55 = .ok (.iload 5, 2) := by decide +kernel
theorem dX4_fewestPushes_57 : decode cX4_fewestPushes 57 = .ok (.ifCond .eq 6, 3) := by decide +kernel
theorem dX4_fewestPushes_60 : decode cX4_fewestPushes 60 = .ok (.iload 5, 2) := by decide +kernel
theorem dX4_fewestPushes_62 : decode cX4_fewestPushes 62 = .ok (.ireturn, 1) := by decide +kernel
theorem dX4_fewestPushes_63 : decode cX4_fewestPushes 63 = .ok (.iinc 4 1, 3) := by decide +kernel
theorem dX4_fewestPushes_66 : decode cX4_fewestPushes 66 = .ok (.goto (-37), 3) := by decide +kernel
theorem dX4_fewestPushes_69 : decode cX4_fewestPushes 69 = .ok (.bipush (-9), 2) := by decide +kernel
theorem dX4_fewestPushes_71 : decode cX4_fewestPushes 71 = .ok (.ireturn, 1) := by decide +kernel
theorem dX4_pushAt_0 : decode cX4_pushAt 0 = .ok (.iload_n 1, 1) := by decide +kernel
theorem dX4_pushAt_1 : decode cX4_pushAt 1 = .ok (.ifCond .lt 29, 3) := by decide +kernel
theorem dX4_pushAt_4 : decode cX4_pushAt 4 = .ok (.iload_n 1, 1) := by decide +kernel
theorem dX4_pushAt_5 : decode cX4_pushAt 5 = .ok (.aload_n 0, 1) := by decide +kernel
theorem dX4_pushAt_6 : decode cX4_pushAt 6 = .ok (.getfield 46, 3) := by decide +kernel
theorem dX4_pushAt_9 : decode cX4_pushAt 9 = .ok (.if_icmp .ge 21, 3) := by decide +kernel
theorem dX4_pushAt_12 : decode cX4_pushAt 12 = .ok (.iload_n 1, 1) := by decide +kernel
theorem dX4_pushAt_13 : decode cX4_pushAt 13 = .ok (.aload_n 0, 1) := by decide +kernel
theorem dX4_pushAt_14 : decode cX4_pushAt 14 = .ok (.getfield 22, 3) := by decide +kernel
theorem dX4_pushAt_17 : decode cX4_pushAt 17 = .ok (.arraylength, 1) := by decide +kernel
theorem dX4_pushAt_18 : decode cX4_pushAt 18 = .ok (.if_icmp .ge 12, 3) := by decide +kernel
theorem dX4_pushAt_21 : decode cX4_pushAt 21 = .ok (.aload_n 0, 1) := by decide +kernel
theorem dX4_pushAt_22 : decode cX4_pushAt 22 = .ok (.getfield 22, 3) := by decide +kernel
theorem dX4_pushAt_25 : decode cX4_pushAt 25 = .ok (.iload_n 1, 1) := by decide +kernel
theorem dX4_pushAt_26 : decode cX4_pushAt 26 = .ok (.iaload, 1) := by decide +kernel
theorem dX4_pushAt_27 : decode cX4_pushAt 27 = .ok (.goto 5, 3) := by decide +kernel
theorem dX4_pushAt_30 : decode cX4_pushAt 30 = .ok (.bipush (-9), 2) := by decide +kernel
theorem dX4_pushAt_32 : decode cX4_pushAt 32 = .ok (.ireturn, 1) := by decide +kernel
theorem dX4_goOnFrom_0 : decode cX4_goOnFrom 0 = .ok (.iload_n 1, 1) := by decide +kernel
theorem dX4_goOnFrom_1 : decode cX4_goOnFrom 1 = .ok (.ifCond .lt 10, 3) := by decide +kernel
theorem dX4_goOnFrom_4 : decode cX4_goOnFrom 4 = .ok (.iload_n 1, 1) := by decide +kernel
theorem dX4_goOnFrom_5 : decode cX4_goOnFrom 5 = .ok (.sipush 1500, 3) := by decide +kernel
theorem dX4_goOnFrom_8 : decode cX4_goOnFrom 8 = .ok (.if_icmp .lt 5, 3) := by decide +kernel
theorem dX4_goOnFrom_11 : decode cX4_goOnFrom 11 = .ok (.iconst 0, 1) := by decide +kernel
theorem dX4_goOnFrom_12 : decode cX4_goOnFrom 12 = .ok (.ireturn, 1) := by decide +kernel
theorem dX4_goOnFrom_13 : decode cX4_goOnFrom 13 = .ok (.aload_n 0, 1) := by decide +kernel
theorem dX4_goOnFrom_14 : decode cX4_goOnFrom 14 = .ok (.getfield 11, 3) := by decide +kernel
theorem dX4_goOnFrom_17 : decode cX4_goOnFrom 17 = .ok (.iload_n 1, 1) := by decide +kernel
theorem dX4_goOnFrom_18 : decode cX4_goOnFrom 18 = .ok (.laload, 1) := by decide +kernel
theorem dX4_goOnFrom_19 : decode cX4_goOnFrom 19 = .ok (.lstore_n 3, 1) := by decide +kernel
theorem dX4_goOnFrom_20 : decode cX4_goOnFrom 20 = .ok (.iconst 0, 1) := by decide +kernel
theorem dX4_goOnFrom_21 : decode cX4_goOnFrom 21 = .ok (.istore 5, 2) := by decide +kernel
theorem dX4_goOnFrom_23 : decode cX4_goOnFrom 23 = .ok (.iload 5, 2) := by decide +kernel
theorem dX4_goOnFrom_25 : decode cX4_goOnFrom 25 = .ok (.aload_n 0, 1) := by decide +kernel
theorem dX4_goOnFrom_26 : decode cX4_goOnFrom 26 = .ok (.getfield 28, 3) := by decide +kernel
theorem dX4_goOnFrom_29 : decode cX4_goOnFrom 29 = .ok (.getfield 57, 3) := by decide +kernel
theorem dX4_goOnFrom_32 : decode cX4_goOnFrom 32 = .ok (.if_icmp .ge 95, 3) := by decide +kernel
theorem dX4_goOnFrom_35 : decode cX4_goOnFrom 35 = .ok (.iconst 0, 1) := by decide +kernel
theorem dX4_goOnFrom_36 : decode cX4_goOnFrom 36 = .ok (.istore 6, 2) := by decide +kernel
theorem dX4_goOnFrom_38 : decode cX4_goOnFrom 38 = .ok (.iload 6, 2) := by decide +kernel
theorem dX4_goOnFrom_40 : decode cX4_goOnFrom 40 = .ok (.iconst 4, 1) := by decide +kernel
theorem dX4_goOnFrom_41 : decode cX4_goOnFrom 41 = .ok (.if_icmp .ge 80, 3) := by decide +kernel
theorem dX4_goOnFrom_44 : decode cX4_goOnFrom 44 = .ok (.aload_n 0, 1) := by decide +kernel
theorem dX4_goOnFrom_45 : decode cX4_goOnFrom 45 = .ok (.getfield 32, 3) := by decide +kernel
theorem dX4_goOnFrom_48 : decode cX4_goOnFrom 48 = .ok (.lload_n 3, 1) := by decide +kernel
theorem dX4_goOnFrom_49 : decode cX4_goOnFrom 49 = .ok (.iload 5, 2) := by decide +kernel
theorem dX4_goOnFrom_51 : decode cX4_goOnFrom 51 = .ok (.iload 6, 2) := by decide +kernel
theorem dX4_goOnFrom_53 : decode cX4_goOnFrom 53 = .ok (.invokevirtual 62, 3) := by decide +kernel
theorem dX4_goOnFrom_56 : decode cX4_goOnFrom 56 = .ok (.ifCond .ne 6, 3) := by decide +kernel
theorem dX4_goOnFrom_59 : decode cX4_goOnFrom 59 = .ok (.goto 56, 3) := by decide +kernel
theorem dX4_goOnFrom_62 : decode cX4_goOnFrom 62 = .ok (.aload_n 0, 1) := by decide +kernel
theorem dX4_goOnFrom_63 : decode cX4_goOnFrom 63 = .ok (.getfield 32, 3) := by decide +kernel
theorem dX4_goOnFrom_66 : decode cX4_goOnFrom 66 = .ok (.getfield 67, 3) := by decide +kernel
theorem dX4_goOnFrom_69 : decode cX4_goOnFrom 69 = .ok (.iload_n 2, 1) := by decide +kernel
theorem dX4_goOnFrom_70 : decode cX4_goOnFrom 70 = .ok (.if_icmp .ne 20, 3) := by decide +kernel
theorem dX4_goOnFrom_73 : decode cX4_goOnFrom 73 = .ok (.aload_n 0, 1) := by decide +kernel
theorem dX4_goOnFrom_74 : decode cX4_goOnFrom 74 = .ok (.iload_n 1, 1) := by decide +kernel
theorem dX4_goOnFrom_75 : decode cX4_goOnFrom 75 = .ok (.iload 5, 2) := by decide +kernel
theorem dX4_goOnFrom_77 : decode cX4_goOnFrom 77 = .ok (.iload 6, 2) := by decide +kernel
theorem dX4_goOnFrom_79 : decode cX4_goOnFrom 79 = .ok (.invokestatic 70, 3) := by decide +kernel
theorem dX4_goOnFrom_82 : decode cX4_goOnFrom 82 = .ok (.invokevirtual 73, 3) := by decide +kernel
theorem dX4_goOnFrom_85 : decode cX4_goOnFrom 85 = .ok (.aload_n 0, 1) := by decide +kernel
theorem dX4_goOnFrom_86 : decode cX4_goOnFrom 86 = .ok (.getfield 46, 3) := by decide +kernel
theorem dX4_goOnFrom_89 : decode cX4_goOnFrom 89 = .ok (.ireturn, 1) := by decide +kernel
theorem dX4_goOnFrom_90 : decode cX4_goOnFrom 90 = .ok (.aload_n 0, 1) := by decide +kernel
theorem dX4_goOnFrom_91 : decode cX4_goOnFrom 91 = .ok (.aload_n 0, 1) := by decide +kernel
theorem dX4_goOnFrom_92 : decode cX4_goOnFrom 92 = .ok (.getfield 32, 3) := by decide +kernel
theorem dX4_goOnFrom_95 : decode cX4_goOnFrom 95 = .ok (.getfield 77, 3) := by decide +kernel
theorem dX4_goOnFrom_98 : decode cX4_goOnFrom 98 = .ok (.iload_n 1, 1) := by decide +kernel
theorem dX4_goOnFrom_99 : decode cX4_goOnFrom 99 = .ok (.iload 5, 2) := by decide +kernel
theorem dX4_goOnFrom_101 : decode cX4_goOnFrom 101 = .ok (.iload 6, 2) := by decide +kernel
theorem dX4_goOnFrom_103 : decode cX4_goOnFrom 103 = .ok (.invokestatic 70, 3) := by decide +kernel
theorem dX4_goOnFrom_106 : decode cX4_goOnFrom 106 = .ok (.invokevirtual 49, 3) := by decide +kernel
theorem dX4_goOnFrom_109 : decode cX4_goOnFrom 109 = .ok (.ifCond .ne 6, 3) := by decide +kernel
theorem dX4_goOnFrom_112 : decode cX4_goOnFrom 112 = .ok (.bipush (-5), 2) := by decide +kernel
theorem dX4_goOnFrom_114 : decode cX4_goOnFrom 114 = .ok (.ireturn, 1) := by decide +kernel
theorem dX4_goOnFrom_115 : decode cX4_goOnFrom 115 = .ok (.iinc 6 1, 3) := by decide +kernel
theorem dX4_goOnFrom_118 : decode cX4_goOnFrom 118 = .ok (.goto (-80), 3) := by decide +kernel
theorem dX4_goOnFrom_121 : decode cX4_goOnFrom 121 = .ok (.iinc 5 1, 3) := by decide +kernel
theorem dX4_goOnFrom_124 : decode cX4_goOnFrom 124 = .ok (.goto (-101), 3) := by decide +kernel
theorem dX4_goOnFrom_127 : decode cX4_goOnFrom 127 = .ok (.iconst 0, 1) := by decide +kernel
theorem dX4_goOnFrom_128 : decode cX4_goOnFrom 128 = .ok (.ireturn, 1) := by decide +kernel
theorem dX4_note_0 : decode cX4_note 0 = .ok (.aload_n 0, 1) := by decide +kernel
theorem dX4_note_1 : decode cX4_note 1 = .ok (.lload_n 1, 1) := by decide +kernel
theorem dX4_note_2 : decode cX4_note 2 = .ok (.invokevirtual 81, 3) := by decide +kernel
theorem dX4_note_5 : decode cX4_note 5 = .ok (.istore 5, 2) := by decide +kernel
theorem dX4_note_7 : decode cX4_note 7 = .ok (.iload 5, 2) := by decide +kernel
theorem dX4_note_9 : decode cX4_note 9 = .ok (.ifCond .lt 11, 3) := by decide +kernel
theorem dX4_note_12 : decode cX4_note 12 = .ok (.iload 5, 2) := by decide +kernel
theorem dX4_note_14 : decode cX4_note 14 = .ok (.sipush 4096, 3) := by decide +kernel
theorem dX4_note_17 : decode cX4_note 17 = .ok (.if_icmp .lt 5, 3) := by decide +kernel
theorem dX4_note_20 : decode cX4_note 20 = .ok (.iconst 0, 1) := by decide +kernel
theorem dX4_note_21 : decode cX4_note 21 = .ok (.ireturn, 1) := by decide +kernel
theorem dX4_note_22 : decode cX4_note 22 = .ok (.aload_n 0, 1) := by decide +kernel
theorem dX4_note_23 : decode cX4_note 23 = .ok (.getfield 25, 3) := by decide +kernel
theorem dX4_note_26 : decode cX4_note 26 = .ok (.iload 5, 2) := by decide +kernel
theorem dX4_note_28 : decode cX4_note 28 = .ok (.iaload, 1) := by decide +kernel
theorem dX4_note_29 : decode cX4_note 29 = .ok (.ifCond .eq 5, 3) := by decide +kernel
theorem dX4_note_32 : decode cX4_note 32 = .ok (.iconst 1, 1) := by decide +kernel
theorem dX4_note_33 : decode cX4_note 33 = .ok (.ireturn, 1) := by decide +kernel
theorem dX4_note_34 : decode cX4_note 34 = .ok (.aload_n 0, 1) := by decide +kernel
theorem dX4_note_35 : decode cX4_note 35 = .ok (.getfield 42, 3) := by decide +kernel
theorem dX4_note_38 : decode cX4_note 38 = .ok (.ifCond .lt 13, 3) := by decide +kernel
theorem dX4_note_41 : decode cX4_note 41 = .ok (.aload_n 0, 1) := by decide +kernel
theorem dX4_note_42 : decode cX4_note 42 = .ok (.getfield 42, 3) := by decide +kernel
theorem dX4_note_45 : decode cX4_note 45 = .ok (.sipush 1500, 3) := by decide +kernel
theorem dX4_note_48 : decode cX4_note 48 = .ok (.if_icmp .lt 5, 3) := by decide +kernel
theorem dX4_note_51 : decode cX4_note 51 = .ok (.iconst 0, 1) := by decide +kernel
theorem dX4_note_52 : decode cX4_note 52 = .ok (.ireturn, 1) := by decide +kernel
theorem dX4_note_53 : decode cX4_note 53 = .ok (.aload_n 0, 1) := by decide +kernel
theorem dX4_note_54 : decode cX4_note 54 = .ok (.getfield 11, 3) := by decide +kernel
theorem dX4_note_57 : decode cX4_note 57 = .ok (.aload_n 0, 1) := by decide +kernel
theorem dX4_note_58 : decode cX4_note 58 = .ok (.getfield 42, 3) := by decide +kernel
theorem dX4_note_61 : decode cX4_note 61 = .ok (.lload_n 1, 1) := by decide +kernel
theorem dX4_note_62 : decode cX4_note 62 = .ok (.lastore, 1) := by decide +kernel
theorem dX4_note_63 : decode cX4_note 63 = .ok (.aload_n 0, 1) := by decide +kernel
theorem dX4_note_64 : decode cX4_note 64 = .ok (.getfield 15, 3) := by decide +kernel
theorem dX4_note_67 : decode cX4_note 67 = .ok (.aload_n 0, 1) := by decide +kernel
theorem dX4_note_68 : decode cX4_note 68 = .ok (.getfield 42, 3) := by decide +kernel
theorem dX4_note_71 : decode cX4_note 71 = .ok (.iload_n 3, 1) := by decide +kernel
theorem dX4_note_72 : decode cX4_note 72 = .ok (.iastore, 1) := by decide +kernel
theorem dX4_note_73 : decode cX4_note 73 = .ok (.aload_n 0, 1) := by decide +kernel
theorem dX4_note_74 : decode cX4_note 74 = .ok (.getfield 19, 3) := by decide +kernel
theorem dX4_note_77 : decode cX4_note 77 = .ok (.aload_n 0, 1) := by decide +kernel
theorem dX4_note_78 : decode cX4_note 78 = .ok (.getfield 42, 3) := by decide +kernel
theorem dX4_note_81 : decode cX4_note 81 = .ok (.iload 4, 2) := by decide +kernel
theorem dX4_note_83 : decode cX4_note 83 = .ok (.iastore, 1) := by decide +kernel
theorem dX4_note_84 : decode cX4_note 84 = .ok (.aload_n 0, 1) := by decide +kernel
theorem dX4_note_85 : decode cX4_note 85 = .ok (.dup, 1) := by decide +kernel
theorem dX4_note_86 : decode cX4_note 86 = .ok (.getfield 42, 3) := by decide +kernel
theorem dX4_note_89 : decode cX4_note 89 = .ok (.iconst 1, 1) := by decide +kernel
theorem dX4_note_90 : decode cX4_note 90 = .ok (.iadd, 1) := by decide +kernel
theorem dX4_note_91 : decode cX4_note 91 = .ok (.putfield 42, 3) := by decide +kernel
theorem dX4_note_94 : decode cX4_note 94 = .ok (.aload_n 0, 1) := by decide +kernel
theorem dX4_note_95 : decode cX4_note 95 = .ok (.getfield 25, 3) := by decide +kernel
theorem dX4_note_98 : decode cX4_note 98 = .ok (.iload 5, 2) := by decide +kernel
theorem dX4_note_100 : decode cX4_note 100 = .ok (.aload_n 0, 1) := by decide +kernel
theorem dX4_note_101 : decode cX4_note 101 = .ok (.getfield 42, 3) := by decide +kernel
theorem dX4_note_104 : decode cX4_note 104 = .ok (.iastore, 1) := by decide +kernel
theorem dX4_note_105 : decode cX4_note 105 = .ok (.iconst 1, 1) := by decide +kernel
theorem dX4_note_106 : decode cX4_note 106 = .ok (.ireturn, 1) := by decide +kernel
theorem dX4_slotOf_0 : decode cX4_slotOf 0 = .ok (.lload_n 1, 1) := by decide +kernel
theorem dX4_slotOf_1 : decode cX4_slotOf 1 = .ok (.ldc2_w 85, 3) := by decide +kernel
theorem dX4_slotOf_4 : decode cX4_slotOf 4 = .ok (.lmul, 1) := by decide +kernel
theorem dX4_slotOf_5 : decode cX4_slotOf 5 = .ok (.bipush 52, 2) := by decide +kernel
theorem dX4_slotOf_7 : decode cX4_slotOf 7 = .ok (.lushr, 1) := by decide +kernel
theorem dX4_slotOf_8 : decode cX4_slotOf 8 = .ok (.l2i, 1) := by decide +kernel
theorem dX4_slotOf_9 : decode cX4_slotOf 9 = .ok (.istore_n 3, 1) := by decide +kernel
theorem dX4_slotOf_10 : decode cX4_slotOf 10 = .ok (.iconst 0, 1) := by decide +kernel
theorem dX4_slotOf_11 : decode cX4_slotOf 11 = .ok (.istore 4, 2) := by decide +kernel
theorem dX4_slotOf_13 : decode cX4_slotOf 13 = .ok (.iload 4, 2) := by decide +kernel
theorem dX4_slotOf_15 : decode cX4_slotOf 15 = .ok (.sipush 4096, 3) := by decide +kernel
theorem dX4_slotOf_18 : decode cX4_slotOf 18 = .ok (.if_icmp .ge 58, 3) := by decide +kernel
theorem dX4_slotOf_21 : decode cX4_slotOf 21 = .ok (.iload_n 3, 1) := by decide +kernel
theorem dX4_slotOf_22 : decode cX4_slotOf 22 = .ok (.iload 4, 2) := by decide +kernel
theorem dX4_slotOf_24 : decode cX4_slotOf 24 = .ok (.iadd, 1) := by decide +kernel
theorem dX4_slotOf_25 : decode cX4_slotOf 25 = .ok (.sipush 4095, 3) := by decide +kernel
theorem dX4_slotOf_28 : decode cX4_slotOf 28 = .ok (.iand, 1) := by decide +kernel
theorem dX4_slotOf_29 : decode cX4_slotOf 29 = .ok (.istore 5, 2) := by decide +kernel
theorem dX4_slotOf_31 : decode cX4_slotOf 31 = .ok (.aload_n 0, 1) := by decide +kernel
theorem dX4_slotOf_32 : decode cX4_slotOf 32 = .ok (.getfield 25, 3) := by decide +kernel
theorem dX4_slotOf_35 : decode cX4_slotOf 35 = .ok (.iload 5, 2) := by decide +kernel
theorem dX4_slotOf_37 : decode cX4_slotOf 37 = .ok (.iaload, 1) := by decide +kernel
theorem dX4_slotOf_38 : decode cX4_slotOf 38 = .ok (.iconst 1, 1) := by decide +kernel
theorem dX4_slotOf_39 : decode cX4_slotOf 39 = .ok (.isub, 1) := by decide +kernel
theorem dX4_slotOf_40 : decode cX4_slotOf 40 = .ok (.istore 6, 2) := by decide +kernel
theorem dX4_slotOf_42 : decode cX4_slotOf 42 = .ok (.iload 6, 2) := by decide +kernel
theorem dX4_slotOf_44 : decode cX4_slotOf 44 = .ok (.ifCond .lt 23, 3) := by decide +kernel
theorem dX4_slotOf_47 : decode cX4_slotOf 47 = .ok (.iload 6, 2) := by decide +kernel
theorem dX4_slotOf_49 : decode cX4_slotOf 49 = .ok (.sipush 1500, 3) := by decide +kernel
theorem dX4_slotOf_52 : decode cX4_slotOf 52 = .ok (.if_icmp .ge 15, 3) := by decide +kernel
theorem dX4_slotOf_55 : decode cX4_slotOf 55 = .ok (.aload_n 0, 1) := by decide +kernel
theorem dX4_slotOf_56 : decode cX4_slotOf 56 = .ok (.getfield 11, 3) := by decide +kernel
theorem dX4_slotOf_59 : decode cX4_slotOf 59 = .ok (.iload 6, 2) := by decide +kernel
theorem dX4_slotOf_61 : decode cX4_slotOf 61 = .ok (.laload, 1) := by decide +kernel
theorem dX4_slotOf_62 : decode cX4_slotOf 62 = .ok (.lload_n 1, 1) := by decide +kernel
theorem dX4_slotOf_63 : decode cX4_slotOf 63 = .ok (.lcmp, 1) := by decide +kernel
theorem dX4_slotOf_64 : decode cX4_slotOf 64 = .ok (.ifCond .ne 6, 3) := by decide +kernel
theorem dX4_slotOf_67 : decode cX4_slotOf 67 = .ok (.iload 5, 2) := by decide +kernel
theorem dX4_slotOf_69 : decode cX4_slotOf 69 = .ok (.ireturn, 1) := by decide +kernel
theorem dX4_slotOf_70 : decode cX4_slotOf 70 = .ok (.iinc 4 1, 3) := by decide +kernel
theorem dX4_slotOf_73 : decode cX4_slotOf 73 = .ok (.goto (-60), 3) := by decide +kernel
theorem dX4_slotOf_76 : decode cX4_slotOf 76 = .ok (.iconst (-1), 1) := by decide +kernel
theorem dX4_slotOf_77 : decode cX4_slotOf 77 = .ok (.ireturn, 1) := by decide +kernel
theorem dX4_writeRow_0 : decode cX4_writeRow 0 = .ok (.aload_n 0, 1) := by decide +kernel
theorem dX4_writeRow_1 : decode cX4_writeRow 1 = .ok (.iconst 1, 1) := by decide +kernel
theorem dX4_writeRow_2 : decode cX4_writeRow 2 = .ok (.putfield 46, 3) := by decide +kernel
theorem dX4_writeRow_5 : decode cX4_writeRow 5 = .ok (.iload_n 1, 1) := by decide +kernel
theorem dX4_writeRow_6 : decode cX4_writeRow 6 = .ok (.istore_n 3, 1) := by decide +kernel
theorem dX4_writeRow_7 : decode cX4_writeRow 7 = .ok (.iconst 0, 1) := by decide +kernel
theorem dX4_writeRow_8 : decode cX4_writeRow 8 = .ok (.istore 4, 2) := by decide +kernel
theorem dX4_writeRow_10 : decode cX4_writeRow 10 = .ok (.iload 4, 2) := by decide +kernel
theorem dX4_writeRow_12 : decode cX4_writeRow 12 = .ok (.sipush 1500, 3) := by decide +kernel
theorem dX4_writeRow_15 : decode cX4_writeRow 15 = .ok (.if_icmp .ge 37, 3) := by decide +kernel
theorem dX4_writeRow_18 : decode cX4_writeRow 18 = .ok (.iload_n 3, 1) := by decide +kernel
theorem dX4_writeRow_19 : decode cX4_writeRow 19 = .ok (.ifCond .le 33, 3) := by decide +kernel
theorem dX4_writeRow_22 : decode cX4_writeRow 22 = .ok (.iload_n 3, 1) := by decide +kernel
theorem dX4_writeRow_23 : decode cX4_writeRow 23 = .ok (.sipush 1500, 3) := by decide +kernel
theorem dX4_writeRow_26 : decode cX4_writeRow 26 = .ok (.if_icmp .ge 26, 3) := by decide +kernel
theorem dX4_writeRow_29 : decode cX4_writeRow 29 = .ok (.aload_n 0, 1) := by decide +kernel
theorem dX4_writeRow_30 : decode cX4_writeRow 30 = .ok (.dup, 1) := by decide +kernel
theorem dX4_writeRow_31 : decode cX4_writeRow 31 = .ok (.getfield 46, 3) := by decide +kernel
theorem dX4_writeRow_34 : decode cX4_writeRow 34 = .ok (.iconst 1, 1) := by decide +kernel
theorem dX4_writeRow_35 : decode cX4_writeRow 35 = .ok (.iadd, 1) := by decide +kernel
theorem dX4_writeRow_36 : decode cX4_writeRow 36 = .ok (.putfield 46, 3) := by decide +kernel
theorem dX4_writeRow_39 : decode cX4_writeRow 39 = .ok (.aload_n 0, 1) := by decide +kernel
theorem dX4_writeRow_40 : decode cX4_writeRow 40 = .ok (.getfield 15, 3) := by decide +kernel
theorem dX4_writeRow_43 : decode cX4_writeRow 43 = .ok (.iload_n 3, 1) := by decide +kernel
theorem dX4_writeRow_44 : decode cX4_writeRow 44 = .ok (.iaload, 1) := by decide +kernel
theorem dX4_writeRow_45 : decode cX4_writeRow 45 = .ok (.istore_n 3, 1) := by decide +kernel
theorem dX4_writeRow_46 : decode cX4_writeRow 46 = .ok (.iinc 4 1, 3) := by decide +kernel
theorem dX4_writeRow_49 : decode cX4_writeRow 49 = .ok (.goto (-39), 3) := by decide +kernel
theorem dX4_writeRow_52 : decode cX4_writeRow 52 = .ok (.aload_n 0, 1) := by decide +kernel
theorem dX4_writeRow_53 : decode cX4_writeRow 53 = .ok (.getfield 46, 3) := by decide +kernel
theorem dX4_writeRow_56 : decode cX4_writeRow 56 = .ok (.iconst 1, 1) := by decide +kernel
theorem dX4_writeRow_57 : decode cX4_writeRow 57 = .ok (.isub, 1) := by decide +kernel
theorem dX4_writeRow_58 : decode cX4_writeRow 58 = .ok (.istore 4, 2) := by decide +kernel
theorem dX4_writeRow_60 : decode cX4_writeRow 60 = .ok (.iload_n 1, 1) := by decide +kernel
theorem dX4_writeRow_61 : decode cX4_writeRow 61 = .ok (.istore_n 3, 1) := by decide +kernel
theorem dX4_writeRow_62 : decode cX4_writeRow 62 = .ok (.iload_n 2, 1) := by decide +kernel
theorem dX4_writeRow_63 : decode cX4_writeRow 63 = .ok (.istore 5, 2) := by decide +kernel
theorem dX4_writeRow_65 : decode cX4_writeRow 65 = .ok (.iconst 0, 1) := by decide +kernel
theorem dX4_writeRow_66 : decode cX4_writeRow 66 = .ok (.istore 6, 2) := by decide +kernel
theorem dX4_writeRow_68 : decode cX4_writeRow 68 = .ok (.iload 6, 2) := by decide +kernel
theorem dX4_writeRow_70 : decode cX4_writeRow 70 = .ok (.sipush 1500, 3) := by decide +kernel
theorem dX4_writeRow_73 : decode cX4_writeRow 73 = .ok (.if_icmp .ge 62, 3) := by decide +kernel
theorem dX4_writeRow_76 : decode cX4_writeRow 76 = .ok (.iload 4, 2) := by decide +kernel
theorem dX4_writeRow_78 : decode cX4_writeRow 78 = .ok (.ifCond .lt 57, 3) := by decide +kernel
theorem dX4_writeRow_81 : decode cX4_writeRow 81 = .ok (.iload 4, 2) := by decide +kernel
theorem dX4_writeRow_83 : decode cX4_writeRow 83 = .ok (.aload_n 0, 1) := by decide +kernel
theorem dX4_writeRow_84 : decode cX4_writeRow 84 = .ok (.getfield 22, 3) := by decide +kernel
theorem dX4_writeRow_87 : decode cX4_writeRow 87 = .ok (.arraylength, 1) := by decide +kernel
theorem dX4_writeRow_88 : decode cX4_writeRow 88 = .ok (.if_icmp .ge 47, 3) := by decide +kernel
theorem dX4_writeRow_91 : decode cX4_writeRow 91 = .ok (.aload_n 0, 1) := by decide +kernel
theorem dX4_writeRow_92 : decode cX4_writeRow 92 = .ok (.getfield 22, 3) := by decide +kernel
theorem dX4_writeRow_95 : decode cX4_writeRow 95 = .ok (.iload 4, 2) := by decide +kernel
theorem dX4_writeRow_97 : decode cX4_writeRow 97 = .ok (.iload 5, 2) := by decide +kernel
theorem dX4_writeRow_99 : decode cX4_writeRow 99 = .ok (.iastore, 1) := by decide +kernel
theorem dX4_writeRow_100 : decode cX4_writeRow 100 = .ok (.iinc 4 (-1), 3) := by decide +kernel
theorem dX4_writeRow_103 : decode cX4_writeRow 103 = .ok (.iload_n 3, 1) := by decide +kernel
theorem dX4_writeRow_104 : decode cX4_writeRow 104 = .ok (.ifCond .le 25, 3) := by decide +kernel
theorem dX4_writeRow_107 : decode cX4_writeRow 107 = .ok (.iload_n 3, 1) := by decide +kernel
theorem dX4_writeRow_108 : decode cX4_writeRow 108 = .ok (.sipush 1500, 3) := by decide +kernel
theorem dX4_writeRow_111 : decode cX4_writeRow 111 = .ok (.if_icmp .ge 18, 3) := by decide +kernel
theorem dX4_writeRow_114 : decode cX4_writeRow 114 = .ok (.aload_n 0, 1) := by decide +kernel
theorem dX4_writeRow_115 : decode cX4_writeRow 115 = .ok (.getfield 19, 3) := by decide +kernel
theorem dX4_writeRow_118 : decode cX4_writeRow 118 = .ok (.iload_n 3, 1) := by decide +kernel
theorem dX4_writeRow_119 : decode cX4_writeRow 119 = .ok (.iaload, 1) := by decide +kernel
theorem dX4_writeRow_120 : decode cX4_writeRow 120 = .ok (.istore 5, 2) := by decide +kernel
theorem dX4_writeRow_122 : decode cX4_writeRow 122 = .ok (.aload_n 0, 1) := by decide +kernel
theorem dX4_writeRow_123 : decode cX4_writeRow 123 = .ok (.getfield 15, 3) := by decide +kernel
theorem dX4_writeRow_126 : decode cX4_writeRow 126 = .ok (.iload_n 3, 1) := by decide +kernel
theorem dX4_writeRow_127 : decode cX4_writeRow 127 = .ok (.iaload, 1) := by decide +kernel
theorem dX4_writeRow_128 : decode cX4_writeRow 128 = .ok (.istore_n 3, 1) := by decide +kernel
theorem dX4_writeRow_129 : decode cX4_writeRow 129 = .ok (.iinc 6 1, 3) := by decide +kernel
theorem dX4_writeRow_132 : decode cX4_writeRow 132 = .ok (.goto (-64), 3) := by decide +kernel
theorem dX4_writeRow_135 : decode cX4_writeRow 135 = .ok (.return_, 1) := by decide +kernel
theorem dX5_init_0 : decode cX5_init 0 = .ok (.aload_n 0, 1) := by decide +kernel
theorem dX5_init_1 : decode cX5_init 1 = .ok (.invokespecial 3, 3) := by decide +kernel
theorem dX5_init_4 : decode cX5_init 4 = .ok (.aload_n 0, 1) := by decide +kernel
theorem dX5_init_5 : decode cX5_init 5 = .ok (.bipush 60, 2) := by decide +kernel
theorem dX5_init_7 : decode cX5_init 7 = .ok (.newarray .int, 2) := by decide +kernel
theorem dX5_init_9 : decode cX5_init 9 = .ok (.putfield 11, 3) := by decide +kernel
theorem dX5_init_12 : decode cX5_init 12 = .ok (.aload_n 0, 1) := by decide +kernel
theorem dX5_init_13 : decode cX5_init 13 = .ok (.iconst (-1), 1) := by decide +kernel
theorem dX5_init_14 : decode cX5_init 14 = .ok (.putfield 15, 3) := by decide +kernel
theorem dX5_init_17 : decode cX5_init 17 = .ok (.return_, 1) := by decide +kernel
theorem dX5_hasNothing_0 : decode cX5_hasNothing 0 = .ok (.aload_n 0, 1) := by decide +kernel
theorem dX5_hasNothing_1 : decode cX5_hasNothing 1 = .ok (.getfield 15, 3) := by decide +kernel
theorem dX5_hasNothing_4 : decode cX5_hasNothing 4 = .ok (.iconst (-1), 1) := by decide +kernel
theorem dX5_hasNothing_5 : decode cX5_hasNothing 5 = .ok (.if_icmp .ne 7, 3) := by decide +kernel
theorem dX5_hasNothing_8 : decode cX5_hasNothing 8 = .ok (.iconst 1, 1) := by decide +kernel
theorem dX5_hasNothing_9 : decode cX5_hasNothing 9 = .ok (.goto 4, 3) := by decide +kernel
theorem dX5_hasNothing_12 : decode cX5_hasNothing 12 = .ok (.iconst 0, 1) := by decide +kernel
theorem dX5_hasNothing_13 : decode cX5_hasNothing 13 = .ok (.ireturn, 1) := by decide +kernel
theorem dX5_empty_0 : decode cX5_empty 0 = .ok (.aload_n 0, 1) := by decide +kernel
theorem dX5_empty_1 : decode cX5_empty 1 = .ok (.iconst (-1), 1) := by decide +kernel
theorem dX5_empty_2 : decode cX5_empty 2 = .ok (.putfield 15, 3) := by decide +kernel
theorem dX5_empty_5 : decode cX5_empty 5 = .ok (.aload_n 0, 1) := by decide +kernel
theorem dX5_empty_6 : decode cX5_empty 6 = .ok (.iconst 0, 1) := by decide +kernel
theorem dX5_empty_7 : decode cX5_empty 7 = .ok (.putfield 19, 3) := by decide +kernel
theorem dX5_empty_10 : decode cX5_empty 10 = .ok (.return_, 1) := by decide +kernel
theorem dX5_renew_0 : decode cX5_renew 0 = .ok (.aload_n 0, 1) := by decide +kernel
theorem dX5_renew_1 : decode cX5_renew 1 = .ok (.iload_n 1, 1) := by decide +kernel
theorem dX5_renew_2 : decode cX5_renew 2 = .ok (.putfield 15, 3) := by decide +kernel
theorem dX5_renew_5 : decode cX5_renew 5 = .ok (.aload_n 0, 1) := by decide +kernel
theorem dX5_renew_6 : decode cX5_renew 6 = .ok (.iload_n 2, 1) := by decide +kernel
theorem dX5_renew_7 : decode cX5_renew 7 = .ok (.putfield 19, 3) := by decide +kernel
theorem dX5_renew_10 : decode cX5_renew 10 = .ok (.aload_n 0, 1) := by decide +kernel
theorem dX5_renew_11 : decode cX5_renew 11 = .ok (.getfield 11, 3) := by decide +kernel
theorem dX5_renew_14 : decode cX5_renew 14 = .ok (.iconst 0, 1) := by decide +kernel
theorem dX5_renew_15 : decode cX5_renew 15 = .ok (.invokestatic 22, 3) := by decide +kernel
theorem dX5_renew_18 : decode cX5_renew 18 = .ok (.return_, 1) := by decide +kernel
theorem dX5_faultTakenAs_0 : decode cX5_faultTakenAs 0 = .ok (.aload_n 0, 1) := by decide +kernel
theorem dX5_faultTakenAs_1 : decode cX5_faultTakenAs 1 = .ok (.invokevirtual 28, 3) := by decide +kernel
theorem dX5_faultTakenAs_4 : decode cX5_faultTakenAs 4 = .ok (.ifCond .eq 5, 3) := by decide +kernel
theorem dX5_faultTakenAs_7 : decode cX5_faultTakenAs 7 = .ok (.iconst 1, 1) := by decide +kernel
theorem dX5_faultTakenAs_8 : decode cX5_faultTakenAs 8 = .ok (.ireturn, 1) := by decide +kernel
theorem dX5_faultTakenAs_9 : decode cX5_faultTakenAs 9 = .ok (.aload_n 0, 1) := by decide +kernel
theorem dX5_faultTakenAs_10 : decode cX5_faultTakenAs 10 = .ok (.getfield 15, 3) := by decide +kernel
theorem dX5_faultTakenAs_13 : decode cX5_faultTakenAs 13 = .ok (.iload_n 1, 1) := by decide +kernel
theorem dX5_faultTakenAs_14 : decode cX5_faultTakenAs 14 = .ok (.if_icmp .ne 7, 3) := by decide +kernel
theorem dX5_faultTakenAs_17 : decode cX5_faultTakenAs 17 = .ok (.iconst 0, 1) := by decide +kernel
theorem dX5_faultTakenAs_18 : decode cX5_faultTakenAs 18 = .ok (.goto 4, 3) := by decide +kernel
theorem dX5_faultTakenAs_21 : decode cX5_faultTakenAs 21 = .ok (.iconst 2, 1) := by decide +kernel
theorem dX5_faultTakenAs_22 : decode cX5_faultTakenAs 22 = .ok (.ireturn, 1) := by decide +kernel
theorem dX5_hasCell_0 : decode cX5_hasCell 0 = .ok (.iload_n 1, 1) := by decide +kernel
theorem dX5_hasCell_1 : decode cX5_hasCell 1 = .ok (.ifCond .lt 21, 3) := by decide +kernel
theorem dX5_hasCell_4 : decode cX5_hasCell 4 = .ok (.iload_n 1, 1) := by decide +kernel
theorem dX5_hasCell_5 : decode cX5_hasCell 5 = .ok (.aload_n 0, 1) := by decide +kernel
theorem dX5_hasCell_6 : decode cX5_hasCell 6 = .ok (.getfield 19, 3) := by decide +kernel
theorem dX5_hasCell_9 : decode cX5_hasCell 9 = .ok (.if_icmp .ge 13, 3) := by decide +kernel
theorem dX5_hasCell_12 : decode cX5_hasCell 12 = .ok (.iload_n 1, 1) := by decide +kernel
theorem dX5_hasCell_13 : decode cX5_hasCell 13 = .ok (.bipush 60, 2) := by decide +kernel
theorem dX5_hasCell_15 : decode cX5_hasCell 15 = .ok (.if_icmp .ge 7, 3) := by decide +kernel
theorem dX5_hasCell_18 : decode cX5_hasCell 18 = .ok (.iconst 1, 1) := by decide +kernel
theorem dX5_hasCell_19 : decode cX5_hasCell 19 = .ok (.goto 4, 3) := by decide +kernel
theorem dX5_hasCell_22 : decode cX5_hasCell 22 = .ok (.iconst 0, 1) := by decide +kernel
theorem dX5_hasCell_23 : decode cX5_hasCell 23 = .ok (.ireturn, 1) := by decide +kernel
theorem dX5_hasCells_0 : decode cX5_hasCells 0 = .ok (.iload_n 1, 1) := by decide +kernel
theorem dX5_hasCells_1 : decode cX5_hasCells 1 = .ok (.ifCond .lt 29, 3) := by decide +kernel
theorem dX5_hasCells_4 : decode cX5_hasCells 4 = .ok (.iload_n 2, 1) := by decide +kernel
theorem dX5_hasCells_5 : decode cX5_hasCells 5 = .ok (.ifCond .lt 25, 3) := by decide +kernel
theorem dX5_hasCells_8 : decode cX5_hasCells 8 = .ok (.iload_n 1, 1) := by decide +kernel
theorem dX5_hasCells_9 : decode cX5_hasCells 9 = .ok (.aload_n 0, 1) := by decide +kernel
theorem dX5_hasCells_10 : decode cX5_hasCells 10 = .ok (.getfield 19, 3) := by decide +kernel
theorem dX5_hasCells_13 : decode cX5_hasCells 13 = .ok (.if_icmp .gt 17, 3) := by decide +kernel
theorem dX5_hasCells_16 : decode cX5_hasCells 16 = .ok (.iload_n 2, 1) := by decide +kernel
theorem dX5_hasCells_17 : decode cX5_hasCells 17 = .ok (.aload_n 0, 1) := by decide +kernel
theorem dX5_hasCells_18 : decode cX5_hasCells 18 = .ok (.getfield 19, 3) := by decide +kernel
theorem dX5_hasCells_21 : decode cX5_hasCells 21 = .ok (.iload_n 1, 1) := by decide +kernel
theorem dX5_hasCells_22 : decode cX5_hasCells 22 = .ok (.isub, 1) := by decide +kernel
theorem dX5_hasCells_23 : decode cX5_hasCells 23 = .ok (.if_icmp .gt 7, 3) := by decide +kernel
theorem dX5_hasCells_26 : decode cX5_hasCells 26 = .ok (.iconst 1, 1) := by decide +kernel
theorem dX5_hasCells_27 : decode cX5_hasCells 27 = .ok (.goto 4, 3) := by decide +kernel
theorem dX5_hasCells_30 : decode cX5_hasCells 30 = .ok (.iconst 0, 1) := by decide +kernel
theorem dX5_hasCells_31 : decode cX5_hasCells 31 = .ok (.ireturn, 1) := by decide +kernel
theorem dX5_read_0 : decode cX5_read 0 = .ok (.aload_n 0, 1) := by decide +kernel
theorem dX5_read_1 : decode cX5_read 1 = .ok (.iload_n 1, 1) := by decide +kernel
theorem dX5_read_2 : decode cX5_read 2 = .ok (.invokevirtual 32, 3) := by decide +kernel
theorem dX5_read_5 : decode cX5_read 5 = .ok (.ifCond .eq 12, 3) := by decide +kernel
theorem dX5_read_8 : decode cX5_read 8 = .ok (.aload_n 0, 1) := by decide +kernel
theorem dX5_read_9 : decode cX5_read 9 = .ok (.getfield 11, 3) := by decide +kernel
theorem dX5_read_12 : decode cX5_read 12 = .ok (.iload_n 1, 1) := by decide +kernel
theorem dX5_read_13 : decode cX5_read 13 = .ok (.iaload, 1) := by decide +kernel
theorem dX5_read_14 : decode cX5_read 14 = .ok (.goto 4, 3) := by decide +kernel
theorem dX5_read_17 : decode cX5_read 17 = .ok (.iconst 0, 1) := by decide +kernel
theorem dX5_read_18 : decode cX5_read 18 = .ok (.ireturn, 1) := by decide +kernel
theorem dX5_write_0 : decode cX5_write 0 = .ok (.aload_n 0, 1) := by decide +kernel
theorem dX5_write_1 : decode cX5_write 1 = .ok (.iload_n 1, 1) := by decide +kernel
theorem dX5_write_2 : decode cX5_write 2 = .ok (.invokevirtual 32, 3) := by decide +kernel
theorem dX5_write_5 : decode cX5_write 5 = .ok (.ifCond .eq 14, 3) := by decide +kernel
theorem dX5_write_8 : decode cX5_write 8 = .ok (.aload_n 0, 1) := by decide +kernel
theorem dX5_write_9 : decode cX5_write 9 = .ok (.getfield 11, 3) := by decide +kernel
theorem dX5_write_12 : decode cX5_write 12 = .ok (.iload_n 1, 1) := by decide +kernel
theorem dX5_write_13 : decode cX5_write 13 = .ok (.aload_n 0, 1) := by decide +kernel
theorem dX5_write_14 : decode cX5_write 14 = .ok (.iload_n 2, 1) := by decide +kernel
theorem dX5_write_15 : decode cX5_write 15 = .ok (.invokevirtual 36, 3) := by decide +kernel
theorem dX5_write_18 : decode cX5_write 18 = .ok (.iastore, 1) := by decide +kernel
theorem dX5_write_19 : decode cX5_write 19 = .ok (.return_, 1) := by decide +kernel
theorem dX5_cut_0 : decode cX5_cut 0 = .ok (.aload_n 0, 1) := by decide +kernel
theorem dX5_cut_1 : decode cX5_cut 1 = .ok (.getfield 15, 3) := by decide +kernel
theorem dX5_cut_4 : decode cX5_cut 4 = .ok (.lookupswitch 34 #[(0, 28), (1, 31)], 28) := by decide +kernel
theorem dX5_cut_32 : decode cX5_cut 32 = .ok (.iload_n 1, 1) := by decide +kernel
theorem dX5_cut_33 : decode cX5_cut 33 = .ok (.i2b, 1) := by decide +kernel
theorem dX5_cut_34 : decode cX5_cut 34 = .ok (.ireturn, 1) := by decide +kernel
theorem dX5_cut_35 : decode cX5_cut 35 = .ok (.iload_n 1, 1) := by decide +kernel
theorem dX5_cut_36 : decode cX5_cut 36 = .ok (.i2s, 1) := by decide +kernel
theorem dX5_cut_37 : decode cX5_cut 37 = .ok (.ireturn, 1) := by decide +kernel
theorem dX5_cut_38 : decode cX5_cut 38 = .ok (.iload_n 1, 1) := by decide +kernel
theorem dX5_cut_39 : decode cX5_cut 39 = .ok (.ireturn, 1) := by decide +kernel
theorem dX6_init_0 : decode cX6_init 0 = .ok (.aload_n 0, 1) := by decide +kernel
theorem dX6_init_1 : decode cX6_init 1 = .ok (.invokespecial 3, 3) := by decide +kernel
theorem dX6_init_4 : decode cX6_init 4 = .ok (.aload_n 0, 1) := by decide +kernel
theorem dX6_init_5 : decode cX6_init 5 = .ok (.bipush 6, 2) := by decide +kernel
theorem dX6_init_7 : decode cX6_init 7 = .ok (.newarray .int, 2) := by decide +kernel
theorem dX6_init_9 : decode cX6_init 9 = .ok (.putfield 9, 3) := by decide +kernel
theorem dX6_init_12 : decode cX6_init 12 = .ok (.aload_n 0, 1) := by decide +kernel
theorem dX6_init_13 : decode cX6_init 13 = .ok (.ldc2_w 15, 3) := by decide +kernel
theorem dX6_init_16 : decode cX6_init 16 = .ok (.putfield 17, 3) := by decide +kernel
theorem dX6_init_19 : decode cX6_init 19 = .ok (.aload_n 0, 1) := by decide +kernel
theorem dX6_init_20 : decode cX6_init 20 = .ok (.aload_n 1, 1) := by decide +kernel
theorem dX6_init_21 : decode cX6_init 21 = .ok (.putfield 21, 3) := by decide +kernel
theorem dX6_init_24 : decode cX6_init 24 = .ok (.return_, 1) := by decide +kernel
theorem dX6_forget_0 : decode cX6_forget 0 = .ok (.aload_n 0, 1) := by decide +kernel
theorem dX6_forget_1 : decode cX6_forget 1 = .ok (.ldc2_w 15, 3) := by decide +kernel
theorem dX6_forget_4 : decode cX6_forget 4 = .ok (.putfield 17, 3) := by decide +kernel
theorem dX6_forget_7 : decode cX6_forget 7 = .ok (.return_, 1) := by decide +kernel
theorem dX6_goes_0 : decode cX6_goes 0 = .ok (.lload_n 1, 1) := by decide +kernel
theorem dX6_goes_1 : decode cX6_goes 1 = .ok (.aload_n 0, 1) := by decide +kernel
theorem dX6_goes_2 : decode cX6_goes 2 = .ok (.getfield 17, 3) := by decide +kernel
theorem dX6_goes_5 : decode cX6_goes 5 = .ok (.lcmp, 1) := by decide +kernel
theorem dX6_goes_6 : decode cX6_goes 6 = .ok (.ifCond .eq 8, 3) := by decide +kernel
theorem dX6_goes_9 : decode cX6_goes 9 = .ok (.aload_n 0, 1) := by decide +kernel
theorem dX6_goes_10 : decode cX6_goes 10 = .ok (.lload_n 1, 1) := by decide +kernel
theorem dX6_goes_11 : decode cX6_goes 11 = .ok (.invokevirtual 25, 3) := by decide +kernel
theorem dX6_goes_14 : decode cX6_goes 14 = .ok (.aload_n 0, 1) := by decide +kernel
theorem dX6_goes_15 : decode cX6_goes 15 = .ok (.lload_n 1, 1) := by decide +kernel
theorem dX6_goes_16 : decode cX6_goes 16 = .ok (.putfield 29, 3) := by decide +kernel
theorem dX6_goes_19 : decode cX6_goes 19 = .ok (.aload_n 0, 1) := by decide +kernel
theorem dX6_goes_20 : decode cX6_goes 20 = .ok (.lconst 0, 1) := by decide +kernel
theorem dX6_goes_21 : decode cX6_goes 21 = .ok (.putfield 32, 3) := by decide +kernel
theorem dX6_goes_24 : decode cX6_goes 24 = .ok (.aload_n 0, 1) := by decide +kernel
theorem dX6_goes_25 : decode cX6_goes 25 = .ok (.iconst (-1), 1) := by decide +kernel
theorem dX6_goes_26 : decode cX6_goes 26 = .ok (.putfield 35, 3) := by decide +kernel
theorem dX6_goes_29 : decode cX6_goes 29 = .ok (.aload_n 0, 1) := by decide +kernel
theorem dX6_goes_30 : decode cX6_goes 30 = .ok (.iconst (-1), 1) := by decide +kernel
theorem dX6_goes_31 : decode cX6_goes 31 = .ok (.putfield 39, 3) := by decide +kernel
theorem dX6_goes_34 : decode cX6_goes 34 = .ok (.aload_n 0, 1) := by decide +kernel
theorem dX6_goes_35 : decode cX6_goes 35 = .ok (.getfield 21, 3) := by decide +kernel
theorem dX6_goes_38 : decode cX6_goes 38 = .ok (.iload_n 3, 1) := by decide +kernel
theorem dX6_goes_39 : decode cX6_goes 39 = .ok (.invokevirtual 42, 3) := by decide +kernel
theorem dX6_goes_42 : decode cX6_goes 42 = .ok (.ifCond .eq 14, 3) := by decide +kernel
theorem dX6_goes_45 : decode cX6_goes 45 = .ok (.aload_n 0, 1) := by decide +kernel
theorem dX6_goes_46 : decode cX6_goes 46 = .ok (.getfield 9, 3) := by decide +kernel
theorem dX6_goes_49 : decode cX6_goes 49 = .ok (.iload_n 3, 1) := by decide +kernel
theorem dX6_goes_50 : decode cX6_goes 50 = .ok (.iaload, 1) := by decide +kernel
theorem dX6_goes_51 : decode cX6_goes 51 = .ok (.bipush 36, 2) := by decide +kernel
theorem dX6_goes_53 : decode cX6_goes 53 = .ok (.if_icmp .lt 5, 3) := by decide +kernel
theorem dX6_goes_56 : decode cX6_goes 56 = .ok (.iconst 0, 1) := by decide +kernel
theorem dX6_goes_57 : decode cX6_goes 57 = .ok (.ireturn, 1) := by decide +kernel
theorem dX6_goes_58 : decode cX6_goes 58 = .ok (.iload_n 3, 1) := by decide +kernel
theorem dX6_goes_59 : decode cX6_goes 59 = .ok (.istore 5, 2) := by decide +kernel
theorem dX6_goes_61 : decode cX6_goes 61 = .ok (.iconst 0, 1) := by decide +kernel
theorem dX6_goes_62 : decode cX6_goes 62 = .ok (.istore 6, 2) := by decide +kernel
theorem dX6_goes_64 : decode cX6_goes 64 = .ok (.iload 6, 2) := by decide +kernel
theorem dX6_goes_66 : decode cX6_goes 66 = .ok (.bipush 6, 2) := by decide +kernel
theorem dX6_goes_68 : decode cX6_goes 68 = .ok (.if_icmp .ge 24, 3) := by decide +kernel
theorem dX6_goes_71 : decode cX6_goes 71 = .ok (.iload 5, 2) := by decide +kernel
theorem dX6_goes_73 : decode cX6_goes 73 = .ok (.ifCond .lt 19, 3) := by decide +kernel
theorem dX6_goes_76 : decode cX6_goes 76 = .ok (.aload_n 0, 1) := by decide +kernel
theorem dX6_goes_77 : decode cX6_goes 77 = .ok (.iload 5, 2) := by decide +kernel
theorem dX6_goes_79 : decode cX6_goes 79 = .ok (.iload 4, 2) := by decide +kernel
theorem dX6_goes_81 : decode cX6_goes 81 = .ok (.invokevirtual 48, 3) := by decide +kernel
theorem dX6_goes_84 : decode cX6_goes 84 = .ok (.istore 5, 2) := by decide +kernel
theorem dX6_goes_86 : decode cX6_goes 86 = .ok (.iinc 6 1, 3) := by decide +kernel
theorem dX6_goes_89 : decode cX6_goes 89 = .ok (.goto (-25), 3) := by decide +kernel
theorem dX6_goes_92 : decode cX6_goes 92 = .ok (.aload_n 0, 1) := by decide +kernel
theorem dX6_goes_93 : decode cX6_goes 93 = .ok (.getfield 32, 3) := by decide +kernel
theorem dX6_goes_96 : decode cX6_goes 96 = .ok (.lconst 0, 1) := by decide +kernel
theorem dX6_goes_97 : decode cX6_goes 97 = .ok (.lcmp, 1) := by decide +kernel
theorem dX6_goes_98 : decode cX6_goes 98 = .ok (.ifCond .eq 7, 3) := by decide +kernel
theorem dX6_goes_101 : decode cX6_goes 101 = .ok (.iconst 1, 1) := by decide +kernel
theorem dX6_goes_102 : decode cX6_goes 102 = .ok (.goto 4, 3) := by decide +kernel
theorem dX6_goes_105 : decode cX6_goes 105 = .ok (.iconst 0, 1) := by decide +kernel
theorem dX6_goes_106 : decode cX6_goes 106 = .ok (.ireturn, 1) := by decide +kernel
theorem dX6_load_0 : decode cX6_load 0 = .ok (.aload_n 0, 1) := by decide +kernel
theorem dX6_load_1 : decode cX6_load 1 = .ok (.lconst 0, 1) := by decide +kernel
theorem dX6_load_2 : decode cX6_load 2 = .ok (.putfield 52, 3) := by decide +kernel
theorem dX6_load_5 : decode cX6_load 5 = .ok (.iconst 0, 1) := by decide +kernel
theorem dX6_load_6 : decode cX6_load 6 = .ok (.istore_n 3, 1) := by decide +kernel
theorem dX6_load_7 : decode cX6_load 7 = .ok (.iload_n 3, 1) := by decide +kernel
theorem dX6_load_8 : decode cX6_load 8 = .ok (.aload_n 0, 1) := by decide +kernel
theorem dX6_load_9 : decode cX6_load 9 = .ok (.getfield 21, 3) := by decide +kernel
theorem dX6_load_12 : decode cX6_load 12 = .ok (.getfield 55, 3) := by decide +kernel
theorem dX6_load_15 : decode cX6_load 15 = .ok (.if_icmp .ge 50, 3) := by decide +kernel
theorem dX6_load_18 : decode cX6_load 18 = .ok (.iload_n 3, 1) := by decide +kernel
theorem dX6_load_19 : decode cX6_load 19 = .ok (.bipush 6, 2) := by decide +kernel
theorem dX6_load_21 : decode cX6_load 21 = .ok (.if_icmp .ge 44, 3) := by decide +kernel
theorem dX6_load_24 : decode cX6_load 24 = .ok (.lload_n 1, 1) := by decide +kernel
theorem dX6_load_25 : decode cX6_load 25 = .ok (.iload_n 3, 1) := by decide +kernel
theorem dX6_load_26 : decode cX6_load 26 = .ok (.invokestatic 58, 3) := by decide +kernel
theorem dX6_load_29 : decode cX6_load 29 = .ok (.istore 4, 2) := by decide +kernel
theorem dX6_load_31 : decode cX6_load 31 = .ok (.aload_n 0, 1) := by decide +kernel
theorem dX6_load_32 : decode cX6_load 32 = .ok (.getfield 9, 3) := by decide +kernel
theorem dX6_load_35 : decode cX6_load 35 = .ok (.iload_n 3, 1) := by decide +kernel
theorem dX6_load_36 : decode cX6_load 36 = .ok (.iload 4, 2) := by decide +kernel
theorem dX6_load_38 : decode cX6_load 38 = .ok (.iastore, 1) := by decide +kernel
theorem dX6_load_39 : decode cX6_load 39 = .ok (.iload 4, 2) := by decide +kernel
theorem dX6_load_41 : decode cX6_load 41 = .ok (.bipush 36, 2) := by decide +kernel
theorem dX6_load_43 : decode cX6_load 43 = .ok (.if_icmp .ge 16, 3) := by decide +kernel
theorem dX6_load_46 : decode cX6_load 46 = .ok (.aload_n 0, 1) := by decide +kernel
theorem dX6_load_47 : decode cX6_load 47 = .ok (.dup, 1) := by decide +kernel
theorem dX6_load_48 : decode cX6_load 48 = .ok (.getfield 52, 3) := by decide +kernel
theorem dX6_load_51 : decode cX6_load 51 = .ok (.lconst 1, 1) := by decide +kernel
theorem dX6_load_52 : decode cX6_load 52 = .ok (.iload 4, 2) := by decide +kernel
theorem dX6_load_54 : decode cX6_load 54 = .ok (.lshl, 1) := by decide +kernel
theorem dX6_load_55 : decode cX6_load 55 = .ok (.lor, 1) := by decide +kernel
theorem dX6_load_56 : decode cX6_load 56 = .ok (.putfield 52, 3) := by decide +kernel
theorem dX6_load_59 : decode cX6_load 59 = .ok (.iinc 3 1, 3) := by decide +kernel
theorem dX6_load_62 : decode cX6_load 62 = .ok (.goto (-55), 3) := by decide +kernel
theorem dX6_load_65 : decode cX6_load 65 = .ok (.aload_n 0, 1) := by decide +kernel
theorem dX6_load_66 : decode cX6_load 66 = .ok (.aload_n 0, 1) := by decide +kernel
theorem dX6_load_67 : decode cX6_load 67 = .ok (.getfield 21, 3) := by decide +kernel
theorem dX6_load_70 : decode cX6_load 70 = .ok (.lload_n 1, 1) := by decide +kernel
theorem dX6_load_71 : decode cX6_load 71 = .ok (.invokevirtual 62, 3) := by decide +kernel
theorem dX6_load_74 : decode cX6_load 74 = .ok (.putfield 66, 3) := by decide +kernel
theorem dX6_load_77 : decode cX6_load 77 = .ok (.aload_n 0, 1) := by decide +kernel
theorem dX6_load_78 : decode cX6_load 78 = .ok (.lload_n 1, 1) := by decide +kernel
theorem dX6_load_79 : decode cX6_load 79 = .ok (.putfield 17, 3) := by decide +kernel
theorem dX6_load_82 : decode cX6_load 82 = .ok (.return_, 1) := by decide +kernel
theorem dX6_slideOne_0 : decode cX6_slideOne 0 = .ok (.aload_n 0, 1) := by decide +kernel
theorem dX6_slideOne_1 : decode cX6_slideOne 1 = .ok (.getfield 21, 3) := by decide +kernel
theorem dX6_slideOne_4 : decode cX6_slideOne 4 = .ok (.iload_n 1, 1) := by decide +kernel
theorem dX6_slideOne_5 : decode cX6_slideOne 5 = .ok (.invokevirtual 42, 3) := by decide +kernel
theorem dX6_slideOne_8 : decode cX6_slideOne 8 = .ok (.ifCond .ne 5, 3) := by decide +kernel
theorem dX6_slideOne_11 : decode cX6_slideOne 11 = .ok (.iconst (-1), 1) := by decide +kernel
theorem dX6_slideOne_12 : decode cX6_slideOne 12 = .ok (.ireturn, 1) := by decide +kernel
theorem dX6_slideOne_13 : decode cX6_slideOne 13 = .ok (.aload_n 0, 1) := by decide +kernel
theorem dX6_slideOne_14 : decode cX6_slideOne 14 = .ok (.getfield 21, 3) := by decide +kernel
theorem dX6_slideOne_17 : decode cX6_slideOne 17 = .ok (.iload_n 1, 1) := by decide +kernel
theorem dX6_slideOne_18 : decode cX6_slideOne 18 = .ok (.invokevirtual 68, 3) := by decide +kernel
theorem dX6_slideOne_21 : decode cX6_slideOne 21 = .ok (.istore_n 3, 1) := by decide +kernel
theorem dX6_slideOne_22 : decode cX6_slideOne 22 = .ok (.aload_n 0, 1) := by decide +kernel
theorem dX6_slideOne_23 : decode cX6_slideOne 23 = .ok (.getfield 9, 3) := by decide +kernel
theorem dX6_slideOne_26 : decode cX6_slideOne 26 = .ok (.iload_n 1, 1) := by decide +kernel
theorem dX6_slideOne_27 : decode cX6_slideOne 27 = .ok (.iaload, 1) := by decide +kernel
theorem dX6_slideOne_28 : decode cX6_slideOne 28 = .ok (.istore 4, 2) := by decide +kernel
theorem dX6_slideOne_30 : decode cX6_slideOne 30 = .ok (.iload_n 3, 1) := by decide +kernel
theorem dX6_slideOne_31 : decode cX6_slideOne 31 = .ok (.iconst 2, 1) := by decide +kernel
theorem dX6_slideOne_32 : decode cX6_slideOne 32 = .ok (.if_icmp .ne 7, 3) := by decide +kernel
theorem dX6_slideOne_35 : decode cX6_slideOne 35 = .ok (.lconst 0, 1) := by decide +kernel
theorem dX6_slideOne_36 : decode cX6_slideOne 36 = .ok (.goto 15, 3) := by decide +kernel
theorem dX6_slideOne_39 : decode cX6_slideOne 39 = .ok (.aload_n 0, 1) := by decide +kernel
theorem dX6_slideOne_40 : decode cX6_slideOne 40 = .ok (.getfield 21, 3) := by decide +kernel
theorem dX6_slideOne_43 : decode cX6_slideOne 43 = .ok (.getfield 72, 3) := by decide +kernel
theorem dX6_slideOne_46 : decode cX6_slideOne 46 = .ok (.aload_n 0, 1) := by decide +kernel
theorem dX6_slideOne_47 : decode cX6_slideOne 47 = .ok (.getfield 75, 3) := by decide +kernel
theorem dX6_slideOne_50 : decode cX6_slideOne 50 = .ok (.lor, 1) := by decide +kernel
theorem dX6_slideOne_51 : decode cX6_slideOne 51 = .ok (.lstore 5, 2) := by decide +kernel
theorem dX6_slideOne_53 : decode cX6_slideOne 53 = .ok (.aload_n 0, 1) := by decide +kernel
theorem dX6_slideOne_54 : decode cX6_slideOne 54 = .ok (.getfield 66, 3) := by decide +kernel
theorem dX6_slideOne_57 : decode cX6_slideOne 57 = .ok (.aload_n 0, 1) := by decide +kernel
theorem dX6_slideOne_58 : decode cX6_slideOne 58 = .ok (.getfield 21, 3) := by decide +kernel
theorem dX6_slideOne_61 : decode cX6_slideOne 61 = .ok (.getfield 78, 3) := by decide +kernel
theorem dX6_slideOne_64 : decode cX6_slideOne 64 = .ok (.lor, 1) := by decide +kernel
theorem dX6_slideOne_65 : decode cX6_slideOne 65 = .ok (.aload_n 0, 1) := by decide +kernel
theorem dX6_slideOne_66 : decode cX6_slideOne 66 = .ok (.getfield 21, 3) := by decide +kernel
theorem dX6_slideOne_69 : decode cX6_slideOne 69 = .ok (.getfield 81, 3) := by decide +kernel
theorem dX6_slideOne_72 : decode cX6_slideOne 72 = .ok (.lor, 1) := by decide +kernel
theorem dX6_slideOne_73 : decode cX6_slideOne 73 = .ok (.lstore 7, 2) := by decide +kernel
theorem dX6_slideOne_75 : decode cX6_slideOne 75 = .ok (.iconst 0, 1) := by decide +kernel
theorem dX6_slideOne_76 : decode cX6_slideOne 76 = .ok (.istore 9, 2) := by decide +kernel
theorem dX6_slideOne_78 : decode cX6_slideOne 78 = .ok (.iload 9, 2) := by decide +kernel
theorem dX6_slideOne_80 : decode cX6_slideOne 80 = .ok (.bipush 36, 2) := by decide +kernel
theorem dX6_slideOne_82 : decode cX6_slideOne 82 = .ok (.if_icmp .ge 135, 3) := by decide +kernel
theorem dX6_slideOne_85 : decode cX6_slideOne 85 = .ok (.aload_n 0, 1) := by decide +kernel
theorem dX6_slideOne_86 : decode cX6_slideOne 86 = .ok (.getfield 21, 3) := by decide +kernel
theorem dX6_slideOne_89 : decode cX6_slideOne 89 = .ok (.iload 4, 2) := by decide +kernel
theorem dX6_slideOne_91 : decode cX6_slideOne 91 = .ok (.iload_n 2, 1) := by decide +kernel
theorem dX6_slideOne_92 : decode cX6_slideOne 92 = .ok (.invokevirtual 84, 3) := by decide +kernel
theorem dX6_slideOne_95 : decode cX6_slideOne 95 = .ok (.istore 10, 2) := by decide +kernel
theorem dX6_slideOne_97 : decode cX6_slideOne 97 = .ok (.iload 10, 2) := by decide +kernel
theorem dX6_slideOne_99 : decode cX6_slideOne 99 = .ok (.ifCond .lt 15, 3) := by decide +kernel
theorem dX6_slideOne_102 : decode cX6_slideOne 102 = .ok (.aload_n 0, 1) := by decide +kernel
theorem dX6_slideOne_103 : decode cX6_slideOne 103 = .ok (.getfield 52, 3) := by decide +kernel
theorem dX6_slideOne_106 : decode cX6_slideOne 106 = .ok (.iload 10, 2) := by decide +kernel
theorem dX6_slideOne_108 : decode cX6_slideOne 108 = .ok (.invokestatic 87, 3) := by decide +kernel
theorem dX6_slideOne_111 : decode cX6_slideOne 111 = .ok (.ifCond .eq 38, 3) := by decide +kernel
theorem dX6_slideOne_114 : decode cX6_slideOne 114 = .ok (.aload_n 0, 1) := by decide +kernel
theorem dX6_slideOne_115 : decode cX6_slideOne 115 = .ok (.aload_n 0, 1) := by decide +kernel
theorem dX6_slideOne_116 : decode cX6_slideOne 116 = .ok (.getfield 29, 3) := by decide +kernel
theorem dX6_slideOne_119 : decode cX6_slideOne 119 = .ok (.iload_n 1, 1) := by decide +kernel
theorem dX6_slideOne_120 : decode cX6_slideOne 120 = .ok (.iload 4, 2) := by decide +kernel
theorem dX6_slideOne_122 : decode cX6_slideOne 122 = .ok (.invokestatic 91, 3) := by decide +kernel
theorem dX6_slideOne_125 : decode cX6_slideOne 125 = .ok (.putfield 29, 3) := by decide +kernel
theorem dX6_slideOne_128 : decode cX6_slideOne 128 = .ok (.iload 10, 2) := by decide +kernel
theorem dX6_slideOne_130 : decode cX6_slideOne 130 = .ok (.ifCond .lt 17, 3) := by decide +kernel
theorem dX6_slideOne_133 : decode cX6_slideOne 133 = .ok (.iload_n 3, 1) := by decide +kernel
theorem dX6_slideOne_134 : decode cX6_slideOne 134 = .ok (.iconst 1, 1) := by decide +kernel
theorem dX6_slideOne_135 : decode cX6_slideOne 135 = .ok (.if_icmp .lt 12, 3) := by decide +kernel
theorem dX6_slideOne_138 : decode cX6_slideOne 138 = .ok (.aload_n 0, 1) := by decide +kernel
theorem dX6_slideOne_139 : decode cX6_slideOne 139 = .ok (.iload 10, 2) := by decide +kernel
theorem dX6_slideOne_141 : decode cX6_slideOne 141 = .ok (.invokevirtual 95, 3) := by decide +kernel
theorem dX6_slideOne_144 : decode cX6_slideOne 144 = .ok (.goto 4, 3) := by decide +kernel
theorem dX6_slideOne_147 : decode cX6_slideOne 147 = .ok (.iconst (-1), 1) := by decide +kernel
theorem dX6_slideOne_148 : decode cX6_slideOne 148 = .ok (.ireturn, 1) := by decide +kernel
theorem dX6_slideOne_149 : decode cX6_slideOne 149 = .ok (.iload 10, 2) := by decide +kernel
theorem dX6_slideOne_151 : decode cX6_slideOne 151 = .ok (.istore 4, 2) := by decide +kernel
theorem dX6_slideOne_153 : decode cX6_slideOne 153 = .ok (.aload_n 0, 1) := by decide +kernel
theorem dX6_slideOne_154 : decode cX6_slideOne 154 = .ok (.dup, 1) := by decide +kernel
theorem dX6_slideOne_155 : decode cX6_slideOne 155 = .ok (.getfield 32, 3) := by decide +kernel
theorem dX6_slideOne_158 : decode cX6_slideOne 158 = .ok (.lconst 1, 1) := by decide +kernel
theorem dX6_slideOne_159 : decode cX6_slideOne 159 = .ok (.iload 4, 2) := by decide +kernel
theorem dX6_slideOne_161 : decode cX6_slideOne 161 = .ok (.lshl, 1) := by decide +kernel
theorem dX6_slideOne_162 : decode cX6_slideOne 162 = .ok (.lor, 1) := by decide +kernel
theorem dX6_slideOne_163 : decode cX6_slideOne 163 = .ok (.putfield 32, 3) := by decide +kernel
theorem dX6_slideOne_166 : decode cX6_slideOne 166 = .ok (.lload 7, 2) := by decide +kernel
theorem dX6_slideOne_168 : decode cX6_slideOne 168 = .ok (.iload 4, 2) := by decide +kernel
theorem dX6_slideOne_170 : decode cX6_slideOne 170 = .ok (.invokestatic 87, 3) := by decide +kernel
theorem dX6_slideOne_173 : decode cX6_slideOne 173 = .ok (.ifCond .eq 12, 3) := by decide +kernel
theorem dX6_slideOne_176 : decode cX6_slideOne 176 = .ok (.aload_n 0, 1) := by decide +kernel
theorem dX6_slideOne_177 : decode cX6_slideOne 177 = .ok (.iload_n 1, 1) := by decide +kernel
theorem dX6_slideOne_178 : decode cX6_slideOne 178 = .ok (.iload 4, 2) := by decide +kernel
theorem dX6_slideOne_180 : decode cX6_slideOne 180 = .ok (.invokevirtual 98, 3) := by decide +kernel
theorem dX6_slideOne_183 : decode cX6_slideOne 183 = .ok (.iconst (-1), 1) := by decide +kernel
theorem dX6_slideOne_184 : decode cX6_slideOne 184 = .ok (.ireturn, 1) := by decide +kernel
theorem dX6_slideOne_185 : decode cX6_slideOne 185 = .ok (.lload 5, 2) := by decide +kernel
theorem dX6_slideOne_187 : decode cX6_slideOne 187 = .ok (.iload 4, 2) := by decide +kernel
theorem dX6_slideOne_189 : decode cX6_slideOne 189 = .ok (.invokestatic 87, 3) := by decide +kernel
theorem dX6_slideOne_192 : decode cX6_slideOne 192 = .ok (.ifCond .eq 19, 3) := by decide +kernel
theorem dX6_slideOne_195 : decode cX6_slideOne 195 = .ok (.aload_n 0, 1) := by decide +kernel
theorem dX6_slideOne_196 : decode cX6_slideOne 196 = .ok (.aload_n 0, 1) := by decide +kernel
theorem dX6_slideOne_197 : decode cX6_slideOne 197 = .ok (.getfield 29, 3) := by decide +kernel
theorem dX6_slideOne_200 : decode cX6_slideOne 200 = .ok (.iload_n 1, 1) := by decide +kernel
theorem dX6_slideOne_201 : decode cX6_slideOne 201 = .ok (.iload 4, 2) := by decide +kernel
theorem dX6_slideOne_203 : decode cX6_slideOne 203 = .ok (.invokestatic 91, 3) := by decide +kernel
theorem dX6_slideOne_206 : decode cX6_slideOne 206 = .ok (.putfield 29, 3) := by decide +kernel
theorem dX6_slideOne_209 : decode cX6_slideOne 209 = .ok (.iconst (-1), 1) := by decide +kernel
theorem dX6_slideOne_210 : decode cX6_slideOne 210 = .ok (.ireturn, 1) := by decide +kernel
theorem dX6_slideOne_211 : decode cX6_slideOne 211 = .ok (.iinc 9 1, 3) := by decide +kernel
theorem dX6_slideOne_214 : decode cX6_slideOne 214 = .ok (.goto (-136), 3) := by decide +kernel
theorem dX6_slideOne_217 : decode cX6_slideOne 217 = .ok (.iconst (-1), 1) := by decide +kernel
theorem dX6_slideOne_218 : decode cX6_slideOne 218 = .ok (.ireturn, 1) := by decide +kernel
theorem dX6_leave_0 : decode cX6_leave 0 = .ok (.aload_n 0, 1) := by decide +kernel
theorem dX6_leave_1 : decode cX6_leave 1 = .ok (.getfield 66, 3) := by decide +kernel
theorem dX6_leave_4 : decode cX6_leave 4 = .ok (.iload_n 2, 1) := by decide +kernel
theorem dX6_leave_5 : decode cX6_leave 5 = .ok (.invokestatic 87, 3) := by decide +kernel
theorem dX6_leave_8 : decode cX6_leave 8 = .ok (.ifCond .eq 26, 3) := by decide +kernel
