theorem dX6_leave_11 : decode cX6_leave 11 = .ok (.aload_n 0, 1) := by decide +kernel
theorem dX6_leave_12 : decode cX6_leave 12 = .ok (.aload_n 0, 1) := by decide +kernel
theorem dX6_leave_13 : decode cX6_leave 13 = .ok (.getfield 21, 3) := by decide +kernel
theorem dX6_leave_16 : decode cX6_leave 16 = .ok (.aload_n 0, 1) := by decide +kernel
theorem dX6_leave_17 : decode cX6_leave 17 = .ok (.getfield 29, 3) := by decide +kernel
theorem dX6_leave_20 : decode cX6_leave 20 = .ok (.iload_n 1, 1) := by decide +kernel
theorem dX6_leave_21 : decode cX6_leave 21 = .ok (.bipush 36, 2) := by decide +kernel
theorem dX6_leave_23 : decode cX6_leave 23 = .ok (.invokestatic 91, 3) := by decide +kernel
theorem dX6_leave_26 : decode cX6_leave 26 = .ok (.iload_n 2, 1) := by decide +kernel
theorem dX6_leave_27 : decode cX6_leave 27 = .ok (.invokevirtual 102, 3) := by decide +kernel
theorem dX6_leave_30 : decode cX6_leave 30 = .ok (.putfield 29, 3) := by decide +kernel
theorem dX6_leave_33 : decode cX6_leave 33 = .ok (.return_, 1) := by decide +kernel
theorem dX6_leave_34 : decode cX6_leave 34 = .ok (.aload_n 0, 1) := by decide +kernel
theorem dX6_leave_35 : decode cX6_leave 35 = .ok (.iload_n 1, 1) := by decide +kernel
theorem dX6_leave_36 : decode cX6_leave 36 = .ok (.putfield 35, 3) := by decide +kernel
theorem dX6_leave_39 : decode cX6_leave 39 = .ok (.aload_n 0, 1) := by decide +kernel
theorem dX6_leave_40 : decode cX6_leave 40 = .ok (.aload_n 0, 1) := by decide +kernel
theorem dX6_leave_41 : decode cX6_leave 41 = .ok (.getfield 21, 3) := by decide +kernel
theorem dX6_leave_44 : decode cX6_leave 44 = .ok (.getfield 78, 3) := by decide +kernel
theorem dX6_leave_47 : decode cX6_leave 47 = .ok (.iload_n 2, 1) := by decide +kernel
theorem dX6_leave_48 : decode cX6_leave 48 = .ok (.invokestatic 87, 3) := by decide +kernel
theorem dX6_leave_51 : decode cX6_leave 51 = .ok (.ifCond .eq 7, 3) := by decide +kernel
theorem dX6_leave_54 : decode cX6_leave 54 = .ok (.iconst 0, 1) := by decide +kernel
theorem dX6_leave_55 : decode cX6_leave 55 = .ok (.goto 4, 3) := by decide +kernel
theorem dX6_leave_58 : decode cX6_leave 58 = .ok (.iconst 1, 1) := by decide +kernel
theorem dX6_leave_59 : decode cX6_leave 59 = .ok (.putfield 39, 3) := by decide +kernel
theorem dX6_leave_62 : decode cX6_leave 62 = .ok (.aload_n 0, 1) := by decide +kernel
theorem dX6_leave_63 : decode cX6_leave 63 = .ok (.aload_n 0, 1) := by decide +kernel
theorem dX6_leave_64 : decode cX6_leave 64 = .ok (.getfield 29, 3) := by decide +kernel
theorem dX6_leave_67 : decode cX6_leave 67 = .ok (.iload_n 1, 1) := by decide +kernel
theorem dX6_leave_68 : decode cX6_leave 68 = .ok (.bipush 37, 2) := by decide +kernel
theorem dX6_leave_70 : decode cX6_leave 70 = .ok (.aload_n 0, 1) := by decide +kernel
theorem dX6_leave_71 : decode cX6_leave 71 = .ok (.getfield 39, 3) := by decide +kernel
theorem dX6_leave_74 : decode cX6_leave 74 = .ok (.iadd, 1) := by decide +kernel
theorem dX6_leave_75 : decode cX6_leave 75 = .ok (.invokestatic 91, 3) := by decide +kernel
theorem dX6_leave_78 : decode cX6_leave 78 = .ok (.putfield 29, 3) := by decide +kernel
theorem dX6_leave_81 : decode cX6_leave 81 = .ok (.return_, 1) := by decide +kernel
theorem dX6_blockIn_0 : decode cX6_blockIn 0 = .ok (.iconst 0, 1) := by decide +kernel
theorem dX6_blockIn_1 : decode cX6_blockIn 1 = .ok (.istore_n 2, 1) := by decide +kernel
theorem dX6_blockIn_2 : decode cX6_blockIn 2 = .ok (.iload_n 2, 1) := by decide +kernel
theorem dX6_blockIn_3 : decode cX6_blockIn 3 = .ok (.aload_n 0, 1) := by decide +kernel
theorem dX6_blockIn_4 : decode cX6_blockIn 4 = .ok (.getfield 21, 3) := by decide +kernel
theorem dX6_blockIn_7 : decode cX6_blockIn 7 = .ok (.getfield 55, 3) := by decide +kernel
theorem dX6_blockIn_10 : decode cX6_blockIn 10 = .ok (.if_icmp .ge 27, 3) := by decide +kernel
theorem dX6_blockIn_13 : decode cX6_blockIn 13 = .ok (.iload_n 2, 1) := by decide +kernel
theorem dX6_blockIn_14 : decode cX6_blockIn 14 = .ok (.bipush 6, 2) := by decide +kernel
theorem dX6_blockIn_16 : decode cX6_blockIn 16 = .ok (.if_icmp .ge 21, 3) := by decide +kernel
theorem dX6_blockIn_19 : decode cX6_blockIn 19 = .ok (.aload_n 0, 1) := by decide +kernel
theorem dX6_blockIn_20 : decode cX6_blockIn 20 = .ok (.getfield 9, 3) := by decide +kernel
theorem dX6_blockIn_23 : decode cX6_blockIn 23 = .ok (.iload_n 2, 1) := by decide +kernel
theorem dX6_blockIn_24 : decode cX6_blockIn 24 = .ok (.iaload, 1) := by decide +kernel
theorem dX6_blockIn_25 : decode cX6_blockIn 25 = .ok (.iload_n 1, 1) := by decide +kernel
theorem dX6_blockIn_26 : decode cX6_blockIn 26 = .ok (.if_icmp .ne 5, 3) := by decide +kernel
theorem dX6_blockIn_29 : decode cX6_blockIn 29 = .ok (.iload_n 2, 1) := by decide +kernel
theorem dX6_blockIn_30 : decode cX6_blockIn 30 = .ok (.ireturn, 1) := by decide +kernel
theorem dX6_blockIn_31 : decode cX6_blockIn 31 = .ok (.iinc 2 1, 3) := by decide +kernel
theorem dX6_blockIn_34 : decode cX6_blockIn 34 = .ok (.goto (-32), 3) := by decide +kernel
theorem dX6_blockIn_37 : decode cX6_blockIn 37 = .ok (.iconst (-1), 1) := by decide +kernel
theorem dX6_blockIn_38 : decode cX6_blockIn 38 = .ok (.ireturn, 1) := by decide +kernel
theorem dX7_firstFault_0 : decode cX7_firstFault 0 = .ok (.iconst 3, 1) := by decide +kernel
theorem dX7_firstFault_1 : decode cX7_firstFault 1 = .ok (.istore_n 3, 1) := by decide +kernel
theorem dX7_firstFault_2 : decode cX7_firstFault 2 = .ok (.iconst 3, 1) := by decide +kernel
theorem dX7_firstFault_3 : decode cX7_firstFault 3 = .ok (.istore 4, 2) := by decide +kernel
theorem dX7_firstFault_5 : decode cX7_firstFault 5 = .ok (.iconst 0, 1) := by decide +kernel
theorem dX7_firstFault_6 : decode cX7_firstFault 6 = .ok (.istore 5, 2) := by decide +kernel
theorem dX7_firstFault_8 : decode cX7_firstFault 8 = .ok (.iconst 0, 1) := by decide +kernel
theorem dX7_firstFault_9 : decode cX7_firstFault 9 = .ok (.istore 6, 2) := by decide +kernel
theorem dX7_firstFault_11 : decode cX7_firstFault 11 = .ok (.iconst 0, 1) := by decide +kernel
theorem dX7_firstFault_12 : decode cX7_firstFault 12 = .ok (.istore 7, 2) := by decide +kernel
theorem dX7_firstFault_14 : decode cX7_firstFault 14 = .ok (.iload 7, 2) := by decide +kernel
theorem dX7_firstFault_16 : decode cX7_firstFault 16 = .ok (.iload_n 2, 1) := by decide +kernel
theorem dX7_firstFault_17 : decode cX7_firstFault 17 = .ok (.if_icmp .ge 106, 3) := by decide +kernel
theorem dX7_firstFault_20 : decode cX7_firstFault 20 = .ok (.aload_n 0, 1) := by decide +kernel
theorem dX7_firstFault_21 : decode cX7_firstFault 21 = .ok (.iload_n 1, 1) := by decide +kernel
theorem dX7_firstFault_22 : decode cX7_firstFault 22 = .ok (.iload 7, 2) := by decide +kernel
theorem dX7_firstFault_24 : decode cX7_firstFault 24 = .ok (.iadd, 1) := by decide +kernel
theorem dX7_firstFault_25 : decode cX7_firstFault 25 = .ok (.invokevirtual 9, 3) := by decide +kernel
theorem dX7_firstFault_28 : decode cX7_firstFault 28 = .ok (.istore 8, 2) := by decide +kernel
theorem dX7_firstFault_30 : decode cX7_firstFault 30 = .ok (.iload 8, 2) := by decide +kernel
theorem dX7_firstFault_32 : decode cX7_firstFault 32 = .ok (.iload 7, 2) := by decide +kernel
theorem dX7_firstFault_34 : decode cX7_firstFault 34 = .ok (.iload_n 3, 1) := by decide +kernel
theorem dX7_firstFault_35 : decode cX7_firstFault 35 = .ok (.iload 4, 2) := by decide +kernel
theorem dX7_firstFault_37 : decode cX7_firstFault 37 = .ok (.invokestatic 15, 3) := by decide +kernel
theorem dX7_firstFault_40 : decode cX7_firstFault 40 = .ok (.ifCond .ne 6, 3) := by decide +kernel
theorem dX7_firstFault_43 : decode cX7_firstFault 43 = .ok (.iload 7, 2) := by decide +kernel
theorem dX7_firstFault_45 : decode cX7_firstFault 45 = .ok (.ireturn, 1) := by decide +kernel
theorem dX7_firstFault_46 : decode cX7_firstFault 46 = .ok (.iload 7, 2) := by decide +kernel
theorem dX7_firstFault_48 : decode cX7_firstFault 48 = .ok (.iconst 1, 1) := by decide +kernel
theorem dX7_firstFault_49 : decode cX7_firstFault 49 = .ok (.if_icmp .ne 12, 3) := by decide +kernel
theorem dX7_firstFault_52 : decode cX7_firstFault 52 = .ok (.iload 8, 2) := by decide +kernel
theorem dX7_firstFault_54 : decode cX7_firstFault 54 = .ok (.bipush 48, 2) := by decide +kernel
theorem dX7_firstFault_56 : decode cX7_firstFault 56 = .ok (.isub, 1) := by decide +kernel
theorem dX7_firstFault_57 : decode cX7_firstFault 57 = .ok (.istore_n 3, 1) := by decide +kernel
theorem dX7_firstFault_58 : decode cX7_firstFault 58 = .ok (.goto 43, 3) := by decide +kernel
theorem dX7_firstFault_61 : decode cX7_firstFault 61 = .ok (.iload 7, 2) := by decide +kernel
theorem dX7_firstFault_63 : decode cX7_firstFault 63 = .ok (.iconst 2, 1) := by decide +kernel
theorem dX7_firstFault_64 : decode cX7_firstFault 64 = .ok (.if_icmp .ne 13, 3) := by decide +kernel
theorem dX7_firstFault_67 : decode cX7_firstFault 67 = .ok (.iload 8, 2) := by decide +kernel
theorem dX7_firstFault_69 : decode cX7_firstFault 69 = .ok (.bipush 48, 2) := by decide +kernel
theorem dX7_firstFault_71 : decode cX7_firstFault 71 = .ok (.isub, 1) := by decide +kernel
theorem dX7_firstFault_72 : decode cX7_firstFault 72 = .ok (.istore 4, 2) := by decide +kernel
theorem dX7_firstFault_74 : decode cX7_firstFault 74 = .ok (.goto 27, 3) := by decide +kernel
theorem dX7_firstFault_77 : decode cX7_firstFault 77 = .ok (.iload 8, 2) := by decide +kernel
theorem dX7_firstFault_79 : decode cX7_firstFault 79 = .ok (.bipush 99, 2) := by decide +kernel
theorem dX7_firstFault_81 : decode cX7_firstFault 81 = .ok (.if_icmp .ne 9, 3) := by decide +kernel
theorem dX7_firstFault_84 : decode cX7_firstFault 84 = .ok (.iinc 5 1, 3) := by decide +kernel
theorem dX7_firstFault_87 : decode cX7_firstFault 87 = .ok (.goto 14, 3) := by decide +kernel
theorem dX7_firstFault_90 : decode cX7_firstFault 90 = .ok (.iload 8, 2) := by decide +kernel
theorem dX7_firstFault_92 : decode cX7_firstFault 92 = .ok (.invokestatic 21, 3) := by decide +kernel
theorem dX7_firstFault_95 : decode cX7_firstFault 95 = .ok (.ifCond .lt 6, 3) := by decide +kernel
theorem dX7_firstFault_98 : decode cX7_firstFault 98 = .ok (.iinc 6 1, 3) := by decide +kernel
theorem dX7_firstFault_101 : decode cX7_firstFault 101 = .ok (.iload 5, 2) := by decide +kernel
theorem dX7_firstFault_103 : decode cX7_firstFault 103 = .ok (.iconst 4, 1) := by decide +kernel
theorem dX7_firstFault_104 : decode cX7_firstFault 104 = .ok (.if_icmp .gt 10, 3) := by decide +kernel
theorem dX7_firstFault_107 : decode cX7_firstFault 107 = .ok (.iload 6, 2) := by decide +kernel
theorem dX7_firstFault_109 : decode cX7_firstFault 109 = .ok (.bipush 6, 2) := by decide +kernel
theorem dX7_firstFault_111 : decode cX7_firstFault 111 = .ok (.if_icmp .le 6, 3) := by decide +kernel
theorem dX7_firstFault_114 : decode cX7_firstFault 114 = .ok (.iload 7, 2) := by decide +kernel
theorem dX7_firstFault_116 : decode cX7_firstFault 116 = .ok (.ireturn, 1) := by decide +kernel
theorem dX7_firstFault_117 : decode cX7_firstFault 117 = .ok (.iinc 7 1, 3) := by decide +kernel
theorem dX7_firstFault_120 : decode cX7_firstFault 120 = .ok (.goto (-106), 3) := by decide +kernel
theorem dX7_firstFault_123 : decode cX7_firstFault 123 = .ok (.iload_n 2, 1) := by decide +kernel
theorem dX7_firstFault_124 : decode cX7_firstFault 124 = .ok (.iconst 3, 1) := by decide +kernel
theorem dX7_firstFault_125 : decode cX7_firstFault 125 = .ok (.iload_n 3, 1) := by decide +kernel
theorem dX7_firstFault_126 : decode cX7_firstFault 126 = .ok (.iload 4, 2) := by decide +kernel
theorem dX7_firstFault_128 : decode cX7_firstFault 128 = .ok (.iconst 1, 1) := by decide +kernel
theorem dX7_firstFault_129 : decode cX7_firstFault 129 = .ok (.iadd, 1) := by decide +kernel
theorem dX7_firstFault_130 : decode cX7_firstFault 130 = .ok (.imul, 1) := by decide +kernel
theorem dX7_firstFault_131 : decode cX7_firstFault 131 = .ok (.iadd, 1) := by decide +kernel
theorem dX7_firstFault_132 : decode cX7_firstFault 132 = .ok (.if_icmp .ne 7, 3) := by decide +kernel
theorem dX7_firstFault_135 : decode cX7_firstFault 135 = .ok (.iconst (-1), 1) := by decide +kernel
theorem dX7_firstFault_136 : decode cX7_firstFault 136 = .ok (.goto 4, 3) := by decide +kernel
theorem dX7_firstFault_139 : decode cX7_firstFault 139 = .ok (.iload_n 2, 1) := by decide +kernel
theorem dX7_firstFault_140 : decode cX7_firstFault 140 = .ok (.ireturn, 1) := by decide +kernel
theorem dX7_fits_0 : decode cX7_fits 0 = .ok (.iload_n 1, 1) := by decide +kernel
theorem dX7_fits_1 : decode cX7_fits 1 = .ok (.ifCond .ne 15, 3) := by decide +kernel
theorem dX7_fits_4 : decode cX7_fits 4 = .ok (.iload_n 0, 1) := by decide +kernel
theorem dX7_fits_5 : decode cX7_fits 5 = .ok (.bipush 105, 2) := by decide +kernel
theorem dX7_fits_7 : decode cX7_fits 7 = .ok (.if_icmp .ne 7, 3) := by decide +kernel
theorem dX7_fits_10 : decode cX7_fits 10 = .ok (.iconst 1, 1) := by decide +kernel
theorem dX7_fits_11 : decode cX7_fits 11 = .ok (.goto 4, 3) := by decide +kernel
theorem dX7_fits_14 : decode cX7_fits 14 = .ok (.iconst 0, 1) := by decide +kernel
theorem dX7_fits_15 : decode cX7_fits 15 = .ok (.ireturn, 1) := by decide +kernel
theorem dX7_fits_16 : decode cX7_fits 16 = .ok (.iload_n 1, 1) := by decide +kernel
theorem dX7_fits_17 : decode cX7_fits 17 = .ok (.iconst 3, 1) := by decide +kernel
theorem dX7_fits_18 : decode cX7_fits 18 = .ok (.if_icmp .ge 21, 3) := by decide +kernel
theorem dX7_fits_21 : decode cX7_fits 21 = .ok (.iload_n 0, 1) := by decide +kernel
theorem dX7_fits_22 : decode cX7_fits 22 = .ok (.bipush 51, 2) := by decide +kernel
theorem dX7_fits_24 : decode cX7_fits 24 = .ok (.if_icmp .lt 13, 3) := by decide +kernel
theorem dX7_fits_27 : decode cX7_fits 27 = .ok (.iload_n 0, 1) := by decide +kernel
theorem dX7_fits_28 : decode cX7_fits 28 = .ok (.bipush 54, 2) := by decide +kernel
theorem dX7_fits_30 : decode cX7_fits 30 = .ok (.if_icmp .gt 7, 3) := by decide +kernel
theorem dX7_fits_33 : decode cX7_fits 33 = .ok (.iconst 1, 1) := by decide +kernel
theorem dX7_fits_34 : decode cX7_fits 34 = .ok (.goto 4, 3) := by decide +kernel
theorem dX7_fits_37 : decode cX7_fits 37 = .ok (.iconst 0, 1) := by decide +kernel
theorem dX7_fits_38 : decode cX7_fits 38 = .ok (.ireturn, 1) := by decide +kernel
theorem dX7_fits_39 : decode cX7_fits 39 = .ok (.iload_n 1, 1) := by decide +kernel
theorem dX7_fits_40 : decode cX7_fits 40 = .ok (.iconst 3, 1) := by decide +kernel
theorem dX7_fits_41 : decode cX7_fits 41 = .ok (.iload_n 2, 1) := by decide +kernel
theorem dX7_fits_42 : decode cX7_fits 42 = .ok (.iload_n 3, 1) := by decide +kernel
theorem dX7_fits_43 : decode cX7_fits 43 = .ok (.iconst 1, 1) := by decide +kernel
theorem dX7_fits_44 : decode cX7_fits 44 = .ok (.iadd, 1) := by decide +kernel
theorem dX7_fits_45 : decode cX7_fits 45 = .ok (.imul, 1) := by decide +kernel
theorem dX7_fits_46 : decode cX7_fits 46 = .ok (.iadd, 1) := by decide +kernel
theorem dX7_fits_47 : decode cX7_fits 47 = .ok (.if_icmp .lt 5, 3) := by decide +kernel
theorem dX7_fits_50 : decode cX7_fits 50 = .ok (.iconst 0, 1) := by decide +kernel
theorem dX7_fits_51 : decode cX7_fits 51 = .ok (.ireturn, 1) := by decide +kernel
theorem dX7_fits_52 : decode cX7_fits 52 = .ok (.iload_n 1, 1) := by decide +kernel
theorem dX7_fits_53 : decode cX7_fits 53 = .ok (.iload_n 3, 1) := by decide +kernel
theorem dX7_fits_54 : decode cX7_fits 54 = .ok (.invokestatic 24, 3) := by decide +kernel
theorem dX7_fits_57 : decode cX7_fits 57 = .ok (.ifCond .eq 17, 3) := by decide +kernel
theorem dX7_fits_60 : decode cX7_fits 60 = .ok (.iload_n 0, 1) := by decide +kernel
theorem dX7_fits_61 : decode cX7_fits 61 = .ok (.bipush 59, 2) := by decide +kernel
theorem dX7_fits_63 : decode cX7_fits 63 = .ok (.if_icmp .ne 7, 3) := by decide +kernel
theorem dX7_fits_66 : decode cX7_fits 66 = .ok (.iconst 1, 1) := by decide +kernel
theorem dX7_fits_67 : decode cX7_fits 67 = .ok (.goto 11, 3) := by decide +kernel
theorem dX7_fits_70 : decode cX7_fits 70 = .ok (.iconst 0, 1) := by decide +kernel
theorem dX7_fits_71 : decode cX7_fits 71 = .ok (.goto 7, 3) := by decide +kernel
theorem dX7_fits_74 : decode cX7_fits 74 = .ok (.iload_n 0, 1) := by decide +kernel
theorem dX7_fits_75 : decode cX7_fits 75 = .ok (.invokestatic 28, 3) := by decide +kernel
theorem dX7_fits_78 : decode cX7_fits 78 = .ok (.ireturn, 1) := by decide +kernel
theorem dX7_opensRow_0 : decode cX7_opensRow 0 = .ok (.iload_n 1, 1) := by decide +kernel
theorem dX7_opensRow_1 : decode cX7_opensRow 1 = .ok (.ifCond .lt 17, 3) := by decide +kernel
theorem dX7_opensRow_4 : decode cX7_opensRow 4 = .ok (.iload_n 0, 1) := by decide +kernel
theorem dX7_opensRow_5 : decode cX7_opensRow 5 = .ok (.iconst 3, 1) := by decide +kernel
theorem dX7_opensRow_6 : decode cX7_opensRow 6 = .ok (.isub, 1) := by decide +kernel
theorem dX7_opensRow_7 : decode cX7_opensRow 7 = .ok (.iload_n 1, 1) := by decide +kernel
theorem dX7_opensRow_8 : decode cX7_opensRow 8 = .ok (.iconst 1, 1) := by decide +kernel
theorem dX7_opensRow_9 : decode cX7_opensRow 9 = .ok (.iadd, 1) := by decide +kernel
theorem dX7_opensRow_10 : decode cX7_opensRow 10 = .ok (.irem, 1) := by decide +kernel
theorem dX7_opensRow_11 : decode cX7_opensRow 11 = .ok (.ifCond .ne 7, 3) := by decide +kernel
theorem dX7_opensRow_14 : decode cX7_opensRow 14 = .ok (.iconst 1, 1) := by decide +kernel
theorem dX7_opensRow_15 : decode cX7_opensRow 15 = .ok (.goto 4, 3) := by decide +kernel
theorem dX7_opensRow_18 : decode cX7_opensRow 18 = .ok (.iconst 0, 1) := by decide +kernel
theorem dX7_opensRow_19 : decode cX7_opensRow 19 = .ok (.ireturn, 1) := by decide +kernel
theorem dX7_isSign_0 : decode cX7_isSign 0 = .ok (.iload_n 0, 1) := by decide +kernel
theorem dX7_isSign_1 : decode cX7_isSign 1 = .ok (.bipush 46, 2) := by decide +kernel
theorem dX7_isSign_3 : decode cX7_isSign 3 = .ok (.if_icmp .eq 40, 3) := by decide +kernel
theorem dX7_isSign_6 : decode cX7_isSign 6 = .ok (.iload_n 0, 1) := by decide +kernel
theorem dX7_isSign_7 : decode cX7_isSign 7 = .ok (.bipush 35, 2) := by decide +kernel
theorem dX7_isSign_9 : decode cX7_isSign 9 = .ok (.if_icmp .eq 34, 3) := by decide +kernel
theorem dX7_isSign_12 : decode cX7_isSign 12 = .ok (.iload_n 0, 1) := by decide +kernel
theorem dX7_isSign_13 : decode cX7_isSign 13 = .ok (.bipush 115, 2) := by decide +kernel
theorem dX7_isSign_15 : decode cX7_isSign 15 = .ok (.if_icmp .eq 28, 3) := by decide +kernel
theorem dX7_isSign_18 : decode cX7_isSign 18 = .ok (.iload_n 0, 1) := by decide +kernel
theorem dX7_isSign_19 : decode cX7_isSign 19 = .ok (.bipush 99, 2) := by decide +kernel
theorem dX7_isSign_21 : decode cX7_isSign 21 = .ok (.if_icmp .eq 22, 3) := by decide +kernel
theorem dX7_isSign_24 : decode cX7_isSign 24 = .ok (.iload_n 0, 1) := by decide +kernel
theorem dX7_isSign_25 : decode cX7_isSign 25 = .ok (.bipush 97, 2) := by decide +kernel
theorem dX7_isSign_27 : decode cX7_isSign 27 = .ok (.if_icmp .eq 16, 3) := by decide +kernel
theorem dX7_isSign_30 : decode cX7_isSign 30 = .ok (.iload_n 0, 1) := by decide +kernel
theorem dX7_isSign_31 : decode cX7_isSign 31 = .ok (.bipush 98, 2) := by decide +kernel
theorem dX7_isSign_33 : decode cX7_isSign 33 = .ok (.if_icmp .eq 10, 3) := by decide +kernel
theorem dX7_isSign_36 : decode cX7_isSign 36 = .ok (.iload_n 0, 1) := by decide +kernel
theorem dX7_isSign_37 : decode cX7_isSign 37 = .ok (.invokestatic 21, 3) := by decide +kernel
theorem dX7_isSign_40 : decode cX7_isSign 40 = .ok (.ifCond .lt 7, 3) := by decide +kernel
theorem dX7_isSign_43 : decode cX7_isSign 43 = .ok (.iconst 1, 1) := by decide +kernel
theorem dX7_isSign_44 : decode cX7_isSign 44 = .ok (.goto 4, 3) := by decide +kernel
theorem dX7_isSign_47 : decode cX7_isSign 47 = .ok (.iconst 0, 1) := by decide +kernel
theorem dX7_isSign_48 : decode cX7_isSign 48 = .ok (.ireturn, 1) := by decide +kernel
theorem dX7_kindOfSign_0 : decode cX7_kindOfSign 0 = .ok (.iload_n 0, 1) := by decide +kernel
theorem dX7_kindOfSign_1 : decode cX7_kindOfSign 1 = .ok (.lookupswitch 41 #[(100, 39), (108, 37), (111, 35)], 35) := by decide +kernel
theorem dX7_kindOfSign_36 : decode cX7_kindOfSign 36 = .ok (.iconst 0, 1) := by decide +kernel
theorem dX7_kindOfSign_37 : decode cX7_kindOfSign 37 = .ok (.ireturn, 1) := by decide +kernel
theorem dX7_kindOfSign_38 : decode cX7_kindOfSign 38 = .ok (.iconst 1, 1) := by decide +kernel
theorem dX7_kindOfSign_39 : decode cX7_kindOfSign 39 = .ok (.ireturn, 1) := by decide +kernel
theorem dX7_kindOfSign_40 : decode cX7_kindOfSign 40 = .ok (.iconst 2, 1) := by decide +kernel
theorem dX7_kindOfSign_41 : decode cX7_kindOfSign 41 = .ok (.ireturn, 1) := by decide +kernel
theorem dX7_kindOfSign_42 : decode cX7_kindOfSign 42 = .ok (.iconst (-1), 1) := by decide +kernel
theorem dX7_kindOfSign_43 : decode cX7_kindOfSign 43 = .ok (.ireturn, 1) := by decide +kernel
theorem dX8_init_0 : decode cX8_init 0 = .ok (.aload_n 0, 1) := by decide +kernel
theorem dX8_init_1 : decode cX8_init 1 = .ok (.invokespecial 5, 3) := by decide +kernel
theorem dX8_init_4 : decode cX8_init 4 = .ok (.aload_n 0, 1) := by decide +kernel
theorem dX8_init_5 : decode cX8_init 5 = .ok (.new 11, 3) := by decide +kernel
theorem dX8_init_8 : decode cX8_init 8 = .ok (.dup, 1) := by decide +kernel
theorem dX8_init_9 : decode cX8_init 9 = .ok (.invokespecial 13, 3) := by decide +kernel
theorem dX8_init_12 : decode cX8_init 12 = .ok (.putfield 14, 3) := by decide +kernel
theorem dX8_init_15 : decode cX8_init 15 = .ok (.aload_n 0, 1) := by decide +kernel
theorem dX8_init_16 : decode cX8_init 16 = .ok (.new 18, 3) := by decide +kernel
theorem dX8_init_19 : decode cX8_init 19 = .ok (.dup, 1) := by decide +kernel
theorem dX8_init_20 : decode cX8_init 20 = .ok (.aload_n 0, 1) := by decide +kernel
theorem dX8_init_21 : decode cX8_init 21 = .ok (.getfield 14, 3) := by decide +kernel
theorem dX8_init_24 : decode cX8_init 24 = .ok (.invokespecial 20, 3) := by decide +kernel
theorem dX8_init_27 : decode cX8_init 27 = .ok (.putfield 23, 3) := by decide +kernel
theorem dX8_init_30 : decode cX8_init 30 = .ok (.aload_n 0, 1) := by decide +kernel
theorem dX8_init_31 : decode cX8_init 31 = .ok (.new 27, 3) := by decide +kernel
theorem dX8_init_34 : decode cX8_init 34 = .ok (.dup, 1) := by decide +kernel
theorem dX8_init_35 : decode cX8_init 35 = .ok (.aload_n 0, 1) := by decide +kernel
theorem dX8_init_36 : decode cX8_init 36 = .ok (.getfield 14, 3) := by decide +kernel
theorem dX8_init_39 : decode cX8_init 39 = .ok (.aload_n 0, 1) := by decide +kernel
theorem dX8_init_40 : decode cX8_init 40 = .ok (.getfield 23, 3) := by decide +kernel
theorem dX8_init_43 : decode cX8_init 43 = .ok (.invokespecial 29, 3) := by decide +kernel
theorem dX8_init_46 : decode cX8_init 46 = .ok (.putfield 32, 3) := by decide +kernel
theorem dX8_init_49 : decode cX8_init 49 = .ok (.aload_n 0, 1) := by decide +kernel
theorem dX8_init_50 : decode cX8_init 50 = .ok (.new 36, 3) := by decide +kernel
theorem dX8_init_53 : decode cX8_init 53 = .ok (.dup, 1) := by decide +kernel
theorem dX8_init_54 : decode cX8_init 54 = .ok (.aload_n 0, 1) := by decide +kernel
theorem dX8_init_55 : decode cX8_init 55 = .ok (.getfield 14, 3) := by decide +kernel
theorem dX8_init_58 : decode cX8_init 58 = .ok (.aload_n 0, 1) := by decide +kernel
theorem dX8_init_59 : decode cX8_init 59 = .ok (.getfield 23, 3) := by decide +kernel
theorem dX8_init_62 : decode cX8_init 62 = .ok (.invokespecial 38, 3) := by decide +kernel
theorem dX8_init_65 : decode cX8_init 65 = .ok (.putfield 39, 3) := by decide +kernel
theorem dX8_init_68 : decode cX8_init 68 = .ok (.aload_n 0, 1) := by decide +kernel
theorem dX8_init_69 : decode cX8_init 69 = .ok (.new 43, 3) := by decide +kernel
theorem dX8_init_72 : decode cX8_init 72 = .ok (.dup, 1) := by decide +kernel
theorem dX8_init_73 : decode cX8_init 73 = .ok (.aload_n 0, 1) := by decide +kernel
theorem dX8_init_74 : decode cX8_init 74 = .ok (.getfield 14, 3) := by decide +kernel
theorem dX8_init_77 : decode cX8_init 77 = .ok (.aload_n 0, 1) := by decide +kernel
theorem dX8_init_78 : decode cX8_init 78 = .ok (.getfield 23, 3) := by decide +kernel
theorem dX8_init_81 : decode cX8_init 81 = .ok (.invokespecial 45, 3) := by decide +kernel
theorem dX8_init_84 : decode cX8_init 84 = .ok (.putfield 46, 3) := by decide +kernel
theorem dX8_init_87 : decode cX8_init 87 = .ok (.aload_n 0, 1) := by decide +kernel
theorem dX8_init_88 : decode cX8_init 88 = .ok (.new 50, 3) := by decide +kernel
theorem dX8_init_91 : decode cX8_init 91 = .ok (.dup, 1) := by decide +kernel
theorem dX8_init_92 : decode cX8_init 92 = .ok (.aload_n 0, 1) := by decide +kernel
theorem dX8_init_93 : decode cX8_init 93 = .ok (.getfield 14, 3) := by decide +kernel
theorem dX8_init_96 : decode cX8_init 96 = .ok (.aload_n 0, 1) := by decide +kernel
theorem dX8_init_97 : decode cX8_init 97 = .ok (.getfield 23, 3) := by decide +kernel
theorem dX8_init_100 : decode cX8_init 100 = .ok (.invokespecial 52, 3) := by decide +kernel
theorem dX8_init_103 : decode cX8_init 103 = .ok (.putfield 53, 3) := by decide +kernel
theorem dX8_init_106 : decode cX8_init 106 = .ok (.aload_n 0, 1) := by decide +kernel
theorem dX8_init_107 : decode cX8_init 107 = .ok (.iconst 4, 1) := by decide +kernel
theorem dX8_init_108 : decode cX8_init 108 = .ok (.anewarray 57, 3) := by decide +kernel
theorem dX8_init_111 : decode cX8_init 111 = .ok (.dup, 1) := by decide +kernel
theorem dX8_init_112 : decode cX8_init 112 = .ok (.iconst 0, 1) := by decide +kernel
theorem dX8_init_113 : decode cX8_init 113 = .ok (.new 57, 3) := by decide +kernel
theorem dX8_init_116 : decode cX8_init 116 = .ok (.dup, 1) := by decide +kernel
theorem dX8_init_117 : decode cX8_init 117 = .ok (.invokespecial 59, 3) := by decide +kernel
theorem dX8_init_120 : decode cX8_init 120 = .ok (.aastore, 1) := by decide +kernel
theorem dX8_init_121 : decode cX8_init 121 = .ok (.dup, 1) := by decide +kernel
theorem dX8_init_122 : decode cX8_init 122 = .ok (.iconst 1, 1) := by decide +kernel
theorem dX8_init_123 : decode cX8_init 123 = .ok (.new 57, 3) := by decide +kernel
theorem dX8_init_126 : decode cX8_init 126 = .ok (.dup, 1) := by decide +kernel
theorem dX8_init_127 : decode cX8_init 127 = .ok (.invokespecial 59, 3) := by decide +kernel
theorem dX8_init_130 : decode cX8_init 130 = .ok (.aastore, 1) := by decide +kernel
theorem dX8_init_131 : decode cX8_init 131 = .ok (.dup, 1) := by decide +kernel
theorem dX8_init_132 : decode cX8_init 132 = .ok (.iconst 2, 1) := by decide +kernel
theorem dX8_init_133 : decode cX8_init 133 = .ok (.new 57, 3) := by decide +kernel
theorem dX8_init_136 : decode cX8_init 136 = .ok (.dup, 1) := by decide +kernel
theorem dX8_init_137 : decode cX8_init 137 = .ok (.invokespecial 59, 3) := by decide +kernel
theorem dX8_init_140 : decode cX8_init 140 = .ok (.aastore, 1) := by decide +kernel
theorem dX8_init_141 : decode cX8_init 141 = .ok (.dup, 1) := by decide +kernel
theorem dX8_init_142 : decode cX8_init 142 = .ok (.iconst 3, 1) := by decide +kernel
theorem dX8_init_143 : decode cX8_init 143 = .ok (.new 57, 3) := by decide +kernel
theorem dX8_init_146 : decode cX8_init 146 = .ok (.dup, 1) := by decide +kernel
theorem dX8_init_147 : decode cX8_init 147 = .ok (.invokespecial 59, 3) := by decide +kernel
theorem dX8_init_150 : decode cX8_init 150 = .ok (.aastore, 1) := by decide +kernel
theorem dX8_init_151 : decode cX8_init 151 = .ok (.putfield 60, 3) := by decide +kernel
theorem dX8_init_154 : decode cX8_init 154 = .ok (.aload_n 0, 1) := by decide +kernel
theorem dX8_init_155 : decode cX8_init 155 = .ok (.sipush 200, 3) := by decide +kernel
theorem dX8_init_158 : decode cX8_init 158 = .ok (.newarray .long, 2) := by decide +kernel
theorem dX8_init_160 : decode cX8_init 160 = .ok (.putfield 64, 3) := by decide +kernel
theorem dX8_init_163 : decode cX8_init 163 = .ok (.aload_n 0, 1) := by decide +kernel
theorem dX8_init_164 : decode cX8_init 164 = .ok (.iconst 3, 1) := by decide +kernel
theorem dX8_init_165 : decode cX8_init 165 = .ok (.newarray .long, 2) := by decide +kernel
theorem dX8_init_167 : decode cX8_init 167 = .ok (.dup, 1) := by decide +kernel
theorem dX8_init_168 : decode cX8_init 168 = .ok (.iconst 0, 1) := by decide +kernel
theorem dX8_init_169 : decode cX8_init 169 = .ok (.ldc2_w 68, 3) := by decide +kernel
theorem dX8_init_172 : decode cX8_init 172 = .ok (.lastore, 1) := by decide +kernel
theorem dX8_init_173 : decode cX8_init 173 = .ok (.dup, 1) := by decide +kernel
theorem dX8_init_174 : decode cX8_init 174 = .ok (.iconst 1, 1) := by decide +kernel
theorem dX8_init_175 : decode cX8_init 175 = .ok (.ldc2_w 68, 3) := by decide +kernel
theorem dX8_init_178 : decode cX8_init 178 = .ok (.lastore, 1) := by decide +kernel
theorem dX8_init_179 : decode cX8_init 179 = .ok (.dup, 1) := by decide +kernel
theorem dX8_init_180 : decode cX8_init 180 = .ok (.iconst 2, 1) := by decide +kernel
theorem dX8_init_181 : decode cX8_init 181 = .ok (.ldc2_w 68, 3) := by decide +kernel
theorem dX8_init_184 : decode cX8_init 184 = .ok (.lastore, 1) := by decide +kernel
theorem dX8_init_185 : decode cX8_init 185 = .ok (.putfield 70, 3) := by decide +kernel
theorem dX8_init_188 : decode cX8_init 188 = .ok (.return_, 1) := by decide +kernel
theorem dX8_yard_0 : decode cX8_yard 0 = .ok (.aload_n 0, 1) := by decide +kernel
theorem dX8_yard_1 : decode cX8_yard 1 = .ok (.iconst 0, 1) := by decide +kernel
theorem dX8_yard_2 : decode cX8_yard 2 = .ok (.putfield 73, 3) := by decide +kernel
theorem dX8_yard_5 : decode cX8_yard 5 = .ok (.aload_n 0, 1) := by decide +kernel
theorem dX8_yard_6 : decode cX8_yard 6 = .ok (.iload_n 1, 1) := by decide +kernel
theorem dX8_yard_7 : decode cX8_yard 7 = .ok (.invokevirtual 77, 3) := by decide +kernel
theorem dX8_yard_10 : decode cX8_yard 10 = .ok (.astore 5, 2) := by decide +kernel
theorem dX8_yard_12 : decode cX8_yard 12 = .ok (.aload 5, 2) := by decide +kernel
theorem dX8_yard_14 : decode cX8_yard 14 = .ok (.ifnonnull 5, 3) := by decide +kernel
theorem dX8_yard_17 : decode cX8_yard 17 = .ok (.iconst (-1), 1) := by decide +kernel
theorem dX8_yard_18 : decode cX8_yard 18 = .ok (.ireturn, 1) := by decide +kernel
theorem dX8_yard_19 : decode cX8_yard 19 = .ok (.iload_n 2, 1) := by decide +kernel
theorem dX8_yard_20 : decode cX8_yard 20 = .ok (.invokestatic 81, 3) := by decide +kernel
theorem dX8_yard_23 : decode cX8_yard 23 = .ok (.ifCond .ne 6, 3) := by decide +kernel
theorem dX8_yard_26 : decode cX8_yard 26 = .ok (.bipush (-2), 2) := by decide +kernel
theorem dX8_yard_28 : decode cX8_yard 28 = .ok (.ireturn, 1) := by decide +kernel
theorem dX8_yard_29 : decode cX8_yard 29 = .ok (.aload 5, 2) := by decide +kernel
theorem dX8_yard_31 : decode cX8_yard 31 = .ok (.iload_n 2, 1) := by decide +kernel
theorem dX8_yard_32 : decode cX8_yard 32 = .ok (.invokevirtual 85, 3) := by decide +kernel
theorem dX8_yard_35 : decode cX8_yard 35 = .ok (.istore 6, 2) := by decide +kernel
theorem dX8_yard_37 : decode cX8_yard 37 = .ok (.iload 6, 2) := by decide +kernel
theorem dX8_yard_39 : decode cX8_yard 39 = .ok (.ifCond .ne 11, 3) := by decide +kernel
theorem dX8_yard_42 : decode cX8_yard 42 = .ok (.iload 4, 2) := by decide +kernel
theorem dX8_yard_44 : decode cX8_yard 44 = .ok (.ifCond .ge 6, 3) := by decide +kernel
theorem dX8_yard_47 : decode cX8_yard 47 = .ok (.iconst 4, 1) := by decide +kernel
theorem dX8_yard_48 : decode cX8_yard 48 = .ok (.istore 6, 2) := by decide +kernel
theorem dX8_yard_50 : decode cX8_yard 50 = .ok (.iload 6, 2) := by decide +kernel
theorem dX8_yard_52 : decode cX8_yard 52 = .ok (.ifCond .ne 17, 3) := by decide +kernel
theorem dX8_yard_55 : decode cX8_yard 55 = .ok (.aload 5, 2) := by decide +kernel
theorem dX8_yard_57 : decode cX8_yard 57 = .ok (.iload_n 3, 1) := by decide +kernel
theorem dX8_yard_58 : decode cX8_yard 58 = .ok (.iload 4, 2) := by decide +kernel
theorem dX8_yard_60 : decode cX8_yard 60 = .ok (.invokevirtual 89, 3) := by decide +kernel
theorem dX8_yard_63 : decode cX8_yard 63 = .ok (.ifCond .ne 6, 3) := by decide +kernel
theorem dX8_yard_66 : decode cX8_yard 66 = .ok (.iconst 3, 1) := by decide +kernel
theorem dX8_yard_67 : decode cX8_yard 67 = .ok (.istore 6, 2) := by decide +kernel
theorem dX8_yard_69 : decode cX8_yard 69 = .ok (.iload 6, 2) := by decide +kernel
theorem dX8_yard_71 : decode cX8_yard 71 = .ok (.ifCond .eq 10, 3) := by decide +kernel
theorem dX8_yard_74 : decode cX8_yard 74 = .ok (.aload_n 0, 1) := by decide +kernel
theorem dX8_yard_75 : decode cX8_yard 75 = .ok (.iload 6, 2) := by decide +kernel
theorem dX8_yard_77 : decode cX8_yard 77 = .ok (.invokevirtual 93, 3) := by decide +kernel
theorem dX8_yard_80 : decode cX8_yard 80 = .ok (.ireturn, 1) := by decide +kernel
theorem dX8_yard_81 : decode cX8_yard 81 = .ok (.aload 5, 2) := by decide +kernel
theorem dX8_yard_83 : decode cX8_yard 83 = .ok (.iload_n 3, 1) := by decide +kernel
theorem dX8_yard_84 : decode cX8_yard 84 = .ok (.iload 4, 2) := by decide +kernel
theorem dX8_yard_86 : decode cX8_yard 86 = .ok (.invokestatic 96, 3) := by decide +kernel
theorem dX8_yard_89 : decode cX8_yard 89 = .ok (.istore 7, 2) := by decide +kernel
theorem dX8_yard_91 : decode cX8_yard 91 = .ok (.iload 7, 2) := by decide +kernel
theorem dX8_yard_93 : decode cX8_yard 93 = .ok (.ifCond .lt 9, 3) := by decide +kernel
theorem dX8_yard_96 : decode cX8_yard 96 = .ok (.bipush (-100), 2) := by decide +kernel
theorem dX8_yard_98 : decode cX8_yard 98 = .ok (.iload 7, 2) := by decide +kernel
theorem dX8_yard_100 : decode cX8_yard 100 = .ok (.isub, 1) := by decide +kernel
theorem dX8_yard_101 : decode cX8_yard 101 = .ok (.ireturn, 1) := by decide +kernel
theorem dX8_yard_102 : decode cX8_yard 102 = .ok (.aload_n 0, 1) := by decide +kernel
theorem dX8_yard_103 : decode cX8_yard 103 = .ok (.aload 5, 2) := by decide +kernel
theorem dX8_yard_105 : decode cX8_yard 105 = .ok (.iload_n 3, 1) := by decide +kernel
theorem dX8_yard_106 : decode cX8_yard 106 = .ok (.iload 4, 2) := by decide +kernel
theorem dX8_yard_108 : decode cX8_yard 108 = .ok (.invokevirtual 102, 3) := by decide +kernel
theorem dX8_yard_111 : decode cX8_yard 111 = .ok (.aload_n 0, 1) := by decide +kernel
theorem dX8_yard_112 : decode cX8_yard 112 = .ok (.getfield 14, 3) := by decide +kernel
theorem dX8_yard_115 : decode cX8_yard 115 = .ok (.getfield 106, 3) := by decide +kernel
theorem dX8_yard_118 : decode cX8_yard 118 = .ok (.ireturn, 1) := by decide +kernel
theorem dX8_takeYard_0 : decode cX8_takeYard 0 = .ok (.aload_n 0, 1) := by decide +kernel
theorem dX8_takeYard_1 : decode cX8_takeYard 1 = .ok (.getfield 14, 3) := by decide +kernel
theorem dX8_takeYard_4 : decode cX8_takeYard 4 = .ok (.aload_n 1, 1) := by decide +kernel
theorem dX8_takeYard_5 : decode cX8_takeYard 5 = .ok (.iload_n 2, 1) := by decide +kernel
theorem dX8_takeYard_6 : decode cX8_takeYard 6 = .ok (.iload_n 3, 1) := by decide +kernel
theorem dX8_takeYard_7 : decode cX8_takeYard 7 = .ok (.invokevirtual 109, 3) := by decide +kernel
theorem dX8_takeYard_10 : decode cX8_takeYard 10 = .ok (.aload_n 0, 1) := by decide +kernel
theorem dX8_takeYard_11 : decode cX8_takeYard 11 = .ok (.getfield 23, 3) := by decide +kernel
theorem dX8_takeYard_14 : decode cX8_takeYard 14 = .ok (.invokevirtual 112, 3) := by decide +kernel
theorem dX8_takeYard_17 : decode cX8_takeYard 17 = .ok (.aload_n 0, 1) := by decide +kernel
theorem dX8_takeYard_18 : decode cX8_takeYard 18 = .ok (.aload_n 0, 1) := by decide +kernel
theorem dX8_takeYard_19 : decode cX8_takeYard 19 = .ok (.getfield 14, 3) := by decide +kernel
theorem dX8_takeYard_22 : decode cX8_takeYard 22 = .ok (.invokevirtual 115, 3) := by decide +kernel
theorem dX8_takeYard_25 : decode cX8_takeYard 25 = .ok (.putfield 119, 3) := by decide +kernel
theorem dX8_takeYard_28 : decode cX8_takeYard 28 = .ok (.aload_n 0, 1) := by decide +kernel
theorem dX8_takeYard_29 : decode cX8_takeYard 29 = .ok (.iconst 0, 1) := by decide +kernel
theorem dX8_takeYard_30 : decode cX8_takeYard 30 = .ok (.putfield 123, 3) := by decide +kernel
theorem dX8_takeYard_33 : decode cX8_takeYard 33 = .ok (.aload_n 0, 1) := by decide +kernel
theorem dX8_takeYard_34 : decode cX8_takeYard 34 = .ok (.getfield 70, 3) := by decide +kernel
theorem dX8_takeYard_37 : decode cX8_takeYard 37 = .ok (.ldc2_w 68, 3) := by decide +kernel
theorem dX8_takeYard_40 : decode cX8_takeYard 40 = .ok (.invokestatic 126, 3) := by decide +kernel
theorem dX8_takeYard_43 : decode cX8_takeYard 43 = .ok (.return_, 1) := by decide +kernel
theorem dX8_at_0 : decode cX8_at 0 = .ok (.iload_n 1, 1) := by decide +kernel
theorem dX8_at_1 : decode cX8_at 1 = .ok (.ifCond .lt 14, 3) := by decide +kernel
theorem dX8_at_4 : decode cX8_at 4 = .ok (.iload_n 1, 1) := by decide +kernel
theorem dX8_at_5 : decode cX8_at 5 = .ok (.aload_n 0, 1) := by decide +kernel
theorem dX8_at_6 : decode cX8_at 6 = .ok (.getfield 14, 3) := by decide +kernel
theorem dX8_at_9 : decode cX8_at 9 = .ok (.invokevirtual 132, 3) := by decide +kernel
theorem dX8_at_12 : decode cX8_at 12 = .ok (.if_icmp .lt 5, 3) := by decide +kernel
theorem dX8_at_15 : decode cX8_at 15 = .ok (.iconst (-1), 1) := by decide +kernel
theorem dX8_at_16 : decode cX8_at 16 = .ok (.ireturn, 1) := by decide +kernel
theorem dX8_at_17 : decode cX8_at 17 = .ok (.iconst 0, 1) := by decide +kernel
theorem dX8_at_18 : decode cX8_at 18 = .ok (.istore_n 2, 1) := by decide +kernel
theorem dX8_at_19 : decode cX8_at 19 = .ok (.iload_n 2, 1) := by decide +kernel
theorem dX8_at_20 : decode cX8_at 20 = .ok (.aload_n 0, 1) := by decide +kernel
theorem dX8_at_21 : decode cX8_at 21 = .ok (.getfield 14, 3) := by decide +kernel
theorem dX8_at_24 : decode cX8_at 24 = .ok (.getfield 106, 3) := by decide +kernel
theorem dX8_at_27 : decode cX8_at 27 = .ok (.if_icmp .ge 26, 3) := by decide +kernel
theorem dX8_at_30 : decode cX8_at 30 = .ok (.aload_n 0, 1) := by decide +kernel
theorem dX8_at_31 : decode cX8_at 31 = .ok (.getfield 119, 3) := by decide +kernel
theorem dX8_at_34 : decode cX8_at 34 = .ok (.iload_n 2, 1) := by decide +kernel
theorem dX8_at_35 : decode cX8_at 35 = .ok (.invokestatic 136, 3) := by decide +kernel
theorem dX8_at_38 : decode cX8_at 38 = .ok (.iload_n 1, 1) := by decide +kernel
theorem dX8_at_39 : decode cX8_at 39 = .ok (.if_icmp .ne 8, 3) := by decide +kernel
theorem dX8_at_42 : decode cX8_at 42 = .ok (.bipush 10, 2) := by decide +kernel
theorem dX8_at_44 : decode cX8_at 44 = .ok (.iload_n 2, 1) := by decide +kernel
theorem dX8_at_45 : decode cX8_at 45 = .ok (.iadd, 1) := by decide +kernel
theorem dX8_at_46 : decode cX8_at 46 = .ok (.ireturn, 1) := by decide +kernel
theorem dX8_at_47 : decode cX8_at 47 = .ok (.iinc 2 1, 3) := by decide +kernel
theorem dX8_at_50 : decode cX8_at 50 = .ok (.goto (-31), 3) := by decide +kernel
theorem dX8_at_53 : decode cX8_at 53 = .ok (.aload_n 0, 1) := by decide +kernel
theorem dX8_at_54 : decode cX8_at 54 = .ok (.getfield 14, 3) := by decide +kernel
theorem dX8_at_57 : decode cX8_at 57 = .ok (.iload_n 1, 1) := by decide +kernel
theorem dX8_at_58 : decode cX8_at 58 = .ok (.aload_n 0, 1) := by decide +kernel
theorem dX8_at_59 : decode cX8_at 59 = .ok (.getfield 119, 3) := by decide +kernel
theorem dX8_at_62 : decode cX8_at 62 = .ok (.invokevirtual 140, 3) := by decide +kernel
theorem dX8_at_65 : decode cX8_at 65 = .ok (.ireturn, 1) := by decide +kernel
theorem dX8_ofBlock_0 : decode cX8_ofBlock 0 = .ok (.aload_n 0, 1) := by decide +kernel
theorem dX8_ofBlock_1 : decode cX8_ofBlock 1 = .ok (.getfield 14, 3) := by decide +kernel
theorem dX8_ofBlock_4 : decode cX8_ofBlock 4 = .ok (.iload_n 1, 1) := by decide +kernel
theorem dX8_ofBlock_5 : decode cX8_ofBlock 5 = .ok (.invokevirtual 144, 3) := by decide +kernel
theorem dX8_ofBlock_8 : decode cX8_ofBlock 8 = .ok (.ifCond .ne 5, 3) := by decide +kernel
theorem dX8_ofBlock_11 : decode cX8_ofBlock 11 = .ok (.iconst (-1), 1) := by decide +kernel
theorem dX8_ofBlock_12 : decode cX8_ofBlock 12 = .ok (.ireturn, 1) := by decide +kernel
theorem dX8_ofBlock_13 : decode cX8_ofBlock 13 = .ok (.iload_n 2, 1) := by decide +kernel
theorem dX8_ofBlock_14 : decode cX8_ofBlock 14 = .ok (.ifCond .ne 12, 3) := by decide +kernel
theorem dX8_ofBlock_17 : decode cX8_ofBlock 17 = .ok (.aload_n 0, 1) := by decide +kernel
theorem dX8_ofBlock_18 : decode cX8_ofBlock 18 = .ok (.getfield 14, 3) := by decide +kernel
theorem dX8_ofBlock_21 : decode cX8_ofBlock 21 = .ok (.iload_n 1, 1) := by decide +kernel
theorem dX8_ofBlock_22 : decode cX8_ofBlock 22 = .ok (.invokevirtual 147, 3) := by decide +kernel
theorem dX8_ofBlock_25 : decode cX8_ofBlock 25 = .ok (.ireturn, 1) := by decide +kernel
theorem dX8_ofBlock_26 : decode cX8_ofBlock 26 = .ok (.iload_n 2, 1) := by decide +kernel
theorem dX8_ofBlock_27 : decode cX8_ofBlock 27 = .ok (.iconst 1, 1) := by decide +kernel
theorem dX8_ofBlock_28 : decode cX8_ofBlock 28 = .ok (.if_icmp .ne 14, 3) := by decide +kernel
theorem dX8_ofBlock_31 : decode cX8_ofBlock 31 = .ok (.aload_n 0, 1) := by decide +kernel
theorem dX8_ofBlock_32 : decode cX8_ofBlock 32 = .ok (.getfield 119, 3) := by decide +kernel
theorem dX8_ofBlock_35 : decode cX8_ofBlock 35 = .ok (.iload_n 1, 1) := by decide +kernel
theorem dX8_ofBlock_36 : decode cX8_ofBlock 36 = .ok (.invokestatic 150, 3) := by decide +kernel
theorem dX8_ofBlock_39 : decode cX8_ofBlock 39 = .ok (.goto 5, 3) := by decide +kernel
theorem dX8_ofBlock_42 : decode cX8_ofBlock 42 = .ok (.bipush (-2), 2) := by decide +kernel
theorem dX8_ofBlock_44 : decode cX8_ofBlock 44 = .ok (.ireturn, 1) := by decide +kernel
theorem dX8_push_0 : decode cX8_push 0 = .ok (.aload_n 0, 1) := by decide +kernel
theorem dX8_push_1 : decode cX8_push 1 = .ok (.iload_n 1, 1) := by decide +kernel
theorem dX8_push_2 : decode cX8_push 2 = .ok (.iload_n 2, 1) := by decide +kernel
theorem dX8_push_3 : decode cX8_push 3 = .ok (.invokevirtual 153, 3) := by decide +kernel
theorem dX8_push_6 : decode cX8_push 6 = .ok (.istore_n 3, 1) := by decide +kernel
theorem dX8_push_7 : decode cX8_push 7 = .ok (.iload_n 3, 1) := by decide +kernel
theorem dX8_push_8 : decode cX8_push 8 = .ok (.ifCond .eq 5, 3) := by decide +kernel
theorem dX8_push_11 : decode cX8_push 11 = .ok (.iload_n 3, 1) := by decide +kernel
theorem dX8_push_12 : decode cX8_push 12 = .ok (.ireturn, 1) := by decide +kernel
theorem dX8_push_13 : decode cX8_push 13 = .ok (.aload_n 0, 1) := by decide +kernel
theorem dX8_push_14 : decode cX8_push 14 = .ok (.getfield 123, 3) := by decide +kernel
theorem dX8_push_17 : decode cX8_push 17 = .ok (.ifCond .lt 13, 3) := by decide +kernel
theorem dX8_push_20 : decode cX8_push 20 = .ok (.aload_n 0, 1) := by decide +kernel
theorem dX8_push_21 : decode cX8_push 21 = .ok (.getfield 123, 3) := by decide +kernel
theorem dX8_push_24 : decode cX8_push 24 = .ok (.sipush 200, 3) := by decide +kernel
theorem dX8_push_27 : decode cX8_push 27 = .ok (.if_icmp .lt 6, 3) := by decide +kernel
theorem dX8_push_30 : decode cX8_push 30 = .ok (.bipush (-4), 2) := by decide +kernel
theorem dX8_push_32 : decode cX8_push 32 = .ok (.ireturn, 1) := by decide +kernel
theorem dX8_push_33 : decode cX8_push 33 = .ok (.aload_n 0, 1) := by decide +kernel
theorem dX8_push_34 : decode cX8_push 34 = .ok (.getfield 64, 3) := by decide +kernel
theorem dX8_push_37 : decode cX8_push 37 = .ok (.aload_n 0, 1) := by decide +kernel
theorem dX8_push_38 : decode cX8_push 38 = .ok (.getfield 123, 3) := by decide +kernel
theorem dX8_push_41 : decode cX8_push 41 = .ok (.aload_n 0, 1) := by decide +kernel
theorem dX8_push_42 : decode cX8_push 42 = .ok (.getfield 119, 3) := by decide +kernel
theorem dX8_push_45 : decode cX8_push 45 = .ok (.lastore, 1) := by decide +kernel
theorem dX8_push_46 : decode cX8_push 46 = .ok (.aload_n 0, 1) := by decide +kernel
theorem dX8_push_47 : decode cX8_push 47 = .ok (.dup, 1) := by decide +kernel
theorem dX8_push_48 : decode cX8_push 48 = .ok (.getfield 123, 3) := by decide +kernel
theorem dX8_push_51 : decode cX8_push 51 = .ok (.iconst 1, 1) := by decide +kernel
theorem dX8_push_52 : decode cX8_push 52 = .ok (.iadd, 1) := by decide +kernel
theorem dX8_push_53 : decode cX8_push 53 = .ok (.putfield 123, 3) := by decide +kernel
theorem dX8_push_56 : decode cX8_push 56 = .ok (.aload_n 0, 1) := by decide +kernel
theorem dX8_push_57 : decode cX8_push 57 = .ok (.aload_n 0, 1) := by decide +kernel
theorem dX8_push_58 : decode cX8_push 58 = .ok (.getfield 23, 3) := by decide +kernel
theorem dX8_push_61 : decode cX8_push 61 = .ok (.getfield 157, 3) := by decide +kernel
theorem dX8_push_64 : decode cX8_push 64 = .ok (.putfield 119, 3) := by decide +kernel
theorem dX8_push_67 : decode cX8_push 67 = .ok (.aload_n 0, 1) := by decide +kernel
theorem dX8_push_68 : decode cX8_push 68 = .ok (.getfield 119, 3) := by decide +kernel
theorem dX8_push_71 : decode cX8_push 71 = .ok (.iload_n 1, 1) := by decide +kernel
theorem dX8_push_72 : decode cX8_push 72 = .ok (.invokestatic 150, 3) := by decide +kernel
theorem dX8_push_75 : decode cX8_push 75 = .ok (.ireturn, 1) := by decide +kernel
theorem dX8_would_0 : decode cX8_would 0 = .ok (.aload_n 0, 1) := by decide +kernel
theorem dX8_would_1 : decode cX8_would 1 = .ok (.iload_n 1, 1) := by decide +kernel
theorem dX8_would_2 : decode cX8_would 2 = .ok (.iload_n 2, 1) := by decide +kernel
theorem dX8_would_3 : decode cX8_would 3 = .ok (.invokevirtual 153, 3) := by decide +kernel
theorem dX8_would_6 : decode cX8_would 6 = .ok (.istore_n 3, 1) := by decide +kernel
theorem dX8_would_7 : decode cX8_would 7 = .ok (.iload_n 3, 1) := by decide +kernel
theorem dX8_would_8 : decode cX8_would 8 = .ok (.ifCond .eq 7, 3) := by decide +kernel
theorem dX8_would_11 : decode cX8_would 11 = .ok (.iload_n 3, 1) := by decide +kernel
theorem dX8_would_12 : decode cX8_would 12 = .ok (.goto 14, 3) := by decide +kernel
theorem dX8_would_15 : decode cX8_would 15 = .ok (.aload_n 0, 1) := by decide +kernel
theorem dX8_would_16 : decode cX8_would 16 = .ok (.getfield 23, 3) := by decide +kernel
theorem dX8_would_19 : decode cX8_would 19 = .ok (.getfield 157, 3) := by decide +kernel
theorem dX8_would_22 : decode cX8_would 22 = .ok (.iload_n 1, 1) := by decide +kernel
theorem dX8_would_23 : decode cX8_would 23 = .ok (.invokestatic 150, 3) := by decide +kernel
theorem dX8_would_26 : decode cX8_would 26 = .ok (.ireturn, 1) := by decide +kernel
theorem dX8_tracks_0 : decode cX8_tracks 0 = .ok (.aload_n 0, 1) := by decide +kernel
theorem dX8_tracks_1 : decode cX8_tracks 1 = .ok (.iload_n 1, 1) := by decide +kernel
theorem dX8_tracks_2 : decode cX8_tracks 2 = .ok (.iload_n 2, 1) := by decide +kernel
theorem dX8_tracks_3 : decode cX8_tracks 3 = .ok (.invokevirtual 153, 3) := by decide +kernel
theorem dX8_tracks_6 : decode cX8_tracks 6 = .ok (.ifCond .eq 9, 3) := by decide +kernel
theorem dX8_tracks_9 : decode cX8_tracks 9 = .ok (.ldc2_w 160, 3) := by decide +kernel
theorem dX8_tracks_12 : decode cX8_tracks 12 = .ok (.goto 10, 3) := by decide +kernel
theorem dX8_tracks_15 : decode cX8_tracks 15 = .ok (.aload_n 0, 1) := by decide +kernel
theorem dX8_tracks_16 : decode cX8_tracks 16 = .ok (.getfield 23, 3) := by decide +kernel
theorem dX8_tracks_19 : decode cX8_tracks 19 = .ok (.getfield 162, 3) := by decide +kernel
theorem dX8_tracks_22 : decode cX8_tracks 22 = .ok (.lreturn, 1) := by decide +kernel
theorem dX8_refusalOfPush_0 : decode cX8_refusalOfPush 0 = .ok (.aload_n 0, 1) := by decide +kernel
theorem dX8_refusalOfPush_1 : decode cX8_refusalOfPush 1 = .ok (.getfield 14, 3) := by decide +kernel
theorem dX8_refusalOfPush_4 : decode cX8_refusalOfPush 4 = .ok (.iload_n 1, 1) := by decide +kernel
theorem dX8_refusalOfPush_5 : decode cX8_refusalOfPush 5 = .ok (.invokevirtual 144, 3) := by decide +kernel
theorem dX8_refusalOfPush_8 : decode cX8_refusalOfPush 8 = .ok (.ifCond .ne 5, 3) := by decide +kernel
theorem dX8_refusalOfPush_11 : decode cX8_refusalOfPush 11 = .ok (.iconst (-1), 1) := by decide +kernel
theorem dX8_refusalOfPush_12 : decode cX8_refusalOfPush 12 = .ok (.ireturn, 1) := by decide +kernel
theorem dX8_refusalOfPush_13 : decode cX8_refusalOfPush 13 = .ok (.iload_n 2, 1) := by decide +kernel
theorem dX8_refusalOfPush_14 : decode cX8_refusalOfPush 14 = .ok (.ifCond .lt 8, 3) := by decide +kernel
theorem dX8_refusalOfPush_17 : decode cX8_refusalOfPush 17 = .ok (.iload_n 2, 1) := by decide +kernel
theorem dX8_refusalOfPush_18 : decode cX8_refusalOfPush 18 = .ok (.iconst 4, 1) := by decide +kernel
theorem dX8_refusalOfPush_19 : decode cX8_refusalOfPush 19 = .ok (.if_icmp .lt 6, 3) := by decide +kernel
theorem dX8_refusalOfPush_22 : decode cX8_refusalOfPush 22 = .ok (.bipush (-2), 2) := by decide +kernel
theorem dX8_refusalOfPush_24 : decode cX8_refusalOfPush 24 = .ok (.ireturn, 1) := by decide +kernel
theorem dX8_refusalOfPush_25 : decode cX8_refusalOfPush 25 = .ok (.aload_n 0, 1) := by decide +kernel
theorem dX8_refusalOfPush_26 : decode cX8_refusalOfPush 26 = .ok (.getfield 23, 3) := by decide +kernel
theorem dX8_refusalOfPush_29 : decode cX8_refusalOfPush 29 = .ok (.aload_n 0, 1) := by decide +kernel
theorem dX8_refusalOfPush_30 : decode cX8_refusalOfPush 30 = .ok (.getfield 119, 3) := by decide +kernel
theorem dX8_refusalOfPush_33 : decode cX8_refusalOfPush 33 = .ok (.iload_n 1, 1) := by decide +kernel
theorem dX8_refusalOfPush_34 : decode cX8_refusalOfPush 34 = .ok (.iload_n 2, 1) := by decide +kernel
theorem dX8_refusalOfPush_35 : decode cX8_refusalOfPush 35 = .ok (.invokevirtual 165, 3) := by decide +kernel
theorem dX8_refusalOfPush_38 : decode cX8_refusalOfPush 38 = .ok (.ifCond .eq 7, 3) := by decide +kernel
theorem dX8_refusalOfPush_41 : decode cX8_refusalOfPush 41 = .ok (.iconst 0, 1) := by decide +kernel
theorem dX8_refusalOfPush_42 : decode cX8_refusalOfPush 42 = .ok (.goto 5, 3) := by decide +kernel
theorem dX8_refusalOfPush_45 : decode cX8_refusalOfPush 45 = .ok (.bipush (-3), 2) := by decide +kernel
theorem dX8_refusalOfPush_47 : decode cX8_refusalOfPush 47 = .ok (.ireturn, 1) := by decide +kernel
theorem dX8_undo_0 : decode cX8_undo 0 = .ok (.iload_n 1, 1) := by decide +kernel
theorem dX8_undo_1 : decode cX8_undo 1 = .ok (.ifCond .lt 11, 3) := by decide +kernel
theorem dX8_undo_4 : decode cX8_undo 4 = .ok (.iload_n 1, 1) := by decide +kernel
theorem dX8_undo_5 : decode cX8_undo 5 = .ok (.aload_n 0, 1) := by decide +kernel
theorem dX8_undo_6 : decode cX8_undo 6 = .ok (.getfield 123, 3) := by decide +kernel
theorem dX8_undo_9 : decode cX8_undo 9 = .ok (.if_icmp .le 6, 3) := by decide +kernel
theorem dX8_undo_12 : decode cX8_undo 12 = .ok (.bipush (-2), 2) := by decide +kernel
theorem dX8_undo_14 : decode cX8_undo 14 = .ok (.ireturn, 1) := by decide +kernel
theorem dX8_undo_15 : decode cX8_undo 15 = .ok (.aload_n 0, 1) := by decide +kernel
theorem dX8_undo_16 : decode cX8_undo 16 = .ok (.getfield 123, 3) := by decide +kernel
theorem dX8_undo_19 : decode cX8_undo 19 = .ok (.iload_n 1, 1) := by decide +kernel
theorem dX8_undo_20 : decode cX8_undo 20 = .ok (.isub, 1) := by decide +kernel
theorem dX8_undo_21 : decode cX8_undo 21 = .ok (.istore_n 2, 1) := by decide +kernel
theorem dX8_undo_22 : decode cX8_undo 22 = .ok (.iload_n 1, 1) := by decide +kernel
theorem dX8_undo_23 : decode cX8_undo 23 = .ok (.ifCond .le 26, 3) := by decide +kernel
theorem dX8_undo_26 : decode cX8_undo 26 = .ok (.iload_n 2, 1) := by decide +kernel
theorem dX8_undo_27 : decode cX8_undo 27 = .ok (.ifCond .lt 22, 3) := by decide +kernel
theorem dX8_undo_30 : decode cX8_undo 30 = .ok (.iload_n 2, 1) := by decide +kernel
theorem dX8_undo_31 : decode cX8_undo 31 = .ok (.aload_n 0, 1) := by decide +kernel
theorem dX8_undo_32 : decode cX8_undo 32 = .ok (.getfield 64, 3) := by decide +kernel
theorem dX8_undo_35 : decode cX8_undo 35 = .ok (.arraylength, 1) := by decide +kernel
theorem dX8_undo_36 : decode cX8_undo 36 = .ok (.if_icmp .ge 13, 3) := by decide +kernel
theorem dX8_undo_39 : decode cX8_undo 39 = .ok (.aload_n 0, 1) := by decide +kernel
theorem dX8_undo_40 : decode cX8_undo 40 = .ok (.aload_n 0, 1) := by decide +kernel
theorem dX8_undo_41 : decode cX8_undo 41 = .ok (.getfield 64, 3) := by decide +kernel
theorem dX8_undo_44 : decode cX8_undo 44 = .ok (.iload_n 2, 1) := by decide +kernel
theorem dX8_undo_45 : decode cX8_undo 45 = .ok (.laload, 1) := by decide +kernel
theorem dX8_undo_46 : decode cX8_undo 46 = .ok (.putfield 119, 3) := by decide +kernel
theorem dX8_undo_49 : decode cX8_undo 49 = .ok (.aload_n 0, 1) := by decide +kernel
theorem dX8_undo_50 : decode cX8_undo 50 = .ok (.iload_n 2, 1) := by decide +kernel
theorem dX8_undo_51 : decode cX8_undo 51 = .ok (.putfield 123, 3) := by decide +kernel
theorem dX8_undo_54 : decode cX8_undo 54 = .ok (.iload_n 2, 1) := by decide +kernel
theorem dX8_undo_55 : decode cX8_undo 55 = .ok (.ireturn, 1) := by decide +kernel
theorem dX8_keep_0 : decode cX8_keep 0 = .ok (.iload_n 1, 1) := by decide +kernel
theorem dX8_keep_1 : decode cX8_keep 1 = .ok (.ifCond .lt 12, 3) := by decide +kernel
theorem dX8_keep_4 : decode cX8_keep 4 = .ok (.iload_n 1, 1) := by decide +kernel
theorem dX8_keep_5 : decode cX8_keep 5 = .ok (.aload_n 0, 1) := by decide +kernel
theorem dX8_keep_6 : decode cX8_keep 6 = .ok (.getfield 70, 3) := by decide +kernel
theorem dX8_keep_9 : decode cX8_keep 9 = .ok (.arraylength, 1) := by decide +kernel
theorem dX8_keep_10 : decode cX8_keep 10 = .ok (.if_icmp .lt 5, 3) := by decide +kernel
theorem dX8_keep_13 : decode cX8_keep 13 = .ok (.iconst (-1), 1) := by decide +kernel
theorem dX8_keep_14 : decode cX8_keep 14 = .ok (.ireturn, 1) := by decide +kernel
theorem dX8_keep_15 : decode cX8_keep 15 = .ok (.aload_n 0, 1) := by decide +kernel
theorem dX8_keep_16 : decode cX8_keep 16 = .ok (.getfield 14, 3) := by decide +kernel
theorem dX8_keep_19 : decode cX8_keep 19 = .ok (.invokevirtual 132, 3) := by decide +kernel
theorem dX8_keep_22 : decode cX8_keep 22 = .ok (.ifCond .ne 6, 3) := by decide +kernel
theorem dX8_keep_25 : decode cX8_keep 25 = .ok (.bipush (-3), 2) := by decide +kernel
theorem dX8_keep_27 : decode cX8_keep 27 = .ok (.ireturn, 1) := by decide +kernel
theorem dX8_keep_28 : decode cX8_keep 28 = .ok (.aload_n 0, 1) := by decide +kernel
theorem dX8_keep_29 : decode cX8_keep 29 = .ok (.getfield 70, 3) := by decide +kernel
theorem dX8_keep_32 : decode cX8_keep 32 = .ok (.iload_n 1, 1) := by decide +kernel
theorem dX8_keep_33 : decode cX8_keep 33 = .ok (.aload_n 0, 1) := by decide +kernel
theorem dX8_keep_34 : decode cX8_keep 34 = .ok (.getfield 119, 3) := by decide +kernel
theorem dX8_keep_37 : decode cX8_keep 37 = .ok (.lastore, 1) := by decide +kernel
theorem dX8_keep_38 : decode cX8_keep 38 = .ok (.iconst 1, 1) := by decide +kernel
theorem dX8_keep_39 : decode cX8_keep 39 = .ok (.ireturn, 1) := by decide +kernel
theorem dX8_back_0 : decode cX8_back 0 = .ok (.iload_n 1, 1) := by decide +kernel
theorem dX8_back_1 : decode cX8_back 1 = .ok (.ifCond .lt 12, 3) := by decide +kernel
theorem dX8_back_4 : decode cX8_back 4 = .ok (.iload_n 1, 1) := by decide +kernel
theorem dX8_back_5 : decode cX8_back 5 = .ok (.aload_n 0, 1) := by decide +kernel
theorem dX8_back_6 : decode cX8_back 6 = .ok (.getfield 70, 3) := by decide +kernel
theorem dX8_back_9 : decode cX8_back 9 = .ok (.arraylength, 1) := by decide +kernel
theorem dX8_back_10 : decode cX8_back 10 = .ok (.if_icmp .lt 5, 3) := by decide +kernel
theorem dX8_back_13 : decode cX8_back 13 = .ok (.iconst (-1), 1) := by decide +kernel
theorem dX8_back_14 : decode cX8_back 14 = .ok (.ireturn, 1) := by decide +kernel
theorem dX8_back_15 : decode cX8_back 15 = .ok (.aload_n 0, 1) := by decide +kernel
theorem dX8_back_16 : decode cX8_back 16 = .ok (.getfield 70, 3) := by decide +kernel
theorem dX8_back_19 : decode cX8_back 19 = .ok (.iload_n 1, 1) := by decide +kernel
theorem dX8_back_20 : decode cX8_back 20 = .ok (.laload, 1) := by decide +kernel
theorem dX8_back_21 : decode cX8_back 21 = .ok (.ldc2_w 68, 3) := by decide +kernel
theorem dX8_back_24 : decode cX8_back 24 = .ok (.lcmp, 1) := by decide +kernel
theorem dX8_back_25 : decode cX8_back 25 = .ok (.ifCond .ne 6, 3) := by decide +kernel
theorem dX8_back_28 : decode cX8_back 28 = .ok (.bipush (-3), 2) := by decide +kernel
theorem dX8_back_30 : decode cX8_back 30 = .ok (.ireturn, 1) := by decide +kernel
theorem dX8_back_31 : decode cX8_back 31 = .ok (.aload_n 0, 1) := by decide +kernel
theorem dX8_back_32 : decode cX8_back 32 = .ok (.aload_n 0, 1) := by decide +kernel
theorem dX8_back_33 : decode cX8_back 33 = .ok (.getfield 70, 3) := by decide +kernel
theorem dX8_back_36 : decode cX8_back 36 = .ok (.iload_n 1, 1) := by decide +kernel
theorem dX8_back_37 : decode cX8_back 37 = .ok (.laload, 1) := by decide +kernel
theorem dX8_back_38 : decode cX8_back 38 = .ok (.putfield 119, 3) := by decide +kernel
theorem dX8_back_41 : decode cX8_back 41 = .ok (.aload_n 0, 1) := by decide +kernel
theorem dX8_back_42 : decode cX8_back 42 = .ok (.iconst 0, 1) := by decide +kernel
theorem dX8_back_43 : decode cX8_back 43 = .ok (.putfield 123, 3) := by decide +kernel
theorem dX8_back_46 : decode cX8_back 46 = .ok (.iconst 1, 1) := by decide +kernel
theorem dX8_back_47 : decode cX8_back 47 = .ok (.ireturn, 1) := by decide +kernel
theorem dX8_fewest_0 : decode cX8_fewest 0 = .ok (.iload_n 1, 1) := by decide +kernel
theorem dX8_fewest_1 : decode cX8_fewest 1 = .ok (.invokestatic 169, 3) := by decide +kernel
theorem dX8_fewest_4 : decode cX8_fewest 4 = .ok (.ifCond .eq 8, 3) := by decide +kernel
theorem dX8_fewest_7 : decode cX8_fewest 7 = .ok (.iload_n 2, 1) := by decide +kernel
theorem dX8_fewest_8 : decode cX8_fewest 8 = .ok (.iconst (-1), 1) := by decide +kernel
theorem dX8_fewest_9 : decode cX8_fewest 9 = .ok (.if_icmp .ge 5, 3) := by decide +kernel
theorem dX8_fewest_12 : decode cX8_fewest 12 = .ok (.iconst (-1), 1) := by decide +kernel
theorem dX8_fewest_13 : decode cX8_fewest 13 = .ok (.ireturn, 1) := by decide +kernel
theorem dX8_fewest_14 : decode cX8_fewest 14 = .ok (.aload_n 0, 1) := by decide +kernel
theorem dX8_fewest_15 : decode cX8_fewest 15 = .ok (.getfield 32, 3) := by decide +kernel
theorem dX8_fewest_18 : decode cX8_fewest 18 = .ok (.aload_n 0, 1) := by decide +kernel
theorem dX8_fewest_19 : decode cX8_fewest 19 = .ok (.getfield 119, 3) := by decide +kernel
theorem dX8_fewest_22 : decode cX8_fewest 22 = .ok (.iload_n 1, 1) := by decide +kernel
theorem dX8_fewest_23 : decode cX8_fewest 23 = .ok (.invokevirtual 172, 3) := by decide +kernel
theorem dX8_fewest_26 : decode cX8_fewest 26 = .ok (.istore_n 3, 1) := by decide +kernel
theorem dX8_fewest_27 : decode cX8_fewest 27 = .ok (.iload_n 3, 1) := by decide +kernel
theorem dX8_fewest_28 : decode cX8_fewest 28 = .ok (.ifCond .lt 8, 3) := by decide +kernel
theorem dX8_fewest_31 : decode cX8_fewest 31 = .ok (.iload_n 2, 1) := by decide +kernel
theorem dX8_fewest_32 : decode cX8_fewest 32 = .ok (.iconst (-1), 1) := by decide +kernel
theorem dX8_fewest_33 : decode cX8_fewest 33 = .ok (.if_icmp .ne 7, 3) := by decide +kernel
theorem dX8_fewest_36 : decode cX8_fewest 36 = .ok (.iload_n 3, 1) := by decide +kernel
theorem dX8_fewest_37 : decode cX8_fewest 37 = .ok (.goto 11, 3) := by decide +kernel
theorem dX8_fewest_40 : decode cX8_fewest 40 = .ok (.aload_n 0, 1) := by decide +kernel
theorem dX8_fewest_41 : decode cX8_fewest 41 = .ok (.getfield 32, 3) := by decide +kernel
theorem dX8_fewest_44 : decode cX8_fewest 44 = .ok (.iload_n 2, 1) := by decide +kernel
theorem dX8_fewest_45 : decode cX8_fewest 45 = .ok (.invokevirtual 175, 3) := by decide +kernel
theorem dX8_fewest_48 : decode cX8_fewest 48 = .ok (.ireturn, 1) := by decide +kernel
theorem dX8_won_0 : decode cX8_won 0 = .ok (.iload_n 1, 1) := by decide +kernel
theorem dX8_won_1 : decode cX8_won 1 = .ok (.invokestatic 169, 3) := by decide +kernel
theorem dX8_won_4 : decode cX8_won 4 = .ok (.ifCond .eq 18, 3) := by decide +kernel
theorem dX8_won_7 : decode cX8_won 7 = .ok (.aload_n 0, 1) := by decide +kernel
theorem dX8_won_8 : decode cX8_won 8 = .ok (.getfield 39, 3) := by decide +kernel
theorem dX8_won_11 : decode cX8_won 11 = .ok (.aload_n 0, 1) := by decide +kernel
theorem dX8_won_12 : decode cX8_won 12 = .ok (.getfield 119, 3) := by decide +kernel
theorem dX8_won_15 : decode cX8_won 15 = .ok (.iload_n 1, 1) := by decide +kernel
theorem dX8_won_16 : decode cX8_won 16 = .ok (.invokevirtual 178, 3) := by decide +kernel
theorem dX8_won_19 : decode cX8_won 19 = .ok (.goto 4, 3) := by decide +kernel
theorem dX8_won_22 : decode cX8_won 22 = .ok (.iconst (-1), 1) := by decide +kernel
theorem dX8_won_23 : decode cX8_won 23 = .ok (.ireturn, 1) := by decide +kernel
theorem dX8_first_0 : decode cX8_first 0 = .ok (.iload_n 1, 1) := by decide +kernel
theorem dX8_first_1 : decode cX8_first 1 = .ok (.invokestatic 169, 3) := by decide +kernel
theorem dX8_first_4 : decode cX8_first 4 = .ok (.ifCond .ne 5, 3) := by decide +kernel
theorem dX8_first_7 : decode cX8_first 7 = .ok (.iconst (-1), 1) := by decide +kernel
theorem dX8_first_8 : decode cX8_first 8 = .ok (.ireturn, 1) := by decide +kernel
theorem dX8_first_9 : decode cX8_first 9 = .ok (.aload_n 0, 1) := by decide +kernel
theorem dX8_first_10 : decode cX8_first 10 = .ok (.getfield 39, 3) := by decide +kernel
theorem dX8_first_13 : decode cX8_first 13 = .ok (.aload_n 0, 1) := by decide +kernel
theorem dX8_first_14 : decode cX8_first 14 = .ok (.getfield 119, 3) := by decide +kernel
theorem dX8_first_17 : decode cX8_first 17 = .ok (.iload_n 1, 1) := by decide +kernel
theorem dX8_first_18 : decode cX8_first 18 = .ok (.invokevirtual 178, 3) := by decide +kernel
theorem dX8_first_21 : decode cX8_first 21 = .ok (.pop, 1) := by decide +kernel
theorem dX8_first_22 : decode cX8_first 22 = .ok (.aload_n 0, 1) := by decide +kernel
theorem dX8_first_23 : decode cX8_first 23 = .ok (.getfield 39, 3) := by decide +kernel
theorem dX8_first_26 : decode cX8_first 26 = .ok (.getfield 181, 3) := by decide +kernel
theorem dX8_first_29 : decode cX8_first 29 = .ok (.ireturn, 1) := by decide +kernel
theorem dX8_rows_0 : decode cX8_rows 0 = .ok (.iload_n 1, 1) := by decide +kernel
theorem dX8_rows_1 : decode cX8_rows 1 = .ok (.iconst 1, 1) := by decide +kernel
theorem dX8_rows_2 : decode cX8_rows 2 = .ok (.if_icmp .lt 28, 3) := by decide +kernel
theorem dX8_rows_5 : decode cX8_rows 5 = .ok (.iload_n 1, 1) := by decide +kernel
theorem dX8_rows_6 : decode cX8_rows 6 = .ok (.iconst 3, 1) := by decide +kernel
theorem dX8_rows_7 : decode cX8_rows 7 = .ok (.if_icmp .gt 23, 3) := by decide +kernel
theorem dX8_rows_10 : decode cX8_rows 10 = .ok (.lload_n 2, 1) := by decide +kernel
theorem dX8_rows_11 : decode cX8_rows 11 = .ok (.lconst 0, 1) := by decide +kernel
theorem dX8_rows_12 : decode cX8_rows 12 = .ok (.lcmp, 1) := by decide +kernel
theorem dX8_rows_13 : decode cX8_rows 13 = .ok (.ifCond .lt 17, 3) := by decide +kernel
theorem dX8_rows_16 : decode cX8_rows 16 = .ok (.lload_n 2, 1) := by decide +kernel
theorem dX8_rows_17 : decode cX8_rows 17 = .ok (.aload_n 0, 1) := by decide +kernel
theorem dX8_rows_18 : decode cX8_rows 18 = .ok (.getfield 14, 3) := by decide +kernel
theorem dX8_rows_21 : decode cX8_rows 21 = .ok (.invokevirtual 132, 3) := by decide +kernel
theorem dX8_rows_24 : decode cX8_rows 24 = .ok (.lushr, 1) := by decide +kernel
theorem dX8_rows_25 : decode cX8_rows 25 = .ok (.lconst 0, 1) := by decide +kernel
theorem dX8_rows_26 : decode cX8_rows 26 = .ok (.lcmp, 1) := by decide +kernel
theorem dX8_rows_27 : decode cX8_rows 27 = .ok (.ifCond .eq 6, 3) := by decide +kernel
theorem dX8_rows_30 : decode cX8_rows 30 = .ok (.bipush (-2), 2) := by decide +kernel
theorem dX8_rows_32 : decode cX8_rows 32 = .ok (.ireturn, 1) := by decide +kernel
theorem dX8_rows_33 : decode cX8_rows 33 = .ok (.iload 4, 2) := by decide +kernel
theorem dX8_rows_35 : decode cX8_rows 35 = .ok (.iconst (-1), 1) := by decide +kernel
theorem dX8_rows_36 : decode cX8_rows 36 = .ok (.if_icmp .lt 9, 3) := by decide +kernel
theorem dX8_rows_39 : decode cX8_rows 39 = .ok (.iload 4, 2) := by decide +kernel
theorem dX8_rows_41 : decode cX8_rows 41 = .ok (.iload_n 1, 1) := by decide +kernel
theorem dX8_rows_42 : decode cX8_rows 42 = .ok (.if_icmp .lt 5, 3) := by decide +kernel
theorem dX8_rows_45 : decode cX8_rows 45 = .ok (.iconst (-1), 1) := by decide +kernel
theorem dX8_rows_46 : decode cX8_rows 46 = .ok (.ireturn, 1) := by decide +kernel
theorem dX8_rows_47 : decode cX8_rows 47 = .ok (.aload_n 0, 1) := by decide +kernel
theorem dX8_rows_48 : decode cX8_rows 48 = .ok (.getfield 46, 3) := by decide +kernel
theorem dX8_rows_51 : decode cX8_rows 51 = .ok (.aload_n 0, 1) := by decide +kernel
theorem dX8_rows_52 : decode cX8_rows 52 = .ok (.getfield 119, 3) := by decide +kernel
theorem dX8_rows_55 : decode cX8_rows 55 = .ok (.iload_n 1, 1) := by decide +kernel
theorem dX8_rows_56 : decode cX8_rows 56 = .ok (.lload_n 2, 1) := by decide +kernel
theorem dX8_rows_57 : decode cX8_rows 57 = .ok (.invokevirtual 184, 3) := by decide +kernel
theorem dX8_rows_60 : decode cX8_rows 60 = .ok (.istore 5, 2) := by decide +kernel
theorem dX8_rows_62 : decode cX8_rows 62 = .ok (.iload 4, 2) := by decide +kernel
theorem dX8_rows_64 : decode cX8_rows 64 = .ok (.iconst (-1), 1) := by decide +kernel
theorem dX8_rows_65 : decode cX8_rows 65 = .ok (.if_icmp .ne 6, 3) := by decide +kernel
theorem dX8_rows_68 : decode cX8_rows 68 = .ok (.iload 5, 2) := by decide +kernel
theorem dX8_rows_70 : decode cX8_rows 70 = .ok (.ireturn, 1) := by decide +kernel
theorem dX8_rows_71 : decode cX8_rows 71 = .ok (.iload 5, 2) := by decide +kernel
theorem dX8_rows_73 : decode cX8_rows 73 = .ok (.ifCond .ne 8, 3) := by decide +kernel
theorem dX8_rows_76 : decode cX8_rows 76 = .ok (.bipush (-9), 2) := by decide +kernel
theorem dX8_rows_78 : decode cX8_rows 78 = .ok (.goto 12, 3) := by decide +kernel
theorem dX8_rows_81 : decode cX8_rows 81 = .ok (.aload_n 0, 1) := by decide +kernel
theorem dX8_rows_82 : decode cX8_rows 82 = .ok (.getfield 46, 3) := by decide +kernel
theorem dX8_rows_85 : decode cX8_rows 85 = .ok (.iload 4, 2) := by decide +kernel
theorem dX8_rows_87 : decode cX8_rows 87 = .ok (.invokevirtual 188, 3) := by decide +kernel
theorem dX8_rows_90 : decode cX8_rows 90 = .ok (.ireturn, 1) := by decide +kernel
theorem dX8_sand_0 : decode cX8_sand 0 = .ok (.aload_n 0, 1) := by decide +kernel
theorem dX8_sand_1 : decode cX8_sand 1 = .ok (.getfield 14, 3) := by decide +kernel
theorem dX8_sand_4 : decode cX8_sand 4 = .ok (.iload_n 1, 1) := by decide +kernel
theorem dX8_sand_5 : decode cX8_sand 5 = .ok (.invokevirtual 144, 3) := by decide +kernel
theorem dX8_sand_8 : decode cX8_sand 8 = .ok (.ifCond .eq 22, 3) := by decide +kernel
theorem dX8_sand_11 : decode cX8_sand 11 = .ok (.iload_n 2, 1) := by decide +kernel
theorem dX8_sand_12 : decode cX8_sand 12 = .ok (.invokestatic 169, 3) := by decide +kernel
theorem dX8_sand_15 : decode cX8_sand 15 = .ok (.ifCond .eq 15, 3) := by decide +kernel
theorem dX8_sand_18 : decode cX8_sand 18 = .ok (.iload 4, 2) := by decide +kernel
theorem dX8_sand_20 : decode cX8_sand 20 = .ok (.iconst (-1), 1) := by decide +kernel
theorem dX8_sand_21 : decode cX8_sand 21 = .ok (.if_icmp .lt 9, 3) := by decide +kernel
theorem dX8_sand_24 : decode cX8_sand 24 = .ok (.iload 4, 2) := by decide +kernel
theorem dX8_sand_26 : decode cX8_sand 26 = .ok (.iconst 1, 1) := by decide +kernel
theorem dX8_sand_27 : decode cX8_sand 27 = .ok (.if_icmp .le 5, 3) := by decide +kernel
theorem dX8_sand_30 : decode cX8_sand 30 = .ok (.iconst (-1), 1) := by decide +kernel
theorem dX8_sand_31 : decode cX8_sand 31 = .ok (.ireturn, 1) := by decide +kernel
theorem dX8_sand_32 : decode cX8_sand 32 = .ok (.iload_n 3, 1) := by decide +kernel
theorem dX8_sand_33 : decode cX8_sand 33 = .ok (.iconst 1, 1) := by decide +kernel
theorem dX8_sand_34 : decode cX8_sand 34 = .ok (.if_icmp .lt 8, 3) := by decide +kernel
theorem dX8_sand_37 : decode cX8_sand 37 = .ok (.iload_n 3, 1) := by decide +kernel
theorem dX8_sand_38 : decode cX8_sand 38 = .ok (.iconst 2, 1) := by decide +kernel
theorem dX8_sand_39 : decode cX8_sand 39 = .ok (.if_icmp .le 6, 3) := by decide +kernel
theorem dX8_sand_42 : decode cX8_sand 42 = .ok (.bipush (-2), 2) := by decide +kernel
theorem dX8_sand_44 : decode cX8_sand 44 = .ok (.ireturn, 1) := by decide +kernel
theorem dX8_sand_45 : decode cX8_sand 45 = .ok (.aload_n 0, 1) := by decide +kernel
theorem dX8_sand_46 : decode cX8_sand 46 = .ok (.getfield 53, 3) := by decide +kernel
theorem dX8_sand_49 : decode cX8_sand 49 = .ok (.aload_n 0, 1) := by decide +kernel
theorem dX8_sand_50 : decode cX8_sand 50 = .ok (.getfield 119, 3) := by decide +kernel
theorem dX8_sand_53 : decode cX8_sand 53 = .ok (.iload_n 1, 1) := by decide +kernel
theorem dX8_sand_54 : decode cX8_sand 54 = .ok (.iload_n 2, 1) := by decide +kernel
theorem dX8_sand_55 : decode cX8_sand 55 = .ok (.iload_n 3, 1) := by decide +kernel
theorem dX8_sand_56 : decode cX8_sand 56 = .ok (.invokevirtual 189, 3) := by decide +kernel
theorem dX8_sand_59 : decode cX8_sand 59 = .ok (.istore 5, 2) := by decide +kernel
theorem dX8_sand_61 : decode cX8_sand 61 = .ok (.iload 5, 2) := by decide +kernel
theorem dX8_sand_63 : decode cX8_sand 63 = .ok (.ifCond .lt 9, 3) := by decide +kernel
theorem dX8_sand_66 : decode cX8_sand 66 = .ok (.iload 4, 2) := by decide +kernel
theorem dX8_sand_68 : decode cX8_sand 68 = .ok (.iconst (-1), 1) := by decide +kernel
theorem dX8_sand_69 : decode cX8_sand 69 = .ok (.if_icmp .ne 6, 3) := by decide +kernel
theorem dX8_sand_72 : decode cX8_sand 72 = .ok (.iload 5, 2) := by decide +kernel
theorem dX8_sand_74 : decode cX8_sand 74 = .ok (.ireturn, 1) := by decide +kernel
theorem dX8_sand_75 : decode cX8_sand 75 = .ok (.iload 4, 2) := by decide +kernel
theorem dX8_sand_77 : decode cX8_sand 77 = .ok (.iload 5, 2) := by decide +kernel
theorem dX8_sand_79 : decode cX8_sand 79 = .ok (.if_icmp .ge 13, 3) := by decide +kernel
theorem dX8_sand_82 : decode cX8_sand 82 = .ok (.aload_n 0, 1) := by decide +kernel
theorem dX8_sand_83 : decode cX8_sand 83 = .ok (.getfield 53, 3) := by decide +kernel
theorem dX8_sand_86 : decode cX8_sand 86 = .ok (.getfield 193, 3) := by decide +kernel
theorem dX8_sand_89 : decode cX8_sand 89 = .ok (.goto 5, 3) := by decide +kernel
theorem dX8_sand_92 : decode cX8_sand 92 = .ok (.bipush (-9), 2) := by decide +kernel
theorem dX8_sand_94 : decode cX8_sand 94 = .ok (.ireturn, 1) := by decide +kernel
theorem dX8_thaw_0 : decode cX8_thaw 0 = .ok (.iload_n 1, 1) := by decide +kernel
theorem dX8_thaw_1 : decode cX8_thaw 1 = .ok (.ifCond .lt 9, 3) := by decide +kernel
theorem dX8_thaw_4 : decode cX8_thaw 4 = .ok (.iload_n 1, 1) := by decide +kernel
theorem dX8_thaw_5 : decode cX8_thaw 5 = .ok (.bipush 20, 2) := by decide +kernel
theorem dX8_thaw_7 : decode cX8_thaw 7 = .ok (.if_icmp .le 6, 3) := by decide +kernel
theorem dX8_thaw_10 : decode cX8_thaw 10 = .ok (.bipush (-2), 2) := by decide +kernel
theorem dX8_thaw_12 : decode cX8_thaw 12 = .ok (.ireturn, 1) := by decide +kernel
theorem dX8_thaw_13 : decode cX8_thaw 13 = .ok (.iload_n 1, 1) := by decide +kernel
theorem dX8_thaw_14 : decode cX8_thaw 14 = .ok (.iconst 2, 1) := by decide +kernel
theorem dX8_thaw_15 : decode cX8_thaw 15 = .ok (.idiv, 1) := by decide +kernel
theorem dX8_thaw_16 : decode cX8_thaw 16 = .ok (.aload_n 0, 1) := by decide +kernel
theorem dX8_thaw_17 : decode cX8_thaw 17 = .ok (.getfield 14, 3) := by decide +kernel
theorem dX8_thaw_20 : decode cX8_thaw 20 = .ok (.getfield 196, 3) := by decide +kernel
theorem dX8_thaw_23 : decode cX8_thaw 23 = .ok (.invokestatic 199, 3) := by decide +kernel
theorem dX8_thaw_26 : decode cX8_thaw 26 = .ok (.istore_n 2, 1) := by decide +kernel
theorem dX8_thaw_27 : decode cX8_thaw 27 = .ok (.aload_n 0, 1) := by decide +kernel
theorem dX8_thaw_28 : decode cX8_thaw 28 = .ok (.getfield 14, 3) := by decide +kernel
theorem dX8_thaw_31 : decode cX8_thaw 31 = .ok (.getfield 196, 3) := by decide +kernel
theorem dX8_thaw_34 : decode cX8_thaw 34 = .ok (.iload_n 2, 1) := by decide +kernel
theorem dX8_thaw_35 : decode cX8_thaw 35 = .ok (.isub, 1) := by decide +kernel
theorem dX8_thaw_36 : decode cX8_thaw 36 = .ok (.aload_n 0, 1) := by decide +kernel
theorem dX8_thaw_37 : decode cX8_thaw 37 = .ok (.getfield 14, 3) := by decide +kernel
theorem dX8_thaw_40 : decode cX8_thaw 40 = .ok (.getfield 204, 3) := by decide +kernel
theorem dX8_thaw_43 : decode cX8_thaw 43 = .ok (.imul, 1) := by decide +kernel
theorem dX8_thaw_44 : decode cX8_thaw 44 = .ok (.istore_n 3, 1) := by decide +kernel
theorem dX8_thaw_45 : decode cX8_thaw 45 = .ok (.iconst 0, 1) := by decide +kernel
theorem dX8_thaw_46 : decode cX8_thaw 46 = .ok (.istore 4, 2) := by decide +kernel
theorem dX8_thaw_48 : decode cX8_thaw 48 = .ok (.iconst 0, 1) := by decide +kernel
theorem dX8_thaw_49 : decode cX8_thaw 49 = .ok (.istore 5, 2) := by decide +kernel
theorem dX8_thaw_51 : decode cX8_thaw 51 = .ok (.iload 5, 2) := by decide +kernel
theorem dX8_thaw_53 : decode cX8_thaw 53 = .ok (.aload_n 0, 1) := by decide +kernel
theorem dX8_thaw_54 : decode cX8_thaw 54 = .ok (.getfield 14, 3) := by decide +kernel
theorem dX8_thaw_57 : decode cX8_thaw 57 = .ok (.getfield 106, 3) := by decide +kernel
theorem dX8_thaw_60 : decode cX8_thaw 60 = .ok (.if_icmp .ge 42, 3) := by decide +kernel
theorem dX8_thaw_63 : decode cX8_thaw 63 = .ok (.aload_n 0, 1) := by decide +kernel
theorem dX8_thaw_64 : decode cX8_thaw 64 = .ok (.getfield 119, 3) := by decide +kernel
theorem dX8_thaw_67 : decode cX8_thaw 67 = .ok (.iload 5, 2) := by decide +kernel
theorem dX8_thaw_69 : decode cX8_thaw 69 = .ok (.invokestatic 136, 3) := by decide +kernel
theorem dX8_thaw_72 : decode cX8_thaw 72 = .ok (.istore 6, 2) := by decide +kernel
theorem dX8_thaw_74 : decode cX8_thaw 74 = .ok (.iload 6, 2) := by decide +kernel
theorem dX8_thaw_76 : decode cX8_thaw 76 = .ok (.bipush 36, 2) := by decide +kernel
theorem dX8_thaw_78 : decode cX8_thaw 78 = .ok (.if_icmp .ge 18, 3) := by decide +kernel
theorem dX8_thaw_81 : decode cX8_thaw 81 = .ok (.iload 6, 2) := by decide +kernel
theorem dX8_thaw_83 : decode cX8_thaw 83 = .ok (.iload_n 3, 1) := by decide +kernel
theorem dX8_thaw_84 : decode cX8_thaw 84 = .ok (.if_icmp .lt 12, 3) := by decide +kernel
theorem dX8_thaw_87 : decode cX8_thaw 87 = .ok (.iload 4, 2) := by decide +kernel
theorem dX8_thaw_89 : decode cX8_thaw 89 = .ok (.iconst 1, 1) := by decide +kernel
theorem dX8_thaw_90 : decode cX8_thaw 90 = .ok (.iload 5, 2) := by decide +kernel
theorem dX8_thaw_92 : decode cX8_thaw 92 = .ok (.ishl, 1) := by decide +kernel
theorem dX8_thaw_93 : decode cX8_thaw 93 = .ok (.ior, 1) := by decide +kernel
theorem dX8_thaw_94 : decode cX8_thaw 94 = .ok (.istore 4, 2) := by decide +kernel
theorem dX8_thaw_96 : decode cX8_thaw 96 = .ok (.iinc 5 1, 3) := by decide +kernel
theorem dX8_thaw_99 : decode cX8_thaw 99 = .ok (.goto (-48), 3) := by decide +kernel
theorem dX8_thaw_102 : decode cX8_thaw 102 = .ok (.iload 4, 2) := by decide +kernel
theorem dX8_thaw_104 : decode cX8_thaw 104 = .ok (.ireturn, 1) := by decide +kernel
theorem dX8_sheet_0 : decode cX8_sheet 0 = .ok (.aload_n 0, 1) := by decide +kernel
theorem dX8_sheet_1 : decode cX8_sheet 1 = .ok (.iconst 0, 1) := by decide +kernel
theorem dX8_sheet_2 : decode cX8_sheet 2 = .ok (.putfield 73, 3) := by decide +kernel
theorem dX8_sheet_5 : decode cX8_sheet 5 = .ok (.aload_n 0, 1) := by decide +kernel
theorem dX8_sheet_6 : decode cX8_sheet 6 = .ok (.iload_n 1, 1) := by decide +kernel
theorem dX8_sheet_7 : decode cX8_sheet 7 = .ok (.invokevirtual 77, 3) := by decide +kernel
theorem dX8_sheet_10 : decode cX8_sheet 10 = .ok (.astore 4, 2) := by decide +kernel
theorem dX8_sheet_12 : decode cX8_sheet 12 = .ok (.aload 4, 2) := by decide +kernel
theorem dX8_sheet_14 : decode cX8_sheet 14 = .ok (.ifnonnull 5, 3) := by decide +kernel
theorem dX8_sheet_17 : decode cX8_sheet 17 = .ok (.iconst (-1), 1) := by decide +kernel
theorem dX8_sheet_18 : decode cX8_sheet 18 = .ok (.ireturn, 1) := by decide +kernel
theorem dX8_sheet_19 : decode cX8_sheet 19 = .ok (.iload_n 2, 1) := by decide +kernel
theorem dX8_sheet_20 : decode cX8_sheet 20 = .ok (.invokestatic 81, 3) := by decide +kernel
theorem dX8_sheet_23 : decode cX8_sheet 23 = .ok (.ifCond .eq 9, 3) := by decide +kernel
theorem dX8_sheet_26 : decode cX8_sheet 26 = .ok (.iload_n 3, 1) := by decide +kernel
theorem dX8_sheet_27 : decode cX8_sheet 27 = .ok (.bipush 60, 2) := by decide +kernel
theorem dX8_sheet_29 : decode cX8_sheet 29 = .ok (.if_icmp .le 6, 3) := by decide +kernel
theorem dX8_sheet_32 : decode cX8_sheet 32 = .ok (.bipush (-2), 2) := by decide +kernel
theorem dX8_sheet_34 : decode cX8_sheet 34 = .ok (.ireturn, 1) := by decide +kernel
theorem dX8_sheet_35 : decode cX8_sheet 35 = .ok (.iload_n 3, 1) := by decide +kernel
theorem dX8_sheet_36 : decode cX8_sheet 36 = .ok (.ifCond .ge 9, 3) := by decide +kernel
theorem dX8_sheet_39 : decode cX8_sheet 39 = .ok (.aload_n 0, 1) := by decide +kernel
theorem dX8_sheet_40 : decode cX8_sheet 40 = .ok (.iconst 4, 1) := by decide +kernel
theorem dX8_sheet_41 : decode cX8_sheet 41 = .ok (.invokevirtual 93, 3) := by decide +kernel
theorem dX8_sheet_44 : decode cX8_sheet 44 = .ok (.ireturn, 1) := by decide +kernel
theorem dX8_sheet_45 : decode cX8_sheet 45 = .ok (.aload 4, 2) := by decide +kernel
theorem dX8_sheet_47 : decode cX8_sheet 47 = .ok (.iload_n 2, 1) := by decide +kernel
theorem dX8_sheet_48 : decode cX8_sheet 48 = .ok (.iload_n 3, 1) := by decide +kernel
theorem dX8_sheet_49 : decode cX8_sheet 49 = .ok (.invokevirtual 207, 3) := by decide +kernel
theorem dX8_sheet_52 : decode cX8_sheet 52 = .ok (.iconst 1, 1) := by decide +kernel
theorem dX8_sheet_53 : decode cX8_sheet 53 = .ok (.ireturn, 1) := by decide +kernel
theorem dX8_lose_0 : decode cX8_lose 0 = .ok (.aload_n 0, 1) := by decide +kernel
theorem dX8_lose_1 : decode cX8_lose 1 = .ok (.iload_n 1, 1) := by decide +kernel
theorem dX8_lose_2 : decode cX8_lose 2 = .ok (.invokevirtual 77, 3) := by decide +kernel
theorem dX8_lose_5 : decode cX8_lose 5 = .ok (.astore_n 2, 1) := by decide +kernel
theorem dX8_lose_6 : decode cX8_lose 6 = .ok (.aload_n 2, 1) := by decide +kernel
theorem dX8_lose_7 : decode cX8_lose 7 = .ok (.ifnonnull 5, 3) := by decide +kernel
theorem dX8_lose_10 : decode cX8_lose 10 = .ok (.iconst (-1), 1) := by decide +kernel
theorem dX8_lose_11 : decode cX8_lose 11 = .ok (.ireturn, 1) := by decide +kernel
theorem dX8_lose_12 : decode cX8_lose 12 = .ok (.aload_n 2, 1) := by decide +kernel
theorem dX8_lose_13 : decode cX8_lose 13 = .ok (.invokevirtual 211, 3) := by decide +kernel
theorem dX8_lose_16 : decode cX8_lose 16 = .ok (.ifCond .eq 5, 3) := by decide +kernel
theorem dX8_lose_19 : decode cX8_lose 19 = .ok (.iconst 0, 1) := by decide +kernel
theorem dX8_lose_20 : decode cX8_lose 20 = .ok (.ireturn, 1) := by decide +kernel
theorem dX8_lose_21 : decode cX8_lose 21 = .ok (.aload_n 2, 1) := by decide +kernel
theorem dX8_lose_22 : decode cX8_lose 22 = .ok (.invokevirtual 215, 3) := by decide +kernel
theorem dX8_lose_25 : decode cX8_lose 25 = .ok (.iconst 1, 1) := by decide +kernel
theorem dX8_lose_26 : decode cX8_lose 26 = .ok (.ireturn, 1) := by decide +kernel
theorem dX8_put_0 : decode cX8_put 0 = .ok (.aload_n 0, 1) := by decide +kernel
theorem dX8_put_1 : decode cX8_put 1 = .ok (.iconst 0, 1) := by decide +kernel
theorem dX8_put_2 : decode cX8_put 2 = .ok (.putfield 73, 3) := by decide +kernel
theorem dX8_put_5 : decode cX8_put 5 = .ok (.aload_n 0, 1) := by decide +kernel
theorem dX8_put_6 : decode cX8_put 6 = .ok (.iload_n 1, 1) := by decide +kernel
theorem dX8_put_7 : decode cX8_put 7 = .ok (.invokevirtual 77, 3) := by decide +kernel
theorem dX8_put_10 : decode cX8_put 10 = .ok (.astore 4, 2) := by decide +kernel
theorem dX8_put_12 : decode cX8_put 12 = .ok (.aload 4, 2) := by decide +kernel
theorem dX8_put_14 : decode cX8_put 14 = .ok (.ifnonnull 5, 3) := by decide +kernel
theorem dX8_put_17 : decode cX8_put 17 = .ok (.iconst (-1), 1) := by decide +kernel
theorem dX8_put_18 : decode cX8_put 18 = .ok (.ireturn, 1) := by decide +kernel
theorem dX8_put_19 : decode cX8_put 19 = .ok (.aload 4, 2) := by decide +kernel
theorem dX8_put_21 : decode cX8_put 21 = .ok (.invokevirtual 211, 3) := by decide +kernel
theorem dX8_put_24 : decode cX8_put 24 = .ok (.ifCond .eq 9, 3) := by decide +kernel
theorem dX8_put_27 : decode cX8_put 27 = .ok (.aload_n 0, 1) := by decide +kernel
theorem dX8_put_28 : decode cX8_put 28 = .ok (.iconst 1, 1) := by decide +kernel
theorem dX8_put_29 : decode cX8_put 29 = .ok (.invokevirtual 93, 3) := by decide +kernel
theorem dX8_put_32 : decode cX8_put 32 = .ok (.ireturn, 1) := by decide +kernel
theorem dX8_put_33 : decode cX8_put 33 = .ok (.aload 4, 2) := by decide +kernel
theorem dX8_put_35 : decode cX8_put 35 = .ok (.iload_n 2, 1) := by decide +kernel
theorem dX8_put_36 : decode cX8_put 36 = .ok (.invokevirtual 218, 3) := by decide +kernel
theorem dX8_put_39 : decode cX8_put 39 = .ok (.ifCond .ne 9, 3) := by decide +kernel
theorem dX8_put_42 : decode cX8_put 42 = .ok (.aload_n 0, 1) := by decide +kernel
theorem dX8_put_43 : decode cX8_put 43 = .ok (.iconst 3, 1) := by decide +kernel
theorem dX8_put_44 : decode cX8_put 44 = .ok (.invokevirtual 93, 3) := by decide +kernel
theorem dX8_put_47 : decode cX8_put 47 = .ok (.ireturn, 1) := by decide +kernel
theorem dX8_put_48 : decode cX8_put 48 = .ok (.aload 4, 2) := by decide +kernel
theorem dX8_put_50 : decode cX8_put 50 = .ok (.iload_n 2, 1) := by decide +kernel
theorem dX8_put_51 : decode cX8_put 51 = .ok (.iload_n 3, 1) := by decide +kernel
theorem dX8_put_52 : decode cX8_put 52 = .ok (.invokevirtual 221, 3) := by decide +kernel
theorem dX8_put_55 : decode cX8_put 55 = .ok (.iconst 1, 1) := by decide +kernel
theorem dX8_put_56 : decode cX8_put 56 = .ok (.ireturn, 1) := by decide +kernel
theorem dX8_cell_0 : decode cX8_cell 0 = .ok (.aload_n 0, 1) := by decide +kernel
theorem dX8_cell_1 : decode cX8_cell 1 = .ok (.iconst 0, 1) := by decide +kernel
theorem dX8_cell_2 : decode cX8_cell 2 = .ok (.putfield 73, 3) := by decide +kernel
theorem dX8_cell_5 : decode cX8_cell 5 = .ok (.aload_n 0, 1) := by decide +kernel
theorem dX8_cell_6 : decode cX8_cell 6 = .ok (.iload_n 1, 1) := by decide +kernel
theorem dX8_cell_7 : decode cX8_cell 7 = .ok (.invokevirtual 77, 3) := by decide +kernel
theorem dX8_cell_10 : decode cX8_cell 10 = .ok (.astore 4, 2) := by decide +kernel
theorem dX8_cell_12 : decode cX8_cell 12 = .ok (.aload 4, 2) := by decide +kernel
theorem dX8_cell_14 : decode cX8_cell 14 = .ok (.ifnull 10, 3) := by decide +kernel
theorem dX8_cell_17 : decode cX8_cell 17 = .ok (.iload_n 3, 1) := by decide +kernel
theorem dX8_cell_18 : decode cX8_cell 18 = .ok (.invokestatic 81, 3) := by decide +kernel
theorem dX8_cell_21 : decode cX8_cell 21 = .ok (.ifCond .ne 7, 3) := by decide +kernel
theorem dX8_cell_24 : decode cX8_cell 24 = .ok (.ldc2_w 160, 3) := by decide +kernel
theorem dX8_cell_27 : decode cX8_cell 27 = .ok (.lreturn, 1) := by decide +kernel
theorem dX8_cell_28 : decode cX8_cell 28 = .ok (.aload 4, 2) := by decide +kernel
theorem dX8_cell_30 : decode cX8_cell 30 = .ok (.iload_n 3, 1) := by decide +kernel
theorem dX8_cell_31 : decode cX8_cell 31 = .ok (.invokevirtual 85, 3) := by decide +kernel
theorem dX8_cell_34 : decode cX8_cell 34 = .ok (.istore 5, 2) := by decide +kernel
theorem dX8_cell_36 : decode cX8_cell 36 = .ok (.iload 5, 2) := by decide +kernel
theorem dX8_cell_38 : decode cX8_cell 38 = .ok (.ifCond .ne 15, 3) := by decide +kernel
theorem dX8_cell_41 : decode cX8_cell 41 = .ok (.aload 4, 2) := by decide +kernel
theorem dX8_cell_43 : decode cX8_cell 43 = .ok (.iload_n 2, 1) := by decide +kernel
theorem dX8_cell_44 : decode cX8_cell 44 = .ok (.invokevirtual 218, 3) := by decide +kernel
theorem dX8_cell_47 : decode cX8_cell 47 = .ok (.ifCond .ne 6, 3) := by decide +kernel
theorem dX8_cell_50 : decode cX8_cell 50 = .ok (.iconst 3, 1) := by decide +kernel
theorem dX8_cell_51 : decode cX8_cell 51 = .ok (.istore 5, 2) := by decide +kernel
theorem dX8_cell_53 : decode cX8_cell 53 = .ok (.iload 5, 2) := by decide +kernel
theorem dX8_cell_55 : decode cX8_cell 55 = .ok (.ifCond .eq 14, 3) := by decide +kernel
theorem dX8_cell_58 : decode cX8_cell 58 = .ok (.aload_n 0, 1) := by decide +kernel
theorem dX8_cell_59 : decode cX8_cell 59 = .ok (.iload 5, 2) := by decide +kernel
theorem dX8_cell_61 : decode cX8_cell 61 = .ok (.invokevirtual 93, 3) := by decide +kernel
theorem dX8_cell_64 : decode cX8_cell 64 = .ok (.pop, 1) := by decide +kernel
theorem dX8_cell_65 : decode cX8_cell 65 = .ok (.ldc2_w 160, 3) := by decide +kernel
theorem dX8_cell_68 : decode cX8_cell 68 = .ok (.lreturn, 1) := by decide +kernel
theorem dX8_cell_69 : decode cX8_cell 69 = .ok (.aload 4, 2) := by decide +kernel
theorem dX8_cell_71 : decode cX8_cell 71 = .ok (.iload_n 2, 1) := by decide +kernel
theorem dX8_cell_72 : decode cX8_cell 72 = .ok (.invokevirtual 224, 3) := by decide +kernel
theorem dX8_cell_75 : decode cX8_cell 75 = .ok (.i2l, 1) := by decide +kernel
theorem dX8_cell_76 : decode cX8_cell 76 = .ok (.lreturn, 1) := by decide +kernel
theorem dX8_copy_0 : decode cX8_copy 0 = .ok (.aload_n 0, 1) := by decide +kernel
theorem dX8_copy_1 : decode cX8_copy 1 = .ok (.iconst 0, 1) := by decide +kernel
theorem dX8_copy_2 : decode cX8_copy 2 = .ok (.putfield 73, 3) := by decide +kernel
theorem dX8_copy_5 : decode cX8_copy 5 = .ok (.aload_n 0, 1) := by decide +kernel
theorem dX8_copy_6 : decode cX8_copy 6 = .ok (.iload_n 1, 1) := by decide +kernel
theorem dX8_copy_7 : decode cX8_copy 7 = .ok (.invokevirtual 77, 3) := by decide +kernel
theorem dX8_copy_10 : decode cX8_copy 10 = .ok (.astore 6, 2) := by decide +kernel
theorem dX8_copy_12 : decode cX8_copy 12 = .ok (.aload_n 0, 1) := by decide +kernel
theorem dX8_copy_13 : decode cX8_copy 13 = .ok (.iload_n 3, 1) := by decide +kernel
theorem dX8_copy_14 : decode cX8_copy 14 = .ok (.invokevirtual 77, 3) := by decide +kernel
theorem dX8_copy_17 : decode cX8_copy 17 = .ok (.astore 7, 2) := by decide +kernel
theorem dX8_copy_19 : decode cX8_copy 19 = .ok (.aload 6, 2) := by decide +kernel
theorem dX8_copy_21 : decode cX8_copy 21 = .ok (.ifnull 8, 3) := by decide +kernel
theorem dX8_copy_24 : decode cX8_copy 24 = .ok (.aload 7, 2) := by decide +kernel
theorem dX8_copy_26 : decode cX8_copy 26 = .ok (.ifnonnull 5, 3) := by decide +kernel
theorem dX8_copy_29 : decode cX8_copy 29 = .ok (.iconst (-1), 1) := by decide +kernel
theorem dX8_copy_30 : decode cX8_copy 30 = .ok (.ireturn, 1) := by decide +kernel
theorem dX8_copy_31 : decode cX8_copy 31 = .ok (.aload 6, 2) := by decide +kernel
theorem dX8_copy_33 : decode cX8_copy 33 = .ok (.invokevirtual 211, 3) := by decide +kernel
theorem dX8_copy_36 : decode cX8_copy 36 = .ok (.ifCond .ne 11, 3) := by decide +kernel
theorem dX8_copy_39 : decode cX8_copy 39 = .ok (.aload 7, 2) := by decide +kernel
theorem dX8_copy_41 : decode cX8_copy 41 = .ok (.invokevirtual 211, 3) := by decide +kernel
theorem dX8_copy_44 : decode cX8_copy 44 = .ok (.ifCond .eq 9, 3) := by decide +kernel
theorem dX8_copy_47 : decode cX8_copy 47 = .ok (.aload_n 0, 1) := by decide +kernel
theorem dX8_copy_48 : decode cX8_copy 48 = .ok (.iconst 1, 1) := by decide +kernel
theorem dX8_copy_49 : decode cX8_copy 49 = .ok (.invokevirtual 93, 3) := by decide +kernel
theorem dX8_copy_52 : decode cX8_copy 52 = .ok (.ireturn, 1) := by decide +kernel
theorem dX8_copy_53 : decode cX8_copy 53 = .ok (.aload 6, 2) := by decide +kernel
theorem dX8_copy_55 : decode cX8_copy 55 = .ok (.getfield 227, 3) := by decide +kernel
theorem dX8_copy_58 : decode cX8_copy 58 = .ok (.aload 7, 2) := by decide +kernel
theorem dX8_copy_60 : decode cX8_copy 60 = .ok (.getfield 227, 3) := by decide +kernel
theorem dX8_copy_63 : decode cX8_copy 63 = .ok (.if_icmp .eq 9, 3) := by decide +kernel
theorem dX8_copy_66 : decode cX8_copy 66 = .ok (.aload_n 0, 1) := by decide +kernel
theorem dX8_copy_67 : decode cX8_copy 67 = .ok (.iconst 2, 1) := by decide +kernel
theorem dX8_copy_68 : decode cX8_copy 68 = .ok (.invokevirtual 93, 3) := by decide +kernel
theorem dX8_copy_71 : decode cX8_copy 71 = .ok (.ireturn, 1) := by decide +kernel
theorem dX8_copy_72 : decode cX8_copy 72 = .ok (.aload 6, 2) := by decide +kernel
theorem dX8_copy_74 : decode cX8_copy 74 = .ok (.iload_n 2, 1) := by decide +kernel
theorem dX8_copy_75 : decode cX8_copy 75 = .ok (.iload 5, 2) := by decide +kernel
theorem dX8_copy_77 : decode cX8_copy 77 = .ok (.invokevirtual 89, 3) := by decide +kernel
theorem dX8_copy_80 : decode cX8_copy 80 = .ok (.ifCond .eq 15, 3) := by decide +kernel
theorem dX8_copy_83 : decode cX8_copy 83 = .ok (.aload 7, 2) := by decide +kernel
theorem dX8_copy_85 : decode cX8_copy 85 = .ok (.iload 4, 2) := by decide +kernel
theorem dX8_copy_87 : decode cX8_copy 87 = .ok (.iload 5, 2) := by decide +kernel
theorem dX8_copy_89 : decode cX8_copy 89 = .ok (.invokevirtual 89, 3) := by decide +kernel
theorem dX8_copy_92 : decode cX8_copy 92 = .ok (.ifCond .ne 9, 3) := by decide +kernel
theorem dX8_copy_95 : decode cX8_copy 95 = .ok (.aload_n 0, 1) := by decide +kernel
theorem dX8_copy_96 : decode cX8_copy 96 = .ok (.iconst 3, 1) := by decide +kernel
theorem dX8_copy_97 : decode cX8_copy 97 = .ok (.invokevirtual 93, 3) := by decide +kernel
theorem dX8_copy_100 : decode cX8_copy 100 = .ok (.ireturn, 1) := by decide +kernel
theorem dX8_copy_101 : decode cX8_copy 101 = .ok (.aload 6, 2) := by decide +kernel
theorem dX8_copy_103 : decode cX8_copy 103 = .ok (.getfield 230, 3) := by decide +kernel
theorem dX8_copy_106 : decode cX8_copy 106 = .ok (.iload_n 2, 1) := by decide +kernel
theorem dX8_copy_107 : decode cX8_copy 107 = .ok (.aload 7, 2) := by decide +kernel
theorem dX8_copy_109 : decode cX8_copy 109 = .ok (.getfield 230, 3) := by decide +kernel
theorem dX8_copy_112 : decode cX8_copy 112 = .ok (.iload 4, 2) := by decide +kernel
theorem dX8_copy_114 : decode cX8_copy 114 = .ok (.iload 5, 2) := by decide +kernel
theorem dX8_copy_116 : decode cX8_copy 116 = .ok (.invokestatic 233, 3) := by decide +kernel
theorem dX8_copy_119 : decode cX8_copy 119 = .ok (.iload 5, 2) := by decide +kernel
theorem dX8_copy_121 : decode cX8_copy 121 = .ok (.ireturn, 1) := by decide +kernel
theorem dX8_tell_0 : decode cX8_tell 0 = .ok (.aload_n 0, 1) := by decide +kernel
theorem dX8_tell_1 : decode cX8_tell 1 = .ok (.getfield 14, 3) := by decide +kernel
theorem dX8_tell_4 : decode cX8_tell 4 = .ok (.iload_n 1, 1) := by decide +kernel
theorem dX8_tell_5 : decode cX8_tell 5 = .ok (.invokevirtual 144, 3) := by decide +kernel
theorem dX8_tell_8 : decode cX8_tell 8 = .ok (.ifCond .ne 5, 3) := by decide +kernel
theorem dX8_tell_11 : decode cX8_tell 11 = .ok (.iconst (-1), 1) := by decide +kernel
theorem dX8_tell_12 : decode cX8_tell 12 = .ok (.ireturn, 1) := by decide +kernel
theorem dX8_tell_13 : decode cX8_tell 13 = .ok (.aload_n 0, 1) := by decide +kernel
theorem dX8_tell_14 : decode cX8_tell 14 = .ok (.getfield 14, 3) := by decide +kernel
theorem dX8_tell_17 : decode cX8_tell 17 = .ok (.iload_n 1, 1) := by decide +kernel
theorem dX8_tell_18 : decode cX8_tell 18 = .ok (.invokevirtual 147, 3) := by decide +kernel
theorem dX8_tell_21 : decode cX8_tell 21 = .ok (.lookupswitch 39 #[(1, 33), (2, 27)], 27) := by decide +kernel
theorem dX8_tell_48 : decode cX8_tell 48 = .ok (.aload_n 0, 1) := by decide +kernel
theorem dX8_tell_49 : decode cX8_tell 49 = .ok (.iload_n 1, 1) := by decide +kernel
theorem dX8_tell_50 : decode cX8_tell 50 = .ok (.invokevirtual 239, 3) := by decide +kernel
theorem dX8_tell_53 : decode cX8_tell 53 = .ok (.ireturn, 1) := by decide +kernel
theorem dX8_tell_54 : decode cX8_tell 54 = .ok (.aload_n 0, 1) := by decide +kernel
theorem dX8_tell_55 : decode cX8_tell 55 = .ok (.iload_n 1, 1) := by decide +kernel
theorem dX8_tell_56 : decode cX8_tell 56 = .ok (.invokevirtual 242, 3) := by decide +kernel
theorem dX8_tell_59 : decode cX8_tell 59 = .ok (.ireturn, 1) := by decide +kernel
theorem dX8_tell_60 : decode cX8_tell 60 = .ok (.aload_n 0, 1) := by decide +kernel
theorem dX8_tell_61 : decode cX8_tell 61 = .ok (.iload_n 1, 1) := by decide +kernel
theorem dX8_tell_62 : decode cX8_tell 62 = .ok (.invokevirtual 245, 3) := by decide +kernel
theorem dX8_tell_65 : decode cX8_tell 65 = .ok (.ireturn, 1) := by decide +kernel
theorem dX8_tellBlock_0 : decode cX8_tellBlock 0 = .ok (.aload_n 0, 1) := by decide +kernel
theorem dX8_tellBlock_1 : decode cX8_tellBlock 1 = .ok (.iconst 1, 1) := by decide +kernel
theorem dX8_tellBlock_2 : decode cX8_tellBlock 2 = .ok (.invokevirtual 248, 3) := by decide +kernel
theorem dX8_tellBlock_5 : decode cX8_tellBlock 5 = .ok (.aload_n 0, 1) := by decide +kernel
theorem dX8_tellBlock_6 : decode cX8_tellBlock 6 = .ok (.getfield 14, 3) := by decide +kernel
theorem dX8_tellBlock_9 : decode cX8_tellBlock 9 = .ok (.iload_n 1, 1) := by decide +kernel
theorem dX8_tellBlock_10 : decode cX8_tellBlock 10 = .ok (.invokevirtual 252, 3) := by decide +kernel
theorem dX8_tellBlock_13 : decode cX8_tellBlock 13 = .ok (.ireturn, 1) := by decide +kernel
theorem dX8_tellLog_0 : decode cX8_tellLog 0 = .ok (.aload_n 0, 1) := by decide +kernel
theorem dX8_tellLog_1 : decode cX8_tellLog 1 = .ok (.iconst 2, 1) := by decide +kernel
theorem dX8_tellLog_2 : decode cX8_tellLog 2 = .ok (.invokevirtual 248, 3) := by decide +kernel
theorem dX8_tellLog_5 : decode cX8_tellLog 5 = .ok (.aload_n 0, 1) := by decide +kernel
theorem dX8_tellLog_6 : decode cX8_tellLog 6 = .ok (.iload_n 1, 1) := by decide +kernel
theorem dX8_tellLog_7 : decode cX8_tellLog 7 = .ok (.invokevirtual 245, 3) := by decide +kernel
theorem dX8_tellLog_10 : decode cX8_tellLog 10 = .ok (.bipush 100, 2) := by decide +kernel
theorem dX8_tellLog_12 : decode cX8_tellLog 12 = .ok (.iadd, 1) := by decide +kernel
theorem dX8_tellLog_13 : decode cX8_tellLog 13 = .ok (.ireturn, 1) := by decide +kernel
theorem dX8_tellSledge_0 : decode cX8_tellSledge 0 = .ok (.aload_n 0, 1) := by decide +kernel
theorem dX8_tellSledge_1 : decode cX8_tellSledge 1 = .ok (.iconst 3, 1) := by decide +kernel
theorem dX8_tellSledge_2 : decode cX8_tellSledge 2 = .ok (.invokevirtual 248, 3) := by decide +kernel
theorem dX8_tellSledge_5 : decode cX8_tellSledge 5 = .ok (.aload_n 0, 1) := by decide +kernel
theorem dX8_tellSledge_6 : decode cX8_tellSledge 6 = .ok (.iload_n 1, 1) := by decide +kernel
theorem dX8_tellSledge_7 : decode cX8_tellSledge 7 = .ok (.invokevirtual 242, 3) := by decide +kernel
theorem dX8_tellSledge_10 : decode cX8_tellSledge 10 = .ok (.istore_n 2, 1) := by decide +kernel
theorem dX8_tellSledge_11 : decode cX8_tellSledge 11 = .ok (.iload_n 2, 1) := by decide +kernel
theorem dX8_tellSledge_12 : decode cX8_tellSledge 12 = .ok (.aload_n 0, 1) := by decide +kernel
theorem dX8_tellSledge_13 : decode cX8_tellSledge 13 = .ok (.iload_n 1, 1) := by decide +kernel
theorem dX8_tellSledge_14 : decode cX8_tellSledge 14 = .ok (.invokevirtual 245, 3) := by decide +kernel
theorem dX8_tellSledge_17 : decode cX8_tellSledge 17 = .ok (.iadd, 1) := by decide +kernel
theorem dX8_tellSledge_18 : decode cX8_tellSledge 18 = .ok (.ireturn, 1) := by decide +kernel
theorem dX8_kick_0 : decode cX8_kick 0 = .ok (.aload_n 0, 1) := by decide +kernel
theorem dX8_kick_1 : decode cX8_kick 1 = .ok (.getfield 14, 3) := by decide +kernel
theorem dX8_kick_4 : decode cX8_kick 4 = .ok (.iload_n 1, 1) := by decide +kernel
theorem dX8_kick_5 : decode cX8_kick 5 = .ok (.invokevirtual 144, 3) := by decide +kernel
theorem dX8_kick_8 : decode cX8_kick 8 = .ok (.ifCond .ne 5, 3) := by decide +kernel
theorem dX8_kick_11 : decode cX8_kick 11 = .ok (.iconst (-1), 1) := by decide +kernel
theorem dX8_kick_12 : decode cX8_kick 12 = .ok (.ireturn, 1) := by decide +kernel
theorem dX8_kick_13 : decode cX8_kick 13 = .ok (.aload_n 0, 1) := by decide +kernel
theorem dX8_kick_14 : decode cX8_kick 14 = .ok (.getfield 14, 3) := by decide +kernel
theorem dX8_kick_17 : decode cX8_kick 17 = .ok (.iload_n 1, 1) := by decide +kernel
theorem dX8_kick_18 : decode cX8_kick 18 = .ok (.invokevirtual 147, 3) := by decide +kernel
theorem dX8_kick_21 : decode cX8_kick 21 = .ok (.iconst 2, 1) := by decide +kernel
theorem dX8_kick_22 : decode cX8_kick 22 = .ok (.if_icmp .ne 7, 3) := by decide +kernel
theorem dX8_kick_25 : decode cX8_kick 25 = .ok (.iconst 1, 1) := by decide +kernel
theorem dX8_kick_26 : decode cX8_kick 26 = .ok (.goto 4, 3) := by decide +kernel
theorem dX8_kick_29 : decode cX8_kick 29 = .ok (.iconst 0, 1) := by decide +kernel
theorem dX8_kick_30 : decode cX8_kick 30 = .ok (.istore_n 2, 1) := by decide +kernel
theorem dX8_kick_31 : decode cX8_kick 31 = .ok (.aload_n 0, 1) := by decide +kernel
theorem dX8_kick_32 : decode cX8_kick 32 = .ok (.iload_n 2, 1) := by decide +kernel
theorem dX8_kick_33 : decode cX8_kick 33 = .ok (.ifCond .eq 7, 3) := by decide +kernel
theorem dX8_kick_36 : decode cX8_kick 36 = .ok (.iconst 5, 1) := by decide +kernel
theorem dX8_kick_37 : decode cX8_kick 37 = .ok (.goto 4, 3) := by decide +kernel
theorem dX8_kick_40 : decode cX8_kick 40 = .ok (.iconst 4, 1) := by decide +kernel
theorem dX8_kick_41 : decode cX8_kick 41 = .ok (.invokevirtual 248, 3) := by decide +kernel
theorem dX8_kick_44 : decode cX8_kick 44 = .ok (.iload_n 2, 1) := by decide +kernel
theorem dX8_kick_45 : decode cX8_kick 45 = .ok (.ifCond .eq 8, 3) := by decide +kernel
theorem dX8_kick_48 : decode cX8_kick 48 = .ok (.bipush 60, 2) := by decide +kernel
theorem dX8_kick_50 : decode cX8_kick 50 = .ok (.goto 4, 3) := by decide +kernel
theorem dX8_kick_53 : decode cX8_kick 53 = .ok (.iload_n 1, 1) := by decide +kernel
theorem dX8_kick_54 : decode cX8_kick 54 = .ok (.ireturn, 1) := by decide +kernel
theorem dX8_leaveTrace_0 : decode cX8_leaveTrace 0 = .ok (.aload_n 0, 1) := by decide +kernel
theorem dX8_leaveTrace_1 : decode cX8_leaveTrace 1 = .ok (.bipush 31, 2) := by decide +kernel
theorem dX8_leaveTrace_3 : decode cX8_leaveTrace 3 = .ok (.aload_n 0, 1) := by decide +kernel
theorem dX8_leaveTrace_4 : decode cX8_leaveTrace 4 = .ok (.getfield 255, 3) := by decide +kernel
theorem dX8_leaveTrace_7 : decode cX8_leaveTrace 7 = .ok (.imul, 1) := by decide +kernel
theorem dX8_leaveTrace_8 : decode cX8_leaveTrace 8 = .ok (.iload_n 1, 1) := by decide +kernel
theorem dX8_leaveTrace_9 : decode cX8_leaveTrace 9 = .ok (.iadd, 1) := by decide +kernel
theorem dX8_leaveTrace_10 : decode cX8_leaveTrace 10 = .ok (.putfield 255, 3) := by decide +kernel
theorem dX8_leaveTrace_13 : decode cX8_leaveTrace 13 = .ok (.return_, 1) := by decide +kernel
theorem dX8_as_0 : decode cX8_as 0 = .ok (.aload_n 0, 1) := by decide +kernel
theorem dX8_as_1 : decode cX8_as 1 = .ok (.iconst 0, 1) := by decide +kernel
theorem dX8_as_2 : decode cX8_as 2 = .ok (.putfield 73, 3) := by decide +kernel
theorem dX8_as_5 : decode cX8_as 5 = .ok (.aload_n 0, 1) := by decide +kernel
theorem dX8_as_6 : decode cX8_as 6 = .ok (.getfield 14, 3) := by decide +kernel
theorem dX8_as_9 : decode cX8_as 9 = .ok (.iload_n 1, 1) := by decide +kernel
theorem dX8_as_10 : decode cX8_as 10 = .ok (.invokevirtual 144, 3) := by decide +kernel
theorem dX8_as_13 : decode cX8_as 13 = .ok (.ifCond .ne 5, 3) := by decide +kernel
theorem dX8_as_16 : decode cX8_as 16 = .ok (.iconst (-1), 1) := by decide +kernel
theorem dX8_as_17 : decode cX8_as 17 = .ok (.ireturn, 1) := by decide +kernel
theorem dX8_as_18 : decode cX8_as 18 = .ok (.iload_n 2, 1) := by decide +kernel
theorem dX8_as_19 : decode cX8_as 19 = .ok (.ifCond .lt 8, 3) := by decide +kernel
theorem dX8_as_22 : decode cX8_as 22 = .ok (.iload_n 2, 1) := by decide +kernel
theorem dX8_as_23 : decode cX8_as 23 = .ok (.iconst 2, 1) := by decide +kernel
theorem dX8_as_24 : decode cX8_as 24 = .ok (.if_icmp .le 6, 3) := by decide +kernel
theorem dX8_as_27 : decode cX8_as 27 = .ok (.bipush (-2), 2) := by decide +kernel
theorem dX8_as_29 : decode cX8_as 29 = .ok (.ireturn, 1) := by decide +kernel
theorem dX8_as_30 : decode cX8_as 30 = .ok (.aload_n 0, 1) := by decide +kernel
theorem dX8_as_31 : decode cX8_as 31 = .ok (.getfield 14, 3) := by decide +kernel
theorem dX8_as_34 : decode cX8_as 34 = .ok (.iload_n 1, 1) := by decide +kernel
theorem dX8_as_35 : decode cX8_as 35 = .ok (.invokevirtual 147, 3) := by decide +kernel
theorem dX8_as_38 : decode cX8_as 38 = .ok (.iload_n 2, 1) := by decide +kernel
theorem dX8_as_39 : decode cX8_as 39 = .ok (.if_icmp .ge 11, 3) := by decide +kernel
theorem dX8_as_42 : decode cX8_as 42 = .ok (.aload_n 0, 1) := by decide +kernel
theorem dX8_as_43 : decode cX8_as 43 = .ok (.iconst 2, 1) := by decide +kernel
theorem dX8_as_44 : decode cX8_as 44 = .ok (.invokevirtual 93, 3) := by decide +kernel
theorem dX8_as_47 : decode cX8_as 47 = .ok (.goto 4, 3) := by decide +kernel
theorem dX8_as_50 : decode cX8_as 50 = .ok (.iconst 1, 1) := by decide +kernel
theorem dX8_as_51 : decode cX8_as 51 = .ok (.ireturn, 1) := by decide +kernel
theorem dX8_trace_0 : decode cX8_trace 0 = .ok (.aload_n 0, 1) := by decide +kernel
theorem dX8_trace_1 : decode cX8_trace 1 = .ok (.getfield 255, 3) := by decide +kernel
theorem dX8_trace_4 : decode cX8_trace 4 = .ok (.ireturn, 1) := by decide +kernel
theorem dX8_fault_0 : decode cX8_fault 0 = .ok (.aload_n 0, 1) := by decide +kernel
theorem dX8_fault_1 : decode cX8_fault 1 = .ok (.getfield 73, 3) := by decide +kernel
theorem dX8_fault_4 : decode cX8_fault 4 = .ok (.ireturn, 1) := by decide +kernel
theorem dX8_many_0 : decode cX8_many 0 = .ok (.iload_n 1, 1) := by decide +kernel
theorem dX8_many_1 : decode cX8_many 1 = .ok (.tableswitch 79 0 4 #[35, 43, 51, 59, 74], 35) := by decide +kernel
theorem dX8_many_36 : decode cX8_many 36 = .ok (.aload_n 0, 1) := by decide +kernel
theorem dX8_many_37 : decode cX8_many 37 = .ok (.getfield 14, 3) := by decide +kernel
theorem dX8_many_40 : decode cX8_many 40 = .ok (.getfield 196, 3) := by decide +kernel
theorem dX8_many_43 : decode cX8_many 43 = .ok (.ireturn, 1) := by decide +kernel
theorem dX8_many_44 : decode cX8_many 44 = .ok (.aload_n 0, 1) := by decide +kernel
theorem dX8_many_45 : decode cX8_many 45 = .ok (.getfield 14, 3) := by decide +kernel
theorem dX8_many_48 : decode cX8_many 48 = .ok (.getfield 204, 3) := by decide +kernel
theorem dX8_many_51 : decode cX8_many 51 = .ok (.ireturn, 1) := by decide +kernel
theorem dX8_many_52 : decode cX8_many 52 = .ok (.aload_n 0, 1) := by decide +kernel
theorem dX8_many_53 : decode cX8_many 53 = .ok (.getfield 14, 3) := by decide +kernel
theorem dX8_many_56 : decode cX8_many 56 = .ok (.getfield 106, 3) := by decide +kernel
theorem dX8_many_59 : decode cX8_many 59 = .ok (.ireturn, 1) := by decide +kernel
theorem dX8_many_60 : decode cX8_many 60 = .ok (.aload_n 0, 1) := by decide +kernel
theorem dX8_many_61 : decode cX8_many 61 = .ok (.getfield 14, 3) := by decide +kernel
theorem dX8_many_64 : decode cX8_many 64 = .ok (.aload_n 0, 1) := by decide +kernel
theorem dX8_many_65 : decode cX8_many 65 = .ok (.getfield 119, 3) := by decide +kernel
theorem dX8_many_68 : decode cX8_many 68 = .ok (.invokevirtual 258, 3) := by decide +kernel
theorem dX8_many_71 : decode cX8_many 71 = .ok (.invokestatic 262, 3) := by decide +kernel
theorem dX8_many_74 : decode cX8_many 74 = .ok (.ireturn, 1) := by decide +kernel
theorem dX8_many_75 : decode cX8_many 75 = .ok (.aload_n 0, 1) := by decide +kernel
theorem dX8_many_76 : decode cX8_many 76 = .ok (.getfield 123, 3) := by decide +kernel
theorem dX8_many_79 : decode cX8_many 79 = .ok (.ireturn, 1) := by decide +kernel
theorem dX8_many_80 : decode cX8_many 80 = .ok (.bipush (-2), 2) := by decide +kernel
theorem dX8_many_82 : decode cX8_many 82 = .ok (.ireturn, 1) := by decide +kernel
theorem dX8_faulty_0 : decode cX8_faulty 0 = .ok (.aload_n 0, 1) := by decide +kernel
theorem dX8_faulty_1 : decode cX8_faulty 1 = .ok (.iload_n 1, 1) := by decide +kernel
theorem dX8_faulty_2 : decode cX8_faulty 2 = .ok (.putfield 73, 3) := by decide +kernel
theorem dX8_faulty_5 : decode cX8_faulty 5 = .ok (.bipush (-10), 2) := by decide +kernel
theorem dX8_faulty_7 : decode cX8_faulty 7 = .ok (.iload_n 1, 1) := by decide +kernel
theorem dX8_faulty_8 : decode cX8_faulty 8 = .ok (.isub, 1) := by decide +kernel
theorem dX8_faulty_9 : decode cX8_faulty 9 = .ok (.ireturn, 1) := by decide +kernel
theorem dX8_sheetAt_0 : decode cX8_sheetAt 0 = .ok (.iload_n 1, 1) := by decide +kernel
theorem dX8_sheetAt_1 : decode cX8_sheetAt 1 = .ok (.ifCond .lt 12, 3) := by decide +kernel
theorem dX8_sheetAt_4 : decode cX8_sheetAt 4 = .ok (.iload_n 1, 1) := by decide +kernel
theorem dX8_sheetAt_5 : decode cX8_sheetAt 5 = .ok (.aload_n 0, 1) := by decide +kernel
theorem dX8_sheetAt_6 : decode cX8_sheetAt 6 = .ok (.getfield 60, 3) := by decide +kernel
theorem dX8_sheetAt_9 : decode cX8_sheetAt 9 = .ok (.arraylength, 1) := by decide +kernel
theorem dX8_sheetAt_10 : decode cX8_sheetAt 10 = .ok (.if_icmp .lt 7, 3) := by decide +kernel
theorem dX8_sheetAt_13 : decode cX8_sheetAt 13 = .ok (.aconst_null, 1) := by decide +kernel
theorem dX8_sheetAt_14 : decode cX8_sheetAt 14 = .ok (.goto 9, 3) := by decide +kernel
theorem dX8_sheetAt_17 : decode cX8_sheetAt 17 = .ok (.aload_n 0, 1) := by decide +kernel
theorem dX8_sheetAt_18 : decode cX8_sheetAt 18 = .ok (.getfield 60, 3) := by decide +kernel
theorem dX8_sheetAt_21 : decode cX8_sheetAt 21 = .ok (.iload_n 1, 1) := by decide +kernel
theorem dX8_sheetAt_22 : decode cX8_sheetAt 22 = .ok (.aaload, 1) := by decide +kernel
theorem dX8_sheetAt_23 : decode cX8_sheetAt 23 = .ok (.areturn, 1) := by decide +kernel
theorem dX8_isLane_0 : decode cX8_isLane 0 = .ok (.iload_n 0, 1) := by decide +kernel
theorem dX8_isLane_1 : decode cX8_isLane 1 = .ok (.ifCond .lt 12, 3) := by decide +kernel
theorem dX8_isLane_4 : decode cX8_isLane 4 = .ok (.iload_n 0, 1) := by decide +kernel
theorem dX8_isLane_5 : decode cX8_isLane 5 = .ok (.iconst 3, 1) := by decide +kernel
theorem dX8_isLane_6 : decode cX8_isLane 6 = .ok (.if_icmp .ge 7, 3) := by decide +kernel
theorem dX8_isLane_9 : decode cX8_isLane 9 = .ok (.iconst 1, 1) := by decide +kernel
theorem dX8_isLane_10 : decode cX8_isLane 10 = .ok (.goto 4, 3) := by decide +kernel
theorem dX8_isLane_13 : decode cX8_isLane 13 = .ok (.iconst 0, 1) := by decide +kernel
theorem dX8_isLane_14 : decode cX8_isLane 14 = .ok (.ireturn, 1) := by decide +kernel
theorem dX8_isGate_0 : decode cX8_isGate 0 = .ok (.iload_n 0, 1) := by decide +kernel
theorem dX8_isGate_1 : decode cX8_isGate 1 = .ok (.ifCond .eq 8, 3) := by decide +kernel
theorem dX8_isGate_4 : decode cX8_isGate 4 = .ok (.iload_n 0, 1) := by decide +kernel
theorem dX8_isGate_5 : decode cX8_isGate 5 = .ok (.iconst 1, 1) := by decide +kernel
theorem dX8_isGate_6 : decode cX8_isGate 6 = .ok (.if_icmp .ne 7, 3) := by decide +kernel
theorem dX8_isGate_9 : decode cX8_isGate 9 = .ok (.iconst 1, 1) := by decide +kernel
theorem dX8_isGate_10 : decode cX8_isGate 10 = .ok (.goto 4, 3) := by decide +kernel
theorem dX8_isGate_13 : decode cX8_isGate 13 = .ok (.iconst 0, 1) := by decide +kernel
theorem dX8_isGate_14 : decode cX8_isGate 14 = .ok (.ireturn, 1) := by decide +kernel
theorem dX8_placeOf_0 : decode cX8_placeOf 0 = .ok (.lload_n 0, 1) := by decide +kernel
theorem dX8_placeOf_1 : decode cX8_placeOf 1 = .ok (.bipush 6, 2) := by decide +kernel
theorem dX8_placeOf_3 : decode cX8_placeOf 3 = .ok (.iload_n 2, 1) := by decide +kernel
theorem dX8_placeOf_4 : decode cX8_placeOf 4 = .ok (.imul, 1) := by decide +kernel
theorem dX8_placeOf_5 : decode cX8_placeOf 5 = .ok (.lushr, 1) := by decide +kernel
theorem dX8_placeOf_6 : decode cX8_placeOf 6 = .ok (.ldc2_w 266, 3) := by decide +kernel
theorem dX8_placeOf_9 : decode cX8_placeOf 9 = .ok (.land, 1) := by decide +kernel
theorem dX8_placeOf_10 : decode cX8_placeOf 10 = .ok (.l2i, 1) := by decide +kernel
theorem dX8_placeOf_11 : decode cX8_placeOf 11 = .ok (.ireturn, 1) := by decide +kernel
theorem dX8_withPlace_0 : decode cX8_withPlace 0 = .ok (.bipush 6, 2) := by decide +kernel
theorem dX8_withPlace_2 : decode cX8_withPlace 2 = .ok (.iload_n 2, 1) := by decide +kernel
theorem dX8_withPlace_3 : decode cX8_withPlace 3 = .ok (.imul, 1) := by decide +kernel
theorem dX8_withPlace_4 : decode cX8_withPlace 4 = .ok (.istore 4, 2) := by decide +kernel
theorem dX8_withPlace_6 : decode cX8_withPlace 6 = .ok (.lload_n 0, 1) := by decide +kernel
theorem dX8_withPlace_7 : decode cX8_withPlace 7 = .ok (.ldc2_w 266, 3) := by decide +kernel
theorem dX8_withPlace_10 : decode cX8_withPlace 10 = .ok (.iload 4, 2) := by decide +kernel
theorem dX8_withPlace_12 : decode cX8_withPlace 12 = .ok (.lshl, 1) := by decide +kernel
theorem dX8_withPlace_13 : decode cX8_withPlace 13 = .ok (.ldc2_w 68, 3) := by decide +kernel
theorem dX8_withPlace_16 : decode cX8_withPlace 16 = .ok (.lxor, 1) := by decide +kernel
theorem dX8_withPlace_17 : decode cX8_withPlace 17 = .ok (.land, 1) := by decide +kernel
theorem dX8_withPlace_18 : decode cX8_withPlace 18 = .ok (.iload_n 3, 1) := by decide +kernel
theorem dX8_withPlace_19 : decode cX8_withPlace 19 = .ok (.i2l, 1) := by decide +kernel
theorem dX8_withPlace_20 : decode cX8_withPlace 20 = .ok (.iload 4, 2) := by decide +kernel
theorem dX8_withPlace_22 : decode cX8_withPlace 22 = .ok (.lshl, 1) := by decide +kernel
theorem dX8_withPlace_23 : decode cX8_withPlace 23 = .ok (.lor, 1) := by decide +kernel
theorem dX8_withPlace_24 : decode cX8_withPlace 24 = .ok (.lreturn, 1) := by decide +kernel
theorem dX8_whereIs_0 : decode cX8_whereIs 0 = .ok (.lload_n 0, 1) := by decide +kernel
theorem dX8_whereIs_1 : decode cX8_whereIs 1 = .ok (.iload_n 2, 1) := by decide +kernel
theorem dX8_whereIs_2 : decode cX8_whereIs 2 = .ok (.invokestatic 136, 3) := by decide +kernel
theorem dX8_whereIs_5 : decode cX8_whereIs 5 = .ok (.istore_n 3, 1) := by decide +kernel
theorem dX8_whereIs_6 : decode cX8_whereIs 6 = .ok (.iload_n 3, 1) := by decide +kernel
theorem dX8_whereIs_7 : decode cX8_whereIs 7 = .ok (.bipush 36, 2) := by decide +kernel
theorem dX8_whereIs_9 : decode cX8_whereIs 9 = .ok (.if_icmp .ge 5, 3) := by decide +kernel
theorem dX8_whereIs_12 : decode cX8_whereIs 12 = .ok (.iload_n 3, 1) := by decide +kernel
theorem dX8_whereIs_13 : decode cX8_whereIs 13 = .ok (.ireturn, 1) := by decide +kernel
theorem dX8_whereIs_14 : decode cX8_whereIs 14 = .ok (.iload_n 3, 1) := by decide +kernel
theorem dX8_whereIs_15 : decode cX8_whereIs 15 = .ok (.bipush 36, 2) := by decide +kernel
theorem dX8_whereIs_17 : decode cX8_whereIs 17 = .ok (.if_icmp .ne 8, 3) := by decide +kernel
theorem dX8_whereIs_20 : decode cX8_whereIs 20 = .ok (.bipush (-6), 2) := by decide +kernel
theorem dX8_whereIs_22 : decode cX8_whereIs 22 = .ok (.goto 10, 3) := by decide +kernel
theorem dX8_whereIs_25 : decode cX8_whereIs 25 = .ok (.bipush (-20), 2) := by decide +kernel
theorem dX8_whereIs_27 : decode cX8_whereIs 27 = .ok (.iload_n 3, 1) := by decide +kernel
theorem dX8_whereIs_28 : decode cX8_whereIs 28 = .ok (.bipush 37, 2) := by decide +kernel
theorem dX8_whereIs_30 : decode cX8_whereIs 30 = .ok (.isub, 1) := by decide +kernel
theorem dX8_whereIs_31 : decode cX8_whereIs 31 = .ok (.isub, 1) := by decide +kernel
theorem dX8_whereIs_32 : decode cX8_whereIs 32 = .ok (.ireturn, 1) := by decide +kernel
theorem dX8_has_0 : decode cX8_has 0 = .ok (.lload_n 0, 1) := by decide +kernel
theorem dX8_has_1 : decode cX8_has 1 = .ok (.iload_n 2, 1) := by decide +kernel
theorem dX8_has_2 : decode cX8_has 2 = .ok (.lushr, 1) := by decide +kernel
theorem dX8_has_3 : decode cX8_has 3 = .ok (.lconst 1, 1) := by decide +kernel
theorem dX8_has_4 : decode cX8_has 4 = .ok (.land, 1) := by decide +kernel
theorem dX8_has_5 : decode cX8_has 5 = .ok (.lconst 0, 1) := by decide +kernel
theorem dX8_has_6 : decode cX8_has 6 = .ok (.lcmp, 1) := by decide +kernel
theorem dX8_has_7 : decode cX8_has 7 = .ok (.ifCond .eq 7, 3) := by decide +kernel
theorem dX8_has_10 : decode cX8_has 10 = .ok (.iconst 1, 1) := by decide +kernel
theorem dX8_has_11 : decode cX8_has 11 = .ok (.goto 4, 3) := by decide +kernel
theorem dX8_has_14 : decode cX8_has 14 = .ok (.iconst 0, 1) := by decide +kernel
theorem dX8_has_15 : decode cX8_has 15 = .ok (.ireturn, 1) := by decide +kernel
theorem dX8_pushNumber_0 : decode cX8_pushNumber 0 = .ok (.bipush 10, 2) := by decide +kernel
theorem dX8_pushNumber_2 : decode cX8_pushNumber 2 = .ok (.iload_n 0, 1) := by decide +kernel
theorem dX8_pushNumber_3 : decode cX8_pushNumber 3 = .ok (.imul, 1) := by decide +kernel
theorem dX8_pushNumber_4 : decode cX8_pushNumber 4 = .ok (.iload_n 1, 1) := by decide +kernel
theorem dX8_pushNumber_5 : decode cX8_pushNumber 5 = .ok (.iadd, 1) := by decide +kernel
theorem dX8_pushNumber_6 : decode cX8_pushNumber 6 = .ok (.ireturn, 1) := by decide +kernel
theorem dX9_init_0 : decode cX9_init 0 = .ok (.aload_n 0, 1) := by decide +kernel
theorem dX9_init_1 : decode cX9_init 1 = .ok (.invokespecial 1, 3) := by decide +kernel
theorem dX9_init_4 : decode cX9_init 4 = .ok (.aload_n 0, 1) := by decide +kernel
theorem dX9_init_5 : decode cX9_init 5 = .ok (.bipush 36, 2) := by decide +kernel
theorem dX9_init_7 : decode cX9_init 7 = .ok (.newarray .int, 2) := by decide +kernel
theorem dX9_init_9 : decode cX9_init 9 = .ok (.putfield 7, 3) := by decide +kernel
theorem dX9_init_12 : decode cX9_init 12 = .ok (.aload_n 0, 1) := by decide +kernel
theorem dX9_init_13 : decode cX9_init 13 = .ok (.bipush 6, 2) := by decide +kernel
theorem dX9_init_15 : decode cX9_init 15 = .ok (.newarray .int, 2) := by decide +kernel
theorem dX9_init_17 : decode cX9_init 17 = .ok (.putfield 13, 3) := by decide +kernel
theorem dX9_init_20 : decode cX9_init 20 = .ok (.aload_n 0, 1) := by decide +kernel
theorem dX9_init_21 : decode cX9_init 21 = .ok (.bipush 6, 2) := by decide +kernel
theorem dX9_init_23 : decode cX9_init 23 = .ok (.newarray .int, 2) := by decide +kernel
theorem dX9_init_25 : decode cX9_init 25 = .ok (.putfield 16, 3) := by decide +kernel
theorem dX9_init_28 : decode cX9_init 28 = .ok (.aload_n 0, 1) := by decide +kernel
theorem dX9_init_29 : decode cX9_init 29 = .ok (.bipush 6, 2) := by decide +kernel
theorem dX9_init_31 : decode cX9_init 31 = .ok (.newarray .int, 2) := by decide +kernel
theorem dX9_init_33 : decode cX9_init 33 = .ok (.putfield 19, 3) := by decide +kernel
theorem dX9_init_36 : decode cX9_init 36 = .ok (.aload_n 0, 1) := by decide +kernel
theorem dX9_init_37 : decode cX9_init 37 = .ok (.bipush 36, 2) := by decide +kernel
theorem dX9_init_39 : decode cX9_init 39 = .ok (.newarray .int, 2) := by decide +kernel
theorem dX9_init_41 : decode cX9_init 41 = .ok (.putfield 22, 3) := by decide +kernel
theorem dX9_init_44 : decode cX9_init 44 = .ok (.aload_n 0, 1) := by decide +kernel
theorem dX9_init_45 : decode cX9_init 45 = .ok (.bipush 6, 2) := by decide +kernel
theorem dX9_init_47 : decode cX9_init 47 = .ok (.newarray .int, 2) := by decide +kernel
theorem dX9_init_49 : decode cX9_init 49 = .ok (.putfield 25, 3) := by decide +kernel
theorem dX9_init_52 : decode cX9_init 52 = .ok (.aload_n 0, 1) := by decide +kernel
theorem dX9_init_53 : decode cX9_init 53 = .ok (.bipush 6, 2) := by decide +kernel
theorem dX9_init_55 : decode cX9_init 55 = .ok (.newarray .int, 2) := by decide +kernel
theorem dX9_init_57 : decode cX9_init 57 = .ok (.putfield 28, 3) := by decide +kernel
theorem dX9_init_60 : decode cX9_init 60 = .ok (.aload_n 0, 1) := by decide +kernel
theorem dX9_init_61 : decode cX9_init 61 = .ok (.bipush 30, 2) := by decide +kernel
theorem dX9_init_63 : decode cX9_init 63 = .ok (.newarray .int, 2) := by decide +kernel
theorem dX9_init_65 : decode cX9_init 65 = .ok (.putfield 31, 3) := by decide +kernel
theorem dX9_init_68 : decode cX9_init 68 = .ok (.aload_n 0, 1) := by decide +kernel
theorem dX9_init_69 : decode cX9_init 69 = .ok (.iconst 5, 1) := by decide +kernel
theorem dX9_init_70 : decode cX9_init 70 = .ok (.newarray .long, 2) := by decide +kernel
theorem dX9_init_72 : decode cX9_init 72 = .ok (.putfield 34, 3) := by decide +kernel
theorem dX9_init_75 : decode cX9_init 75 = .ok (.aload_n 0, 1) := by decide +kernel
theorem dX9_init_76 : decode cX9_init 76 = .ok (.sipush 1200, 3) := by decide +kernel
theorem dX9_init_79 : decode cX9_init 79 = .ok (.newarray .int, 2) := by decide +kernel
theorem dX9_init_81 : decode cX9_init 81 = .ok (.putfield 38, 3) := by decide +kernel
theorem dX9_init_84 : decode cX9_init 84 = .ok (.aload_n 0, 1) := by decide +kernel
theorem dX9_init_85 : decode cX9_init 85 = .ok (.sipush 200, 3) := by decide +kernel
theorem dX9_init_88 : decode cX9_init 88 = .ok (.newarray .long, 2) := by decide +kernel
theorem dX9_init_90 : decode cX9_init 90 = .ok (.putfield 41, 3) := by decide +kernel
theorem dX9_init_93 : decode cX9_init 93 = .ok (.aload_n 0, 1) := by decide +kernel
theorem dX9_init_94 : decode cX9_init 94 = .ok (.iconst 3, 1) := by decide +kernel
theorem dX9_init_95 : decode cX9_init 95 = .ok (.newarray .boolean, 2) := by decide +kernel
theorem dX9_init_97 : decode cX9_init 97 = .ok (.putfield 44, 3) := by decide +kernel
theorem dX9_init_100 : decode cX9_init 100 = .ok (.aload_n 0, 1) := by decide +kernel
theorem dX9_init_101 : decode cX9_init 101 = .ok (.bipush 18, 2) := by decide +kernel
theorem dX9_init_103 : decode cX9_init 103 = .ok (.newarray .int, 2) := by decide +kernel
theorem dX9_init_105 : decode cX9_init 105 = .ok (.putfield 48, 3) := by decide +kernel
theorem dX9_init_108 : decode cX9_init 108 = .ok (.aload_n 0, 1) := by decide +kernel
theorem dX9_init_109 : decode cX9_init 109 = .ok (.iconst 3, 1) := by decide +kernel
theorem dX9_init_110 : decode cX9_init 110 = .ok (.newarray .long, 2) := by decide +kernel
theorem dX9_init_112 : decode cX9_init 112 = .ok (.putfield 51, 3) := by decide +kernel
theorem dX9_init_115 : decode cX9_init 115 = .ok (.aload_n 0, 1) := by decide +kernel
theorem dX9_init_116 : decode cX9_init 116 = .ok (.sipush 1501, 3) := by decide +kernel
theorem dX9_init_119 : decode cX9_init 119 = .ok (.newarray .long, 2) := by decide +kernel
theorem dX9_init_121 : decode cX9_init 121 = .ok (.putfield 54, 3) := by decide +kernel
theorem dX9_init_124 : decode cX9_init 124 = .ok (.aload_n 0, 1) := by decide +kernel
theorem dX9_init_125 : decode cX9_init 125 = .ok (.sipush 1501, 3) := by decide +kernel
theorem dX9_init_128 : decode cX9_init 128 = .ok (.newarray .int, 2) := by decide +kernel
theorem dX9_init_130 : decode cX9_init 130 = .ok (.putfield 57, 3) := by decide +kernel
theorem dX9_init_133 : decode cX9_init 133 = .ok (.aload_n 0, 1) := by decide +kernel
theorem dX9_init_134 : decode cX9_init 134 = .ok (.sipush 1501, 3) := by decide +kernel
theorem dX9_init_137 : decode cX9_init 137 = .ok (.newarray .int, 2) := by decide +kernel
theorem dX9_init_139 : decode cX9_init 139 = .ok (.putfield 60, 3) := by decide +kernel
theorem dX9_init_142 : decode cX9_init 142 = .ok (.aload_n 0, 1) := by decide +kernel
theorem dX9_init_143 : decode cX9_init 143 = .ok (.sipush 4096, 3) := by decide +kernel
theorem dX9_init_146 : decode cX9_init 146 = .ok (.newarray .int, 2) := by decide +kernel
theorem dX9_init_148 : decode cX9_init 148 = .ok (.putfield 63, 3) := by decide +kernel
theorem dX9_init_151 : decode cX9_init 151 = .ok (.aload_n 0, 1) := by decide +kernel
theorem dX9_init_152 : decode cX9_init 152 = .ok (.sipush 1501, 3) := by decide +kernel
theorem dX9_init_155 : decode cX9_init 155 = .ok (.newarray .int, 2) := by decide +kernel
theorem dX9_init_157 : decode cX9_init 157 = .ok (.putfield 66, 3) := by decide +kernel
theorem dX9_init_160 : decode cX9_init 160 = .ok (.aload_n 0, 1) := by decide +kernel
theorem dX9_init_161 : decode cX9_init 161 = .ok (.iconst 5, 1) := by decide +kernel
theorem dX9_init_162 : decode cX9_init 162 = .ok (.newarray .int, 2) := by decide +kernel
theorem dX9_init_164 : decode cX9_init 164 = .ok (.putfield 69, 3) := by decide +kernel
theorem dX9_init_167 : decode cX9_init 167 = .ok (.aload_n 0, 1) := by decide +kernel
theorem dX9_init_168 : decode cX9_init 168 = .ok (.iconst 5, 1) := by decide +kernel
theorem dX9_init_169 : decode cX9_init 169 = .ok (.newarray .boolean, 2) := by decide +kernel
theorem dX9_init_171 : decode cX9_init 171 = .ok (.putfield 72, 3) := by decide +kernel
theorem dX9_init_174 : decode cX9_init 174 = .ok (.aload_n 0, 1) := by decide +kernel
theorem dX9_init_175 : decode cX9_init 175 = .ok (.iconst 5, 1) := by decide +kernel
theorem dX9_init_176 : decode cX9_init 176 = .ok (.newarray .boolean, 2) := by decide +kernel
theorem dX9_init_178 : decode cX9_init 178 = .ok (.putfield 75, 3) := by decide +kernel
theorem dX9_init_181 : decode cX9_init 181 = .ok (.aload_n 0, 1) := by decide +kernel
theorem dX9_init_182 : decode cX9_init 182 = .ok (.iconst 5, 1) := by decide +kernel
theorem dX9_init_183 : decode cX9_init 183 = .ok (.newarray .boolean, 2) := by decide +kernel
theorem dX9_init_185 : decode cX9_init 185 = .ok (.putfield 78, 3) := by decide +kernel
theorem dX9_init_188 : decode cX9_init 188 = .ok (.aload_n 0, 1) := by decide +kernel
theorem dX9_init_189 : decode cX9_init 189 = .ok (.iconst 5, 1) := by decide +kernel
theorem dX9_init_190 : decode cX9_init 190 = .ok (.newarray .boolean, 2) := by decide +kernel
theorem dX9_init_192 : decode cX9_init 192 = .ok (.putfield 81, 3) := by decide +kernel
theorem dX9_init_195 : decode cX9_init 195 = .ok (.aload_n 0, 1) := by decide +kernel
theorem dX9_init_196 : decode cX9_init 196 = .ok (.iconst 4, 1) := by decide +kernel
theorem dX9_init_197 : decode cX9_init 197 = .ok (.newarray .long, 2) := by decide +kernel
theorem dX9_init_199 : decode cX9_init 199 = .ok (.putfield 84, 3) := by decide +kernel
theorem dX9_init_202 : decode cX9_init 202 = .ok (.aload_n 0, 1) := by decide +kernel
theorem dX9_init_203 : decode cX9_init 203 = .ok (.iconst 4, 1) := by decide +kernel
theorem dX9_init_204 : decode cX9_init 204 = .ok (.newarray .int, 2) := by decide +kernel
theorem dX9_init_206 : decode cX9_init 206 = .ok (.putfield 87, 3) := by decide +kernel
theorem dX9_init_209 : decode cX9_init 209 = .ok (.aload_n 0, 1) := by decide +kernel
theorem dX9_init_210 : decode cX9_init 210 = .ok (.iconst 4, 1) := by decide +kernel
theorem dX9_init_211 : decode cX9_init 211 = .ok (.newarray .int, 2) := by decide +kernel
theorem dX9_init_213 : decode cX9_init 213 = .ok (.putfield 90, 3) := by decide +kernel
theorem dX9_init_216 : decode cX9_init 216 = .ok (.aload_n 0, 1) := by decide +kernel
theorem dX9_init_217 : decode cX9_init 217 = .ok (.iconst 4, 1) := by decide +kernel
theorem dX9_init_218 : decode cX9_init 218 = .ok (.newarray .int, 2) := by decide +kernel
theorem dX9_init_220 : decode cX9_init 220 = .ok (.putfield 93, 3) := by decide +kernel
theorem dX9_init_223 : decode cX9_init 223 = .ok (.aload_n 0, 1) := by decide +kernel
theorem dX9_init_224 : decode cX9_init 224 = .ok (.iconst 4, 1) := by decide +kernel
theorem dX9_init_225 : decode cX9_init 225 = .ok (.newarray .int, 2) := by decide +kernel
theorem dX9_init_227 : decode cX9_init 227 = .ok (.putfield 96, 3) := by decide +kernel
theorem dX9_init_230 : decode cX9_init 230 = .ok (.aload_n 0, 1) := by decide +kernel
theorem dX9_init_231 : decode cX9_init 231 = .ok (.sipush 240, 3) := by decide +kernel
theorem dX9_init_234 : decode cX9_init 234 = .ok (.newarray .int, 2) := by decide +kernel
theorem dX9_init_236 : decode cX9_init 236 = .ok (.putfield 99, 3) := by decide +kernel
theorem dX9_init_239 : decode cX9_init 239 = .ok (.aload_n 0, 1) := by decide +kernel
theorem dX9_init_240 : decode cX9_init 240 = .ok (.bipush 60, 2) := by decide +kernel
theorem dX9_init_242 : decode cX9_init 242 = .ok (.newarray .int, 2) := by decide +kernel
theorem dX9_init_244 : decode cX9_init 244 = .ok (.putfield 102, 3) := by decide +kernel
theorem dX9_init_247 : decode cX9_init 247 = .ok (.iconst 0, 1) := by decide +kernel
theorem dX9_init_248 : decode cX9_init 248 = .ok (.istore_n 1, 1) := by decide +kernel
theorem dX9_init_249 : decode cX9_init 249 = .ok (.iload_n 1, 1) := by decide +kernel
theorem dX9_init_250 : decode cX9_init 250 = .ok (.iconst 4, 1) := by decide +kernel
theorem dX9_init_251 : decode cX9_init 251 = .ok (.if_icmp .ge 16, 3) := by decide +kernel
theorem dX9_init_254 : decode cX9_init 254 = .ok (.aload_n 0, 1) := by decide +kernel
theorem dX9_init_255 : decode cX9_init 255 = .ok (.getfield 93, 3) := by decide +kernel
theorem dX9_init_258 : decode cX9_init 258 = .ok (.iload_n 1, 1) := by decide +kernel
theorem dX9_init_259 : decode cX9_init 259 = .ok (.iconst (-1), 1) := by decide +kernel
theorem dX9_init_260 : decode cX9_init 260 = .ok (.iastore, 1) := by decide +kernel
theorem dX9_init_261 : decode cX9_init 261 = .ok (.iinc 1 1, 3) := by decide +kernel
theorem dX9_init_264 : decode cX9_init 264 = .ok (.goto (-15), 3) := by decide +kernel
theorem dX9_init_267 : decode cX9_init 267 = .ok (.return_, 1) := by decide +kernel
theorem dX9_in_0 : decode cX9_in 0 = .ok (.lload_n 0, 1) := by decide +kernel
theorem dX9_in_1 : decode cX9_in 1 = .ok (.lload_n 2, 1) := by decide +kernel
theorem dX9_in_2 : decode cX9_in 2 = .ok (.lcmp, 1) := by decide +kernel
theorem dX9_in_3 : decode cX9_in 3 = .ok (.ifCond .lt 14, 3) := by decide +kernel
theorem dX9_in_6 : decode cX9_in 6 = .ok (.lload_n 0, 1) := by decide +kernel
theorem dX9_in_7 : decode cX9_in 7 = .ok (.lload 4, 2) := by decide +kernel
theorem dX9_in_9 : decode cX9_in 9 = .ok (.lcmp, 1) := by decide +kernel
theorem dX9_in_10 : decode cX9_in 10 = .ok (.ifCond .gt 7, 3) := by decide +kernel
theorem dX9_in_13 : decode cX9_in 13 = .ok (.iconst 1, 1) := by decide +kernel
theorem dX9_in_14 : decode cX9_in 14 = .ok (.goto 4, 3) := by decide +kernel
theorem dX9_in_17 : decode cX9_in 17 = .ok (.iconst 0, 1) := by decide +kernel
theorem dX9_in_18 : decode cX9_in 18 = .ok (.ireturn, 1) := by decide +kernel
theorem dX9_lost_0 : decode cX9_lost 0 = .ok (.ldc2_w 105, 3) := by decide +kernel
theorem dX9_lost_3 : decode cX9_lost 3 = .ok (.lreturn, 1) := by decide +kernel
theorem dX9_refused_0 : decode cX9_refused 0 = .ok (.aload_n 0, 1) := by decide +kernel
theorem dX9_refused_1 : decode cX9_refused 1 = .ok (.iconst 0, 1) := by decide +kernel
theorem dX9_refused_2 : decode cX9_refused 2 = .ok (.putfield 107, 3) := by decide +kernel
theorem dX9_refused_5 : decode cX9_refused 5 = .ok (.iload_n 1, 1) := by decide +kernel
theorem dX9_refused_6 : decode cX9_refused 6 = .ok (.ireturn, 1) := by decide +kernel
theorem dX9_failed_0 : decode cX9_failed 0 = .ok (.aload_n 0, 1) := by decide +kernel
theorem dX9_failed_1 : decode cX9_failed 1 = .ok (.iload_n 1, 1) := by decide +kernel
theorem dX9_failed_2 : decode cX9_failed 2 = .ok (.putfield 107, 3) := by decide +kernel
theorem dX9_failed_5 : decode cX9_failed 5 = .ok (.bipush (-10), 2) := by decide +kernel
theorem dX9_failed_7 : decode cX9_failed 7 = .ok (.iload_n 1, 1) := by decide +kernel
theorem dX9_failed_8 : decode cX9_failed 8 = .ok (.isub, 1) := by decide +kernel
theorem dX9_failed_9 : decode cX9_failed 9 = .ok (.ireturn, 1) := by decide +kernel
theorem dX9_failedLong_0 : decode cX9_failedLong 0 = .ok (.aload_n 0, 1) := by decide +kernel
theorem dX9_failedLong_1 : decode cX9_failedLong 1 = .ok (.iload_n 1, 1) := by decide +kernel
theorem dX9_failedLong_2 : decode cX9_failedLong 2 = .ok (.putfield 107, 3) := by decide +kernel
theorem dX9_failedLong_5 : decode cX9_failedLong 5 = .ok (.invokestatic 111, 3) := by decide +kernel
theorem dX9_failedLong_8 : decode cX9_failedLong 8 = .ok (.lreturn, 1) := by decide +kernel
theorem dX9_cells_0 : decode cX9_cells 0 = .ok (.aload_n 0, 1) := by decide +kernel
theorem dX9_cells_1 : decode cX9_cells 1 = .ok (.getfield 115, 3) := by decide +kernel
theorem dX9_cells_4 : decode cX9_cells 4 = .ok (.aload_n 0, 1) := by decide +kernel
theorem dX9_cells_5 : decode cX9_cells 5 = .ok (.getfield 118, 3) := by decide +kernel
theorem dX9_cells_8 : decode cX9_cells 8 = .ok (.imul, 1) := by decide +kernel
theorem dX9_cells_9 : decode cX9_cells 9 = .ok (.ireturn, 1) := by decide +kernel
theorem dX9_codeAt_0 : decode cX9_codeAt 0 = .ok (.aload_n 0, 1) := by decide +kernel
theorem dX9_codeAt_1 : decode cX9_codeAt 1 = .ok (.getfield 121, 3) := by decide +kernel
theorem dX9_codeAt_4 : decode cX9_codeAt 4 = .ok (.iload_n 2, 1) := by decide +kernel
theorem dX9_codeAt_5 : decode cX9_codeAt 5 = .ok (.if_icmp .ge 17, 3) := by decide +kernel
theorem dX9_codeAt_8 : decode cX9_codeAt 8 = .ok (.aload_n 0, 1) := by decide +kernel
theorem dX9_codeAt_9 : decode cX9_codeAt 9 = .ok (.getfield 99, 3) := by decide +kernel
theorem dX9_codeAt_12 : decode cX9_codeAt 12 = .ok (.iload_n 1, 1) := by decide +kernel
theorem dX9_codeAt_13 : decode cX9_codeAt 13 = .ok (.aload_n 0, 1) := by decide +kernel
theorem dX9_codeAt_14 : decode cX9_codeAt 14 = .ok (.getfield 121, 3) := by decide +kernel
theorem dX9_codeAt_17 : decode cX9_codeAt 17 = .ok (.iadd, 1) := by decide +kernel
theorem dX9_codeAt_18 : decode cX9_codeAt 18 = .ok (.iaload, 1) := by decide +kernel
theorem dX9_codeAt_19 : decode cX9_codeAt 19 = .ok (.goto 5, 3) := by decide +kernel
theorem dX9_codeAt_22 : decode cX9_codeAt 22 = .ok (.bipush (-9), 2) := by decide +kernel
theorem dX9_codeAt_24 : decode cX9_codeAt 24 = .ok (.ireturn, 1) := by decide +kernel
theorem dX9_groundOf_0 : decode cX9_groundOf 0 = .ok (.iload_n 0, 1) := by decide +kernel
theorem dX9_groundOf_1 : decode cX9_groundOf 1 = .ok (.lookupswitch 95 #[(35, 85), (46, 83), (97, 91), (98, 93), (99, 89), (100, 83), (108, 83), (111, 83), (115, 87)], 83) := by decide +kernel
theorem dX9_groundOf_84 : decode cX9_groundOf 84 = .ok (.iconst 0, 1) := by decide +kernel
theorem dX9_groundOf_85 : decode cX9_groundOf 85 = .ok (.ireturn, 1) := by decide +kernel
theorem dX9_groundOf_86 : decode cX9_groundOf 86 = .ok (.iconst 1, 1) := by decide +kernel
theorem dX9_groundOf_87 : decode cX9_groundOf 87 = .ok (.ireturn, 1) := by decide +kernel
theorem dX9_groundOf_88 : decode cX9_groundOf 88 = .ok (.iconst 2, 1) := by decide +kernel
theorem dX9_groundOf_89 : decode cX9_groundOf 89 = .ok (.ireturn, 1) := by decide +kernel
theorem dX9_groundOf_90 : decode cX9_groundOf 90 = .ok (.iconst 3, 1) := by decide +kernel
theorem dX9_groundOf_91 : decode cX9_groundOf 91 = .ok (.ireturn, 1) := by decide +kernel
theorem dX9_groundOf_92 : decode cX9_groundOf 92 = .ok (.iconst 4, 1) := by decide +kernel
theorem dX9_groundOf_93 : decode cX9_groundOf 93 = .ok (.ireturn, 1) := by decide +kernel
theorem dX9_groundOf_94 : decode cX9_groundOf 94 = .ok (.iconst 5, 1) := by decide +kernel
theorem dX9_groundOf_95 : decode cX9_groundOf 95 = .ok (.ireturn, 1) := by decide +kernel
theorem dX9_groundOf_96 : decode cX9_groundOf 96 = .ok (.bipush (-9), 2) := by decide +kernel
theorem dX9_groundOf_98 : decode cX9_groundOf 98 = .ok (.ireturn, 1) := by decide +kernel
theorem dX9_readsSign_0 : decode cX9_readsSign 0 = .ok (.aload_n 0, 1) := by decide +kernel
theorem dX9_readsSign_1 : decode cX9_readsSign 1 = .ok (.iload_n 1, 1) := by decide +kernel
theorem dX9_readsSign_2 : decode cX9_readsSign 2 = .ok (.iload_n 2, 1) := by decide +kernel
theorem dX9_readsSign_3 : decode cX9_readsSign 3 = .ok (.invokevirtual 124, 3) := by decide +kernel
theorem dX9_readsSign_6 : decode cX9_readsSign 6 = .ok (.istore 4, 2) := by decide +kernel
theorem dX9_readsSign_8 : decode cX9_readsSign 8 = .ok (.iload 4, 2) := by decide +kernel
theorem dX9_readsSign_10 : decode cX9_readsSign 10 = .ok (.invokestatic 128, 3) := by decide +kernel
theorem dX9_readsSign_13 : decode cX9_readsSign 13 = .ok (.istore 5, 2) := by decide +kernel
theorem dX9_readsSign_15 : decode cX9_readsSign 15 = .ok (.iload 4, 2) := by decide +kernel
theorem dX9_readsSign_17 : decode cX9_readsSign 17 = .ok (.bipush 111, 2) := by decide +kernel
theorem dX9_readsSign_19 : decode cX9_readsSign 19 = .ok (.if_icmp .eq 17, 3) := by decide +kernel
theorem dX9_readsSign_22 : decode cX9_readsSign 22 = .ok (.iload 4, 2) := by decide +kernel
theorem dX9_readsSign_24 : decode cX9_readsSign 24 = .ok (.bipush 108, 2) := by decide +kernel
theorem dX9_readsSign_26 : decode cX9_readsSign 26 = .ok (.if_icmp .eq 10, 3) := by decide +kernel
theorem dX9_readsSign_29 : decode cX9_readsSign 29 = .ok (.iload 4, 2) := by decide +kernel
theorem dX9_readsSign_31 : decode cX9_readsSign 31 = .ok (.bipush 100, 2) := by decide +kernel
theorem dX9_readsSign_33 : decode cX9_readsSign 33 = .ok (.if_icmp .ne 7, 3) := by decide +kernel
theorem dX9_readsSign_36 : decode cX9_readsSign 36 = .ok (.iconst 1, 1) := by decide +kernel
theorem dX9_readsSign_37 : decode cX9_readsSign 37 = .ok (.goto 4, 3) := by decide +kernel
theorem dX9_readsSign_40 : decode cX9_readsSign 40 = .ok (.iconst 0, 1) := by decide +kernel
theorem dX9_readsSign_41 : decode cX9_readsSign 41 = .ok (.istore 6, 2) := by decide +kernel
theorem dX9_readsSign_43 : decode cX9_readsSign 43 = .ok (.iload 5, 2) := by decide +kernel
theorem dX9_readsSign_45 : decode cX9_readsSign 45 = .ok (.ifCond .lt 31, 3) := by decide +kernel
theorem dX9_readsSign_48 : decode cX9_readsSign 48 = .ok (.iload 5, 2) := by decide +kernel
theorem dX9_readsSign_50 : decode cX9_readsSign 50 = .ok (.iconst 3, 1) := by decide +kernel
theorem dX9_readsSign_51 : decode cX9_readsSign 51 = .ok (.if_icmp .ne 11, 3) := by decide +kernel
theorem dX9_readsSign_54 : decode cX9_readsSign 54 = .ok (.aload_n 0, 1) := by decide +kernel
theorem dX9_readsSign_55 : decode cX9_readsSign 55 = .ok (.getfield 132, 3) := by decide +kernel
theorem dX9_readsSign_58 : decode cX9_readsSign 58 = .ok (.iconst 4, 1) := by decide +kernel
theorem dX9_readsSign_59 : decode cX9_readsSign 59 = .ok (.if_icmp .eq 17, 3) := by decide +kernel
theorem dX9_readsSign_62 : decode cX9_readsSign 62 = .ok (.iload 6, 2) := by decide +kernel
theorem dX9_readsSign_64 : decode cX9_readsSign 64 = .ok (.ifCond .eq 14, 3) := by decide +kernel
theorem dX9_readsSign_67 : decode cX9_readsSign 67 = .ok (.aload_n 0, 1) := by decide +kernel
theorem dX9_readsSign_68 : decode cX9_readsSign 68 = .ok (.getfield 135, 3) := by decide +kernel
theorem dX9_readsSign_71 : decode cX9_readsSign 71 = .ok (.bipush 6, 2) := by decide +kernel
theorem dX9_readsSign_73 : decode cX9_readsSign 73 = .ok (.if_icmp .ne 5, 3) := by decide +kernel
theorem dX9_readsSign_76 : decode cX9_readsSign 76 = .ok (.iconst 0, 1) := by decide +kernel
theorem dX9_readsSign_77 : decode cX9_readsSign 77 = .ok (.ireturn, 1) := by decide +kernel
theorem dX9_readsSign_78 : decode cX9_readsSign 78 = .ok (.aload_n 0, 1) := by decide +kernel
theorem dX9_readsSign_79 : decode cX9_readsSign 79 = .ok (.getfield 22, 3) := by decide +kernel
theorem dX9_readsSign_82 : decode cX9_readsSign 82 = .ok (.iload_n 3, 1) := by decide +kernel
theorem dX9_readsSign_83 : decode cX9_readsSign 83 = .ok (.iload 5, 2) := by decide +kernel
theorem dX9_readsSign_85 : decode cX9_readsSign 85 = .ok (.iastore, 1) := by decide +kernel
theorem dX9_readsSign_86 : decode cX9_readsSign 86 = .ok (.aload_n 0, 1) := by decide +kernel
theorem dX9_readsSign_87 : decode cX9_readsSign 87 = .ok (.dup, 1) := by decide +kernel
theorem dX9_readsSign_88 : decode cX9_readsSign 88 = .ok (.getfield 132, 3) := by decide +kernel
theorem dX9_readsSign_91 : decode cX9_readsSign 91 = .ok (.iload 5, 2) := by decide +kernel
theorem dX9_readsSign_93 : decode cX9_readsSign 93 = .ok (.iconst 3, 1) := by decide +kernel
theorem dX9_readsSign_94 : decode cX9_readsSign 94 = .ok (.if_icmp .ne 7, 3) := by decide +kernel
theorem dX9_readsSign_97 : decode cX9_readsSign 97 = .ok (.iconst 1, 1) := by decide +kernel
theorem dX9_readsSign_98 : decode cX9_readsSign 98 = .ok (.goto 4, 3) := by decide +kernel
theorem dX9_readsSign_101 : decode cX9_readsSign 101 = .ok (.iconst 0, 1) := by decide +kernel
theorem dX9_readsSign_102 : decode cX9_readsSign 102 = .ok (.iadd, 1) := by decide +kernel
theorem dX9_readsSign_103 : decode cX9_readsSign 103 = .ok (.putfield 132, 3) := by decide +kernel
theorem dX9_readsSign_106 : decode cX9_readsSign 106 = .ok (.iload 6, 2) := by decide +kernel
theorem dX9_readsSign_108 : decode cX9_readsSign 108 = .ok (.ifCond .eq 55, 3) := by decide +kernel
theorem dX9_readsSign_111 : decode cX9_readsSign 111 = .ok (.aload_n 0, 1) := by decide +kernel
theorem dX9_readsSign_112 : decode cX9_readsSign 112 = .ok (.getfield 25, 3) := by decide +kernel
theorem dX9_readsSign_115 : decode cX9_readsSign 115 = .ok (.aload_n 0, 1) := by decide +kernel
theorem dX9_readsSign_116 : decode cX9_readsSign 116 = .ok (.getfield 135, 3) := by decide +kernel
theorem dX9_readsSign_119 : decode cX9_readsSign 119 = .ok (.iload 4, 2) := by decide +kernel
theorem dX9_readsSign_121 : decode cX9_readsSign 121 = .ok (.bipush 111, 2) := by decide +kernel
theorem dX9_readsSign_123 : decode cX9_readsSign 123 = .ok (.if_icmp .ne 7, 3) := by decide +kernel
theorem dX9_readsSign_126 : decode cX9_readsSign 126 = .ok (.iconst 0, 1) := by decide +kernel
theorem dX9_readsSign_127 : decode cX9_readsSign 127 = .ok (.goto 15, 3) := by decide +kernel
theorem dX9_readsSign_130 : decode cX9_readsSign 130 = .ok (.iload 4, 2) := by decide +kernel
theorem dX9_readsSign_132 : decode cX9_readsSign 132 = .ok (.bipush 108, 2) := by decide +kernel
theorem dX9_readsSign_134 : decode cX9_readsSign 134 = .ok (.if_icmp .ne 7, 3) := by decide +kernel
theorem dX9_readsSign_137 : decode cX9_readsSign 137 = .ok (.iconst 1, 1) := by decide +kernel
theorem dX9_readsSign_138 : decode cX9_readsSign 138 = .ok (.goto 4, 3) := by decide +kernel
theorem dX9_readsSign_141 : decode cX9_readsSign 141 = .ok (.iconst 2, 1) := by decide +kernel
theorem dX9_readsSign_142 : decode cX9_readsSign 142 = .ok (.iastore, 1) := by decide +kernel
theorem dX9_readsSign_143 : decode cX9_readsSign 143 = .ok (.aload_n 0, 1) := by decide +kernel
theorem dX9_readsSign_144 : decode cX9_readsSign 144 = .ok (.getfield 28, 3) := by decide +kernel
theorem dX9_readsSign_147 : decode cX9_readsSign 147 = .ok (.aload_n 0, 1) := by decide +kernel
theorem dX9_readsSign_148 : decode cX9_readsSign 148 = .ok (.getfield 135, 3) := by decide +kernel
theorem dX9_readsSign_151 : decode cX9_readsSign 151 = .ok (.iload_n 3, 1) := by decide +kernel
theorem dX9_readsSign_152 : decode cX9_readsSign 152 = .ok (.iastore, 1) := by decide +kernel
theorem dX9_readsSign_153 : decode cX9_readsSign 153 = .ok (.aload_n 0, 1) := by decide +kernel
theorem dX9_readsSign_154 : decode cX9_readsSign 154 = .ok (.dup, 1) := by decide +kernel
theorem dX9_readsSign_155 : decode cX9_readsSign 155 = .ok (.getfield 135, 3) := by decide +kernel
theorem dX9_readsSign_158 : decode cX9_readsSign 158 = .ok (.iconst 1, 1) := by decide +kernel
theorem dX9_readsSign_159 : decode cX9_readsSign 159 = .ok (.iadd, 1) := by decide +kernel
theorem dX9_readsSign_160 : decode cX9_readsSign 160 = .ok (.putfield 135, 3) := by decide +kernel
theorem dX9_readsSign_163 : decode cX9_readsSign 163 = .ok (.aload_n 0, 1) := by decide +kernel
theorem dX9_readsSign_164 : decode cX9_readsSign 164 = .ok (.dup, 1) := by decide +kernel
theorem dX9_readsSign_165 : decode cX9_readsSign 165 = .ok (.getfield 121, 3) := by decide +kernel
theorem dX9_readsSign_168 : decode cX9_readsSign 168 = .ok (.iconst 1, 1) := by decide +kernel
theorem dX9_readsSign_169 : decode cX9_readsSign 169 = .ok (.iadd, 1) := by decide +kernel
theorem dX9_readsSign_170 : decode cX9_readsSign 170 = .ok (.putfield 121, 3) := by decide +kernel
theorem dX9_readsSign_173 : decode cX9_readsSign 173 = .ok (.iconst 1, 1) := by decide +kernel
theorem dX9_readsSign_174 : decode cX9_readsSign 174 = .ok (.ireturn, 1) := by decide +kernel
theorem dX9_figure_0 : decode cX9_figure 0 = .ok (.aload_n 0, 1) := by decide +kernel
theorem dX9_figure_1 : decode cX9_figure 1 = .ok (.iload_n 1, 1) := by decide +kernel
theorem dX9_figure_2 : decode cX9_figure 2 = .ok (.iload_n 2, 1) := by decide +kernel
theorem dX9_figure_3 : decode cX9_figure 3 = .ok (.invokevirtual 124, 3) := by decide +kernel
theorem dX9_figure_6 : decode cX9_figure 6 = .ok (.bipush 48, 2) := by decide +kernel
theorem dX9_figure_8 : decode cX9_figure 8 = .ok (.isub, 1) := by decide +kernel
theorem dX9_figure_9 : decode cX9_figure 9 = .ok (.istore_n 3, 1) := by decide +kernel
theorem dX9_figure_10 : decode cX9_figure 10 = .ok (.iload_n 3, 1) := by decide +kernel
