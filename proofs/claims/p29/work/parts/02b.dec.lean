theorem dX6_blockIn_14 : decode cX6_blockIn 14 = .ok (.bipush 6, 2) := by decide +kernel
theorem dX6_blockIn_16 : decode cX6_blockIn 16 = .ok (.if_icmp .ge 21, 3) := by decide +kernel
theorem dX6_blockIn_19 : decode cX6_blockIn 19 = .ok (.aload_n 0, 1) := by decide +kernel
theorem dX6_blockIn_20 : decode cX6_blockIn 20 = .ok (.getfield 9, 3) := by decide +kernel
theorem dX6_blockIn_23 : decode cX6_blockIn 23 = .ok (.iload_n 2, 1) := by decide +kernel
theorem dX6_blockIn_24 : decode cX6_blockIn 24 = .ok (.iaload, 1) := by decide +kernel
theorem dX6_blockIn_25 : decode cX6_blockIn 25 = .ok (.iload_n 1, 1) := by decide +kernel
theorem dX6_blockIn_26 : decode cX6_blockIn 26 = .ok (.if_icmp .ne 5, 3) := by decide +kernel
theorem dX6_blockIn_29 : decode cX6_blockIn 29 = .ok (.iload_n 2, 1) := by decide +kernel
theorem dX6_blockIn_30 : decode cX6_blockIn 30 = .ok (.ireturn, 1) := by decide +kernel
theorem dX6_blockIn_31 : decode cX6_blockIn 31 = .ok (.iinc 2 1, 3) := by decide +kernel
theorem dX6_blockIn_34 : decode cX6_blockIn 34 = .ok (.goto (-32), 3) := by decide +kernel
theorem dX6_blockIn_37 : decode cX6_blockIn 37 = .ok (.iconst (-1), 1) := by decide +kernel
theorem dX6_blockIn_38 : decode cX6_blockIn 38 = .ok (.ireturn, 1) := by decide +kernel
theorem dX7_firstFault_0 : decode cX7_firstFault 0 = .ok (.iconst 3, 1) := by decide +kernel
theorem dX7_firstFault_1 : decode cX7_firstFault 1 = .ok (.istore_n 3, 1) := by decide +kernel
theorem dX7_firstFault_2 : decode cX7_firstFault 2 = .ok (.iconst 3, 1) := by decide +kernel
theorem dX7_firstFault_3 : decode cX7_firstFault 3 = .ok (.istore 4, 2) := by decide +kernel
theorem dX7_firstFault_5 : decode cX7_firstFault 5 = .ok (.iconst 0, 1) := by decide +kernel
theorem dX7_firstFault_6 : decode cX7_firstFault 6 = .ok (.istore 5, 2) := by decide +kernel
theorem dX7_firstFault_8 : decode cX7_firstFault 8 = .ok (.iconst 0, 1) := by decide +kernel
theorem dX7_firstFault_9 : decode cX7_firstFault 9 = .ok (.istore 6, 2) := by decide +kernel
theorem dX7_firstFault_11 : decode cX7_firstFault 11 = .ok (.iconst 0, 1) := by decide +kernel
theorem dX7_firstFault_12 : decode cX7_firstFault 12 = .ok (.istore 7, 2) := by decide +kernel
theorem dX7_firstFault_14 : decode cX7_firstFault 14 = .ok (.iload 7, 2) := by decide +kernel
theorem dX7_firstFault_16 : decode cX7_firstFault 16 = .ok (.iload_n 2, 1) := by decide +kernel
theorem dX7_firstFault_17 : decode cX7_firstFault 17 = .ok (.if_icmp .ge 106, 3) := by decide +kernel
theorem dX7_firstFault_20 : decode cX7_firstFault 20 = .ok (.aload_n 0, 1) := by decide +kernel
theorem dX7_firstFault_21 : decode cX7_firstFault 21 = .ok (.iload_n 1, 1) := by decide +kernel
theorem dX7_firstFault_22 : decode cX7_firstFault 22 = .ok (.iload 7, 2) := by decide +kernel
theorem dX7_firstFault_24 : decode cX7_firstFault 24 = .ok (.iadd, 1) := by decide +kernel
theorem dX7_firstFault_25 : decode cX7_firstFault 25 = .ok (.invokevirtual 9, 3) := by decide +kernel
theorem dX7_firstFault_28 : decode cX7_firstFault 28 = .ok (.istore 8, 2) := by decide +kernel
theorem dX7_firstFault_30 : decode cX7_firstFault 30 = .ok (.iload 8, 2) := by decide +kernel
theorem dX7_firstFault_32 : decode cX7_firstFault 32 = .ok (.iload 7, 2) := by decide +kernel
theorem dX7_firstFault_34 : decode cX7_firstFault 34 = .ok (.iload_n 3, 1) := by decide +kernel
theorem dX7_firstFault_35 : decode cX7_firstFault 35 = .ok (.iload 4, 2) := by decide +kernel
theorem dX7_firstFault_37 : decode cX7_firstFault 37 = .ok (.invokestatic 15, 3) := by decide +kernel
theorem dX7_firstFault_40 : decode cX7_firstFault 40 = .ok (.ifCond .ne 6, 3) := by decide +kernel
theorem dX7_firstFault_43 : decode cX7_firstFault 43 = .ok (.iload 7, 2) := by decide +kernel
theorem dX7_firstFault_45 : decode cX7_firstFault 45 = .ok (.ireturn, 1) := by decide +kernel
theorem dX7_firstFault_46 : decode cX7_firstFault 46 = .ok (.iload 7, 2) := by decide +kernel
theorem dX7_firstFault_48 : decode cX7_firstFault 48 = .ok (.iconst 1, 1) := by decide +kernel
theorem dX7_firstFault_49 : decode cX7_firstFault 49 = .ok (.if_icmp .ne 12, 3) := by decide +kernel
theorem dX7_firstFault_52 : decode cX7_firstFault 52 = .ok (.iload 8, 2) := by decide +kernel
theorem dX7_firstFault_54 : decode cX7_firstFault 54 = .ok (.bipush 48, 2) := by decide +kernel
theorem dX7_firstFault_56 : decode cX7_firstFault 56 = .ok (.isub, 1) := by decide +kernel
theorem dX7_firstFault_57 : decode cX7_firstFault 57 = .ok (.istore_n 3, 1) := by decide +kernel
theorem dX7_firstFault_58 : decode cX7_firstFault 58 = .ok (.goto 43, 3) := by decide +kernel
theorem dX7_firstFault_61 : decode cX7_firstFault 61 = .ok (.iload 7, 2) := by decide +kernel
theorem dX7_firstFault_63 : decode cX7_firstFault 63 = .ok (.iconst 2, 1) := by decide +kernel
theorem dX7_firstFault_64 : decode cX7_firstFault 64 = .ok (.if_icmp .ne 13, 3) := by decide +kernel
theorem dX7_firstFault_67 : decode cX7_firstFault 67 = .ok (.iload 8, 2) := by decide +kernel
theorem dX7_firstFault_69 : decode cX7_firstFault 69 = .ok (.bipush 48, 2) := by decide +kernel
theorem dX7_firstFault_71 : decode cX7_firstFault 71 = .ok (.isub, 1) := by decide +kernel
theorem dX7_firstFault_72 : decode cX7_firstFault 72 = .ok (.istore 4, 2) := by decide +kernel
theorem dX7_firstFault_74 : decode cX7_firstFault 74 = .ok (.goto 27, 3) := by decide +kernel
theorem dX7_firstFault_77 : decode cX7_firstFault 77 = .ok (.iload 8, 2) := by decide +kernel
theorem dX7_firstFault_79 : decode cX7_firstFault 79 = .ok (.bipush 99, 2) := by decide +kernel
theorem dX7_firstFault_81 : decode cX7_firstFault 81 = .ok (.if_icmp .ne 9, 3) := by decide +kernel
theorem dX7_firstFault_84 : decode cX7_firstFault 84 = .ok (.iinc 5 1, 3) := by decide +kernel
theorem dX7_firstFault_87 : decode cX7_firstFault 87 = .ok (.goto 14, 3) := by decide +kernel
theorem dX7_firstFault_90 : decode cX7_firstFault 90 = .ok (.iload 8, 2) := by decide +kernel
theorem dX7_firstFault_92 : decode cX7_firstFault 92 = .ok (.invokestatic 21, 3) := by decide +kernel
theorem dX7_firstFault_95 : decode cX7_firstFault 95 = .ok (.ifCond .lt 6, 3) := by decide +kernel
theorem dX7_firstFault_98 : decode cX7_firstFault 98 = .ok (.iinc 6 1, 3) := by decide +kernel
theorem dX7_firstFault_101 : decode cX7_firstFault 101 = .ok (.iload 5, 2) := by decide +kernel
theorem dX7_firstFault_103 : decode cX7_firstFault 103 = .ok (.iconst 4, 1) := by decide +kernel
theorem dX7_firstFault_104 : decode cX7_firstFault 104 = .ok (.if_icmp .gt 10, 3) := by decide +kernel
theorem dX7_firstFault_107 : decode cX7_firstFault 107 = .ok (.iload 6, 2) := by decide +kernel
theorem dX7_firstFault_109 : decode cX7_firstFault 109 = .ok (.bipush 6, 2) := by decide +kernel
theorem dX7_firstFault_111 : decode cX7_firstFault 111 = .ok (.if_icmp .le 6, 3) := by decide +kernel
theorem dX7_firstFault_114 : decode cX7_firstFault 114 = .ok (.iload 7, 2) := by decide +kernel
theorem dX7_firstFault_116 : decode cX7_firstFault 116 = .ok (.ireturn, 1) := by decide +kernel
theorem dX7_firstFault_117 : decode cX7_firstFault 117 = .ok (.iinc 7 1, 3) := by decide +kernel
theorem dX7_firstFault_120 : decode cX7_firstFault 120 = .ok (.goto (-106), 3) := by decide +kernel
theorem dX7_firstFault_123 : decode cX7_firstFault 123 = .ok (.iload_n 2, 1) := by decide +kernel
theorem dX7_firstFault_124 : decode cX7_firstFault 124 = .ok (.iconst 3, 1) := by decide +kernel
theorem dX7_firstFault_125 : decode cX7_firstFault 125 = .ok (.iload_n 3, 1) := by decide +kernel
theorem dX7_firstFault_126 : decode cX7_firstFault 126 = .ok (.iload 4, 2) := by decide +kernel
theorem dX7_firstFault_128 : decode cX7_firstFault 128 = .ok (.iconst 1, 1) := by decide +kernel
theorem dX7_firstFault_129 : decode cX7_firstFault 129 = .ok (.iadd, 1) := by decide +kernel
theorem dX7_firstFault_130 : decode cX7_firstFault 130 = .ok (.imul, 1) := by decide +kernel
theorem dX7_firstFault_131 : decode cX7_firstFault 131 = .ok (.iadd, 1) := by decide +kernel
theorem dX7_firstFault_132 : decode cX7_firstFault 132 = .ok (.if_icmp .ne 7, 3) := by decide +kernel
theorem dX7_firstFault_135 : decode cX7_firstFault 135 = .ok (.iconst (-1), 1) := by decide +kernel
theorem dX7_firstFault_136 : decode cX7_firstFault 136 = .ok (.goto 4, 3) := by decide +kernel
theorem dX7_firstFault_139 : decode cX7_firstFault 139 = .ok (.iload_n 2, 1) := by decide +kernel
theorem dX7_firstFault_140 : decode cX7_firstFault 140 = .ok (.ireturn, 1) := by decide +kernel
theorem dX7_fits_0 : decode cX7_fits 0 = .ok (.iload_n 1, 1) := by decide +kernel
theorem dX7_fits_1 : decode cX7_fits 1 = .ok (.ifCond .ne 15, 3) := by decide +kernel
theorem dX7_fits_4 : decode cX7_fits 4 = .ok (.iload_n 0, 1) := by decide +kernel
theorem dX7_fits_5 : decode cX7_fits 5 = .ok (.bipush 105, 2) := by decide +kernel
theorem dX7_fits_7 : decode cX7_fits 7 = .ok (.if_icmp .ne 7, 3) := by decide +kernel
theorem dX7_fits_10 : decode cX7_fits 10 = .ok (.iconst 1, 1) := by decide +kernel
theorem dX7_fits_11 : decode cX7_fits 11 = .ok (.goto 4, 3) := by decide +kernel
theorem dX7_fits_14 : decode cX7_fits 14 = .ok (.iconst 0, 1) := by decide +kernel
theorem dX7_fits_15 : decode cX7_fits 15 = .ok (.ireturn, 1) := by decide +kernel
theorem dX7_fits_16 : decode cX7_fits 16 = .ok (.iload_n 1, 1) := by decide +kernel
theorem dX7_fits_17 : decode cX7_fits 17 = .ok (.iconst 3, 1) := by decide +kernel
theorem dX7_fits_18 : decode cX7_fits 18 = .ok (.if_icmp .ge 21, 3) := by decide +kernel
theorem dX7_fits_21 : decode cX7_fits 21 = .ok (.iload_n 0, 1) := by decide +kernel
theorem dX7_fits_22 : decode cX7_fits 22 = .ok (.bipush 51, 2) := by decide +kernel
theorem dX7_fits_24 : decode cX7_fits 24 = .ok (.if_icmp .lt 13, 3) := by decide +kernel
theorem dX7_fits_27 : decode cX7_fits 27 = .ok (.iload_n 0, 1) := by decide +kernel
theorem dX7_fits_28 : decode cX7_fits 28 = .ok (.bipush 54, 2) := by decide +kernel
theorem dX7_fits_30 : decode cX7_fits 30 = .ok (.if_icmp .gt 7, 3) := by decide +kernel
theorem dX7_fits_33 : decode cX7_fits 33 = .ok (.iconst 1, 1) := by decide +kernel
theorem dX7_fits_34 : decode cX7_fits 34 = .ok (.goto 4, 3) := by decide +kernel
theorem dX7_fits_37 : decode cX7_fits 37 = .ok (.iconst 0, 1) := by decide +kernel
theorem dX7_fits_38 : decode cX7_fits 38 = .ok (.ireturn, 1) := by decide +kernel
theorem dX7_fits_39 : decode cX7_fits 39 = .ok (.iload_n 1, 1) := by decide +kernel
theorem dX7_fits_40 : decode cX7_fits 40 = .ok (.iconst 3, 1) := by decide +kernel
theorem dX7_fits_41 : decode cX7_fits 41 = .ok (.iload_n 2, 1) := by decide +kernel
theorem dX7_fits_42 : decode cX7_fits 42 = .ok (.iload_n 3, 1) := by decide +kernel
theorem dX7_fits_43 : decode cX7_fits 43 = .ok (.iconst 1, 1) := by decide +kernel
theorem dX7_fits_44 : decode cX7_fits 44 = .ok (.iadd, 1) := by decide +kernel
theorem dX7_fits_45 : decode cX7_fits 45 = .ok (.imul, 1) := by decide +kernel
theorem dX7_fits_46 : decode cX7_fits 46 = .ok (.iadd, 1) := by decide +kernel
theorem dX7_fits_47 : decode cX7_fits 47 = .ok (.if_icmp .lt 5, 3) := by decide +kernel
theorem dX7_fits_50 : decode cX7_fits 50 = .ok (.iconst 0, 1) := by decide +kernel
theorem dX7_fits_51 : decode cX7_fits 51 = .ok (.ireturn, 1) := by decide +kernel
theorem dX7_fits_52 : decode cX7_fits 52 = .ok (.iload_n 1, 1) := by decide +kernel
theorem dX7_fits_53 : decode cX7_fits 53 = .ok (.iload_n 3, 1) := by decide +kernel
theorem dX7_fits_54 : decode cX7_fits 54 = .ok (.invokestatic 24, 3) := by decide +kernel
theorem dX7_fits_57 : decode cX7_fits 57 = .ok (.ifCond .eq 17, 3) := by decide +kernel
theorem dX7_fits_60 : decode cX7_fits 60 = .ok (.iload_n 0, 1) := by decide +kernel
theorem dX7_fits_61 : decode cX7_fits 61 = .ok (.bipush 59, 2) := by decide +kernel
theorem dX7_fits_63 : decode cX7_fits 63 = .ok (.if_icmp .ne 7, 3) := by decide +kernel
theorem dX7_fits_66 : decode cX7_fits 66 = .ok (.iconst 1, 1) := by decide +kernel
theorem dX7_fits_67 : decode cX7_fits 67 = .ok (.goto 11, 3) := by decide +kernel
theorem dX7_fits_70 : decode cX7_fits 70 = .ok (.iconst 0, 1) := by decide +kernel
theorem dX7_fits_71 : decode cX7_fits 71 = .ok (.goto 7, 3) := by decide +kernel
theorem dX7_fits_74 : decode cX7_fits 74 = .ok (.iload_n 0, 1) := by decide +kernel
theorem dX7_fits_75 : decode cX7_fits 75 = .ok (.invokestatic 28, 3) := by decide +kernel
theorem dX7_fits_78 : decode cX7_fits 78 = .ok (.ireturn, 1) := by decide +kernel
theorem dX7_opensRow_0 : decode cX7_opensRow 0 = .ok (.iload_n 1, 1) := by decide +kernel
theorem dX7_opensRow_1 : decode cX7_opensRow 1 = .ok (.ifCond .lt 17, 3) := by decide +kernel
theorem dX7_opensRow_4 : decode cX7_opensRow 4 = .ok (.iload_n 0, 1) := by decide +kernel
theorem dX7_opensRow_5 : decode cX7_opensRow 5 = .ok (.iconst 3, 1) := by decide +kernel
theorem dX7_opensRow_6 : decode cX7_opensRow 6 = .ok (.isub, 1) := by decide +kernel
theorem dX7_opensRow_7 : decode cX7_opensRow 7 = .ok (.iload_n 1, 1) := by decide +kernel
theorem dX7_opensRow_8 : decode cX7_opensRow 8 = .ok (.iconst 1, 1) := by decide +kernel
theorem dX7_opensRow_9 : decode cX7_opensRow 9 = .ok (.iadd, 1) := by decide +kernel
theorem dX7_opensRow_10 : decode cX7_opensRow 10 = .ok (.irem, 1) := by decide +kernel
theorem dX7_opensRow_11 : decode cX7_opensRow 11 = .ok (.ifCond .ne 7, 3) := by decide +kernel
theorem dX7_opensRow_14 : decode cX7_opensRow 14 = .ok (.iconst 1, 1) := by decide +kernel
theorem dX7_opensRow_15 : decode cX7_opensRow 15 = .ok (.goto 4, 3) := by decide +kernel
theorem dX7_opensRow_18 : decode cX7_opensRow 18 = .ok (.iconst 0, 1) := by decide +kernel
theorem dX7_opensRow_19 : decode cX7_opensRow 19 = .ok (.ireturn, 1) := by decide +kernel
theorem dX7_isSign_0 : decode cX7_isSign 0 = .ok (.iload_n 0, 1) := by decide +kernel
theorem dX7_isSign_1 : decode cX7_isSign 1 = .ok (.bipush 46, 2) := by decide +kernel
theorem dX7_isSign_3 : decode cX7_isSign 3 = .ok (.if_icmp .eq 40, 3) := by decide +kernel
theorem dX7_isSign_6 : decode cX7_isSign 6 = .ok (.iload_n 0, 1) := by decide +kernel
theorem dX7_isSign_7 : decode cX7_isSign 7 = .ok (.bipush 35, 2) := by decide +kernel
theorem dX7_isSign_9 : decode cX7_isSign 9 = .ok (.if_icmp .eq 34, 3) := by decide +kernel
theorem dX7_isSign_12 : decode cX7_isSign 12 = .ok (.iload_n 0, 1) := by decide +kernel
theorem dX7_isSign_13 : decode cX7_isSign 13 = .ok (.bipush 115, 2) := by decide +kernel
theorem dX7_isSign_15 : decode cX7_isSign 15 = .ok (.if_icmp .eq 28, 3) := by decide +kernel
theorem dX7_isSign_18 : decode cX7_isSign 18 = .ok (.iload_n 0, 1) := by decide +kernel
theorem dX7_isSign_19 : decode cX7_isSign 19 = .ok (.bipush 99, 2) := by decide +kernel
theorem dX7_isSign_21 : decode cX7_isSign 21 = .ok (.if_icmp .eq 22, 3) := by decide +kernel
theorem dX7_isSign_24 : decode cX7_isSign 24 = .ok (.iload_n 0, 1) := by decide +kernel
theorem dX7_isSign_25 : decode cX7_isSign 25 = .ok (.bipush 97, 2) := by decide +kernel
theorem dX7_isSign_27 : decode cX7_isSign 27 = .ok (.if_icmp .eq 16, 3) := by decide +kernel
theorem dX7_isSign_30 : decode cX7_isSign 30 = .ok (.iload_n 0, 1) := by decide +kernel
theorem dX7_isSign_31 : decode cX7_isSign 31 = .ok (.bipush 98, 2) := by decide +kernel
theorem dX7_isSign_33 : decode cX7_isSign 33 = .ok (.if_icmp .eq 10, 3) := by decide +kernel
theorem dX7_isSign_36 : decode cX7_isSign 36 = .ok (.iload_n 0, 1) := by decide +kernel
theorem dX7_isSign_37 : decode cX7_isSign 37 = .ok (.invokestatic 21, 3) := by decide +kernel
theorem dX7_isSign_40 : decode cX7_isSign 40 = .ok (.ifCond .lt 7, 3) := by decide +kernel
theorem dX7_isSign_43 : decode cX7_isSign 43 = .ok (.iconst 1, 1) := by decide +kernel
theorem dX7_isSign_44 : decode cX7_isSign 44 = .ok (.goto 4, 3) := by decide +kernel
theorem dX7_isSign_47 : decode cX7_isSign 47 = .ok (.iconst 0, 1) := by decide +kernel
theorem dX7_isSign_48 : decode cX7_isSign 48 = .ok (.ireturn, 1) := by decide +kernel
theorem dX7_kindOfSign_0 : decode cX7_kindOfSign 0 = .ok (.iload_n 0, 1) := by decide +kernel
theorem dX7_kindOfSign_1 : decode cX7_kindOfSign 1 = .ok (.lookupswitch 41 #[(100, 39), (108, 37), (111, 35)], 35) := by decide +kernel
theorem dX7_kindOfSign_36 : decode cX7_kindOfSign 36 = .ok (.iconst 0, 1) := by decide +kernel
theorem dX7_kindOfSign_37 : decode cX7_kindOfSign 37 = .ok (.ireturn, 1) := by decide +kernel
theorem dX7_kindOfSign_38 : decode cX7_kindOfSign 38 = .ok (.iconst 1, 1) := by decide +kernel
theorem dX7_kindOfSign_39 : decode cX7_kindOfSign 39 = .ok (.ireturn, 1) := by decide +kernel
theorem dX7_kindOfSign_40 : decode cX7_kindOfSign 40 = .ok (.iconst 2, 1) := by decide +kernel
theorem dX7_kindOfSign_41 : decode cX7_kindOfSign 41 = .ok (.ireturn, 1) := by decide +kernel
theorem dX7_kindOfSign_42 : decode cX7_kindOfSign 42 = .ok (.iconst (-1), 1) := by decide +kernel
theorem dX7_kindOfSign_43 : decode cX7_kindOfSign 43 = .ok (.ireturn, 1) := by decide +kernel
theorem dX8_init_0 : decode cX8_init 0 = .ok (.aload_n 0, 1) := by decide +kernel
theorem dX8_init_1 : decode cX8_init 1 = .ok (.invokespecial 5, 3) := by decide +kernel
theorem dX8_init_4 : decode cX8_init 4 = .ok (.aload_n 0, 1) := by decide +kernel
theorem dX8_init_5 : decode cX8_init 5 = .ok (.new 11, 3) := by decide +kernel
theorem dX8_init_8 : decode cX8_init 8 = .ok (.dup, 1) := by decide +kernel
theorem dX8_init_9 : decode cX8_init 9 = .ok (.invokespecial 13, 3) := by decide +kernel
theorem dX8_init_12 : decode cX8_init 12 = .ok (.putfield 14, 3) := by decide +kernel
theorem dX8_init_15 : decode cX8_init 15 = .ok (.aload_n 0, 1) := by decide +kernel
theorem dX8_init_16 : decode cX8_init 16 = .ok (.new 18, 3) := by decide +kernel
theorem dX8_init_19 : decode cX8_init 19 = .ok (.dup, 1) := by decide +kernel
theorem dX8_init_20 : decode cX8_init 20 = .ok (.aload_n 0, 1) := by decide +kernel
theorem dX8_init_21 : decode cX8_init 21 = .ok (.getfield 14, 3) := by decide +kernel
theorem dX8_init_24 : decode cX8_init 24 = .ok (.invokespecial 20, 3) := by decide +kernel
theorem dX8_init_27 : decode cX8_init 27 = .ok (.putfield 23, 3) := by decide +kernel
theorem dX8_init_30 : decode cX8_init 30 = .ok (.aload_n 0, 1) := by decide +kernel
theorem dX8_init_31 : decode cX8_init 31 = .ok (.new 27, 3) := by decide +kernel
theorem dX8_init_34 : decode cX8_init 34 = .ok (.dup, 1) := by decide +kernel
theorem dX8_init_35 : decode cX8_init 35 = .ok (.aload_n 0, 1) := by decide +kernel
theorem dX8_init_36 : decode cX8_init 36 = .ok (.getfield 14, 3) := by decide +kernel
theorem dX8_init_39 : decode cX8_init 39 = .ok (.aload_n 0, 1) := by decide +kernel
theorem dX8_init_40 : decode cX8_init 40 = .ok (.getfield 23, 3) := by decide +kernel
theorem dX8_init_43 : decode cX8_init 43 = .ok (.invokespecial 29, 3) := by decide +kernel
theorem dX8_init_46 : decode cX8_init 46 = .ok (.putfield 32, 3) := by decide +kernel
theorem dX8_init_49 : decode cX8_init 49 = .ok (.aload_n 0, 1) := by decide +kernel
theorem dX8_init_50 : decode cX8_init 50 = .ok (.new 36, 3) := by decide +kernel
theorem dX8_init_53 : decode cX8_init 53 = .ok (.dup, 1) := by decide +kernel
theorem dX8_init_54 : decode cX8_init 54 = .ok (.aload_n 0, 1) := by decide +kernel
theorem dX8_init_55 : decode cX8_init 55 = .ok (.getfield 14, 3) := by decide +kernel
theorem dX8_init_58 : decode cX8_init 58 = .ok (.aload_n 0, 1) := by decide +kernel
theorem dX8_init_59 : decode cX8_init 59 = .ok (.getfield 23, 3) := by decide +kernel
theorem dX8_init_62 : decode cX8_init 62 = .ok (.invokespecial 38, 3) := by decide +kernel
theorem dX8_init_65 : decode cX8_init 65 = .ok (.putfield 39, 3) := by decide +kernel
theorem dX8_init_68 : decode cX8_init 68 = .ok (.aload_n 0, 1) := by decide +kernel
theorem dX8_init_69 : decode cX8_init 69 = .ok (.new 43, 3) := by decide +kernel
theorem dX8_init_72 : decode cX8_init 72 = .ok (.dup, 1) := by decide +kernel
theorem dX8_init_73 : decode cX8_init 73 = .ok (.aload_n 0, 1) := by decide +kernel
theorem dX8_init_74 : decode cX8_init 74 = .ok (.getfield 14, 3) := by decide +kernel
theorem dX8_init_77 : decode cX8_init 77 = .ok (.aload_n 0, 1) := by decide +kernel
theorem dX8_init_78 : decode cX8_init 78 = .ok (.getfield 23, 3) := by decide +kernel
theorem dX8_init_81 : decode cX8_init 81 = .ok (.invokespecial 45, 3) := by decide +kernel
theorem dX8_init_84 : decode cX8_init 84 = .ok (.putfield 46, 3) := by decide +kernel
theorem dX8_init_87 : decode cX8_init 87 = .ok (.aload_n 0, 1) := by decide +kernel
theorem dX8_init_88 : decode cX8_init 88 = .ok (.new 50, 3) := by decide +kernel
theorem dX8_init_91 : decode cX8_init 91 = .ok (.dup, 1) := by decide +kernel
theorem dX8_init_92 : decode cX8_init 92 = .ok (.aload_n 0, 1) := by decide +kernel
theorem dX8_init_93 : decode cX8_init 93 = .ok (.getfield 14, 3) := by decide +kernel
theorem dX8_init_96 : decode cX8_init 96 = .ok (.aload_n 0, 1) := by decide +kernel
theorem dX8_init_97 : decode cX8_init 97 = .ok (.getfield 23, 3) := by decide +kernel
theorem dX8_init_100 : decode cX8_init 100 = .ok (.invokespecial 52, 3) := by decide +kernel
theorem dX8_init_103 : decode cX8_init 103 = .ok (.putfield 53, 3) := by decide +kernel
theorem dX8_init_106 : decode cX8_init 106 = .ok (.aload_n 0, 1) := by decide +kernel
theorem dX8_init_107 : decode cX8_init 107 = .ok (.iconst 4, 1) := by decide +kernel
theorem dX8_init_108 : decode cX8_init 108 = .ok (.anewarray 57, 3) := by decide +kernel
theorem dX8_init_111 : decode cX8_init 111 = .ok (.dup, 1) := by decide +kernel
theorem dX8_init_112 : decode cX8_init 112 = .ok (.iconst 0, 1) := by decide +kernel
theorem dX8_init_113 : decode cX8_init 113 = .ok (.new 57, 3) := by decide +kernel
theorem dX8_init_116 : decode cX8_init 116 = .ok (.dup, 1) := by decide +kernel
theorem dX8_init_117 : decode cX8_init 117 = .ok (.invokespecial 59, 3) := by decide +kernel
theorem dX8_init_120 : decode cX8_init 120 = .ok (.aastore, 1) := by decide +kernel
theorem dX8_init_121 : decode cX8_init 121 = .ok (.dup, 1) := by decide +kernel
theorem dX8_init_122 : decode cX8_init 122 = .ok (.iconst 1, 1) := by decide +kernel
theorem dX8_init_123 : decode cX8_init 123 = .ok (.new 57, 3) := by decide +kernel
theorem dX8_init_126 : decode cX8_init 126 = .ok (.dup, 1) := by decide +kernel
theorem dX8_init_127 : decode cX8_init 127 = .ok (.invokespecial 59, 3) := by decide +kernel
theorem dX8_init_130 : decode cX8_init 130 = .ok (.aastore, 1) := by decide +kernel
theorem dX8_init_131 : decode cX8_init 131 = .ok (.dup, 1) := by decide +kernel
theorem dX8_init_132 : decode cX8_init 132 = .ok (.iconst 2, 1) := by decide +kernel
theorem dX8_init_133 : decode cX8_init 133 = .ok (.new 57, 3) := by decide +kernel
theorem dX8_init_136 : decode cX8_init 136 = .ok (.dup, 1) := by decide +kernel
theorem dX8_init_137 : decode cX8_init 137 = .ok (.invokespecial 59, 3) := by decide +kernel
theorem dX8_init_140 : decode cX8_init 140 = .ok (.aastore, 1) := by decide +kernel
theorem dX8_init_141 : decode cX8_init 141 = .ok (.dup, 1) := by decide +kernel
theorem dX8_init_142 : decode cX8_init 142 = .ok (.iconst 3, 1) := by decide +kernel
theorem dX8_init_143 : decode cX8_init 143 = .ok (.new 57, 3) := by decide +kernel
theorem dX8_init_146 : decode cX8_init 146 = .ok (.dup, 1) := by decide +kernel
theorem dX8_init_147 : decode cX8_init 147 = .ok (.invokespecial 59, 3) := by decide +kernel
theorem dX8_init_150 : decode cX8_init 150 = .ok (.aastore, 1) := by decide +kernel
theorem dX8_init_151 : decode cX8_init 151 = .ok (.putfield 60, 3) := by decide +kernel
theorem dX8_init_154 : decode cX8_init 154 = .ok (.aload_n 0, 1) := by decide +kernel
theorem dX8_init_155 : decode cX8_init 155 = .ok (.sipush 200, 3) := by decide +kernel
theorem dX8_init_158 : decode cX8_init 158 = .ok (.newarray .long, 2) := by decide +kernel
theorem dX8_init_160 : decode cX8_init 160 = .ok (.putfield 64, 3) := by decide +kernel
theorem dX8_init_163 : decode cX8_init 163 = .ok (.aload_n 0, 1) := by decide +kernel
theorem dX8_init_164 : decode cX8_init 164 = .ok (.iconst 3, 1) := by decide +kernel
theorem dX8_init_165 : decode cX8_init 165 = .ok (.newarray .long, 2) := by decide +kernel
theorem dX8_init_167 : decode cX8_init 167 = .ok (.dup, 1) := by decide +kernel
theorem dX8_init_168 : decode cX8_init 168 = .ok (.iconst 0, 1) := by decide +kernel
theorem dX8_init_169 : decode cX8_init 169 = .ok (.ldc2_w 68, 3) := by decide +kernel
theorem dX8_init_172 : decode cX8_init 172 = .ok (.lastore, 1) := by decide +kernel
theorem dX8_init_173 : decode cX8_init 173 = .ok (.dup, 1) := by decide +kernel
theorem dX8_init_174 : decode cX8_init 174 = .ok (.iconst 1, 1) := by decide +kernel
theorem dX8_init_175 : decode cX8_init 175 = .ok (.ldc2_w 68, 3) := by decide +kernel
theorem dX8_init_178 : decode cX8_init 178 = .ok (.lastore, 1) := by decide +kernel
theorem dX8_init_179 : decode cX8_init 179 = .ok (.dup, 1) := by decide +kernel
theorem dX8_init_180 : decode cX8_init 180 = .ok (.iconst 2, 1) := by decide +kernel
theorem dX8_init_181 : decode cX8_init 181 = .ok (.ldc2_w 68, 3) := by decide +kernel
theorem dX8_init_184 : decode cX8_init 184 = .ok (.lastore, 1) := by decide +kernel
theorem dX8_init_185 : decode cX8_init 185 = .ok (.putfield 70, 3) := by decide +kernel
theorem dX8_init_188 : decode cX8_init 188 = .ok (.return_, 1) := by decide +kernel
theorem dX8_yard_0 : decode cX8_yard 0 = .ok (.aload_n 0, 1) := by decide +kernel
theorem dX8_yard_1 : decode cX8_yard 1 = .ok (.iconst 0, 1) := by decide +kernel
theorem dX8_yard_2 : decode cX8_yard 2 = .ok (.putfield 73, 3) := by decide +kernel
theorem dX8_yard_5 : decode cX8_yard 5 = .ok (.aload_n 0, 1) := by decide +kernel
theorem dX8_yard_6 : decode cX8_yard 6 = .ok (.iload_n 1, 1) := by decide +kernel
theorem dX8_yard_7 : decode cX8_yard 7 = .ok (.invokevirtual 77, 3) := by decide +kernel
theorem dX8_yard_10 : decode cX8_yard 10 = .ok (.astore 5, 2) := by decide +kernel
theorem dX8_yard_12 : decode cX8_yard 12 = .ok (.aload 5, 2) := by decide +kernel
theorem dX8_yard_14 : decode cX8_yard 14 = .ok (.ifnonnull 5, 3) := by decide +kernel
theorem dX8_yard_17 : decode cX8_yard 17 = .ok (.iconst (-1), 1) := by decide +kernel
theorem dX8_yard_18 : decode cX8_yard 18 = .ok (.ireturn, 1) := by decide +kernel
theorem dX8_yard_19 : decode cX8_yard 19 = .ok (.iload_n 2, 1) := by decide +kernel
theorem dX8_yard_20 : decode cX8_yard 20 = .ok (.invokestatic 81, 3) := by decide +kernel
theorem dX8_yard_23 : decode cX8_yard 23 = .ok (.ifCond .ne 6, 3) := by decide +kernel
theorem dX8_yard_26 : decode cX8_yard 26 = .ok (.bipush (-2), 2) := by decide +kernel
theorem dX8_yard_28 : decode cX8_yard 28 = .ok (.ireturn, 1) := by decide +kernel
theorem dX8_yard_29 : decode cX8_yard 29 = .ok (.aload 5, 2) := by decide +kernel
theorem dX8_yard_31 : decode cX8_yard 31 = .ok (.iload_n 2, 1) := by decide +kernel
theorem dX8_yard_32 : decode cX8_yard 32 = .ok (.invokevirtual 85, 3) := by decide +kernel
theorem dX8_yard_35 : decode cX8_yard 35 = .ok (.istore 6, 2) := by decide +kernel
theorem dX8_yard_37 : decode cX8_yard 37 = .ok (.iload 6, 2) := by decide +kernel
theorem dX8_yard_39 : decode cX8_yard 39 = .ok (.ifCond .ne 11, 3) := by decide +kernel
theorem dX8_yard_42 : decode cX8_yard 42 = .ok (.iload 4, 2) := by decide +kernel
theorem dX8_yard_44 : decode cX8_yard 44 = .ok (.ifCond .ge 6, 3) := by decide +kernel
theorem dX8_yard_47 : decode cX8_yard 47 = .ok (.iconst 4, 1) := by decide +kernel
theorem dX8_yard_48 : decode cX8_yard 48 = .ok (.istore 6, 2) := by decide +kernel
theorem dX8_yard_50 : decode cX8_yard 50 = .ok (.iload 6, 2) := by decide +kernel
theorem dX8_yard_52 : decode cX8_yard 52 = .ok (.ifCond .ne 17, 3) := by decide +kernel
theorem dX8_yard_55 : decode cX8_yard 55 = .ok (.aload 5, 2) := by decide +kernel
theorem dX8_yard_57 : decode cX8_yard 57 = .ok (.iload_n 3, 1) := by decide +kernel
theorem dX8_yard_58 : decode cX8_yard 58 = .ok (.iload 4, 2) := by decide +kernel
theorem dX8_yard_60 : decode cX8_yard 60 = .ok (.invokevirtual 89, 3) := by decide +kernel
theorem dX8_yard_63 : decode cX8_yard 63 = .ok (.ifCond .ne 6, 3) := by decide +kernel
theorem dX8_yard_66 : decode cX8_yard 66 = .ok (.iconst 3, 1) := by decide +kernel
theorem dX8_yard_67 : decode cX8_yard 67 = .ok (.istore 6, 2) := by decide +kernel
theorem dX8_yard_69 : decode cX8_yard 69 = .ok (.iload 6, 2) := by decide +kernel
theorem dX8_yard_71 : decode cX8_yard 71 = .ok (.ifCond .eq 10, 3) := by decide +kernel
theorem dX8_yard_74 : decode cX8_yard 74 = .ok (.aload_n 0, 1) := by decide +kernel
theorem dX8_yard_75 : decode cX8_yard 75 = .ok (.iload 6, 2) := by decide +kernel
theorem dX8_yard_77 : decode cX8_yard 77 = .ok (.invokevirtual 93, 3) := by decide +kernel
theorem dX8_yard_80 : decode cX8_yard 80 = .ok (.ireturn, 1) := by decide +kernel
theorem dX8_yard_81 : decode cX8_yard 81 = .ok (.aload 5, 2) := by decide +kernel
theorem dX8_yard_83 : decode cX8_yard 83 = .ok (.iload_n 3, 1) := by decide +kernel
theorem dX8_yard_84 : decode cX8_yard 84 = .ok (.iload 4, 2) := by decide +kernel
theorem dX8_yard_86 : decode cX8_yard 86 = .ok (.invokestatic 96, 3) := by decide +kernel
theorem dX8_yard_89 : decode cX8_yard 89 = .ok (.istore 7, 2) := by decide +kernel
theorem dX8_yard_91 : decode cX8_yard 91 = .ok (.iload 7, 2) := by decide +kernel
theorem dX8_yard_93 : decode cX8_yard 93 = .ok (.ifCond .lt 9, 3) := by decide +kernel
theorem dX8_yard_96 : decode cX8_yard 96 = .ok (.bipush (-100), 2) := by decide +kernel
theorem dX8_yard_98 : decode cX8_yard 98 = .ok (.iload 7, 2) := by decide +kernel
theorem dX8_yard_100 : decode cX8_yard 100 = .ok (.isub, 1) := by decide +kernel
theorem dX8_yard_101 : decode cX8_yard 101 = .ok (.ireturn, 1) := by decide +kernel
theorem dX8_yard_102 : decode cX8_yard 102 = .ok (.aload_n 0, 1) := by decide +kernel
theorem dX8_yard_103 : decode cX8_yard 103 = .ok (.aload 5, 2) := by decide +kernel
theorem dX8_yard_105 : decode cX8_yard 105 = .ok (.iload_n 3, 1) := by decide +kernel
theorem dX8_yard_106 : decode cX8_yard 106 = .ok (.iload 4, 2) := by decide +kernel
theorem dX8_yard_108 : decode cX8_yard 108 = .ok (.invokevirtual 102, 3) := by decide +kernel
theorem dX8_yard_111 : decode cX8_yard 111 = .ok (.aload_n 0, 1) := by decide +kernel
theorem dX8_yard_112 : decode cX8_yard 112 = .ok (.getfield 14, 3) := by decide +kernel
theorem dX8_yard_115 : decode cX8_yard 115 = .ok (.getfield 106, 3) := by decide +kernel
theorem dX8_yard_118 : decode cX8_yard 118 = .ok (.ireturn, 1) := by decide +kernel
theorem dX8_takeYard_0 : decode cX8_takeYard 0 = .ok (.aload_n 0, 1) := by decide +kernel
theorem dX8_takeYard_1 : decode cX8_takeYard 1 = .ok (.getfield 14, 3) := by decide +kernel
theorem dX8_takeYard_4 : decode cX8_takeYard 4 = .ok (.aload_n 1, 1) := by decide +kernel
theorem dX8_takeYard_5 : decode cX8_takeYard 5 = .ok (.iload_n 2, 1) := by decide +kernel
theorem dX8_takeYard_6 : decode cX8_takeYard 6 = .ok (.iload_n 3, 1) := by decide +kernel
theorem dX8_takeYard_7 : decode cX8_takeYard 7 = .ok (.invokevirtual 109, 3) := by decide +kernel
theorem dX8_takeYard_10 : decode cX8_takeYard 10 = .ok (.aload_n 0, 1) := by decide +kernel
theorem dX8_takeYard_11 : decode cX8_takeYard 11 = .ok (.getfield 23, 3) := by decide +kernel
theorem dX8_takeYard_14 : decode cX8_takeYard 14 = .ok (.invokevirtual 112, 3) := by decide +kernel
theorem dX8_takeYard_17 : decode cX8_takeYard 17 = .ok (.aload_n 0, 1) := by decide +kernel
theorem dX8_takeYard_18 : decode cX8_takeYard 18 = .ok (.aload_n 0, 1) := by decide +kernel
theorem dX8_takeYard_19 : decode cX8_takeYard 19 = .ok (.getfield 14, 3) := by decide +kernel
theorem dX8_takeYard_22 : decode cX8_takeYard 22 = .ok (.invokevirtual 115, 3) := by decide +kernel
theorem dX8_takeYard_25 : decode cX8_takeYard 25 = .ok (.putfield 119, 3) := by decide +kernel
theorem dX8_takeYard_28 : decode cX8_takeYard 28 = .ok (.aload_n 0, 1) := by decide +kernel
theorem dX8_takeYard_29 : decode cX8_takeYard 29 = .ok (.iconst 0, 1) := by decide +kernel
theorem dX8_takeYard_30 : decode cX8_takeYard 30 = .ok (.putfield 123, 3) := by decide +kernel
theorem dX8_takeYard_33 : decode cX8_takeYard 33 = .ok (.aload_n 0, 1) := by decide +kernel
theorem dX8_takeYard_34 : decode cX8_takeYard 34 = .ok (.getfield 70, 3) := by decide +kernel
theorem dX8_takeYard_37 : decode cX8_takeYard 37 = .ok (.ldc2_w 68, 3) := by decide +kernel
theorem dX8_takeYard_40 : decode cX8_takeYard 40 = .ok (.invokestatic 126, 3) := by decide +kernel
theorem dX8_takeYard_43 : decode cX8_takeYard 43 = .ok (.return_, 1) := by decide +kernel
theorem dX8_ofBlock_0 : decode cX8_ofBlock 0 = .ok (.aload_n 0, 1) := by decide +kernel
theorem dX8_ofBlock_1 : decode cX8_ofBlock 1 = .ok (.getfield 14, 3) := by decide +kernel
theorem dX8_ofBlock_4 : decode cX8_ofBlock 4 = .ok (.iload_n 1, 1) := by decide +kernel
theorem dX8_ofBlock_5 : decode cX8_ofBlock 5 = .ok (.invokevirtual 144, 3) := by decide +kernel
theorem dX8_ofBlock_8 : decode cX8_ofBlock 8 = .ok (.ifCond .ne 5, 3) := by decide +kernel
theorem dX8_ofBlock_11 : decode cX8_ofBlock 11 = .ok (.iconst (-1), 1) := by decide +kernel
theorem dX8_ofBlock_12 : decode cX8_ofBlock 12 = .ok (.ireturn, 1) := by decide +kernel
theorem dX8_ofBlock_13 : decode cX8_ofBlock 13 = .ok (.iload_n 2, 1) := by decide +kernel
theorem dX8_ofBlock_14 : decode cX8_ofBlock 14 = .ok (.ifCond .ne 12, 3) := by decide +kernel
theorem dX8_ofBlock_17 : decode cX8_ofBlock 17 = .ok (.aload_n 0, 1) := by decide +kernel
theorem dX8_ofBlock_18 : decode cX8_ofBlock 18 = .ok (.getfield 14, 3) := by decide +kernel
theorem dX8_ofBlock_21 : decode cX8_ofBlock 21 = .ok (.iload_n 1, 1) := by decide +kernel
theorem dX8_ofBlock_22 : decode cX8_ofBlock 22 = .ok (.invokevirtual 147, 3) := by decide +kernel
theorem dX8_ofBlock_25 : decode cX8_ofBlock 25 = .ok (.ireturn, 1) := by decide +kernel
theorem dX8_ofBlock_26 : decode cX8_ofBlock 26 = .ok (.iload_n 2, 1) := by decide +kernel
theorem dX8_ofBlock_27 : decode cX8_ofBlock 27 = .ok (.iconst 1, 1) := by decide +kernel
theorem dX8_ofBlock_28 : decode cX8_ofBlock 28 = .ok (.if_icmp .ne 14, 3) := by decide +kernel
theorem dX8_ofBlock_31 : decode cX8_ofBlock 31 = .ok (.aload_n 0, 1) := by decide +kernel
theorem dX8_ofBlock_32 : decode cX8_ofBlock 32 = .ok (.getfield 119, 3) := by decide +kernel
theorem dX8_ofBlock_35 : decode cX8_ofBlock 35 = .ok (.iload_n 1, 1) := by decide +kernel
theorem dX8_ofBlock_36 : decode cX8_ofBlock 36 = .ok (.invokestatic 150, 3) := by decide +kernel
theorem dX8_ofBlock_39 : decode cX8_ofBlock 39 = .ok (.goto 5, 3) := by decide +kernel
theorem dX8_ofBlock_42 : decode cX8_ofBlock 42 = .ok (.bipush (-2), 2) := by decide +kernel
theorem dX8_ofBlock_44 : decode cX8_ofBlock 44 = .ok (.ireturn, 1) := by decide +kernel
theorem dX8_push_0 : decode cX8_push 0 = .ok (.aload_n 0, 1) := by decide +kernel
theorem dX8_push_1 : decode cX8_push 1 = .ok (.iload_n 1, 1) := by decide +kernel
theorem dX8_push_2 : decode cX8_push 2 = .ok (.iload_n 2, 1) := by decide +kernel
theorem dX8_push_3 : decode cX8_push 3 = .ok (.invokevirtual 153, 3) := by decide +kernel
theorem dX8_push_6 : decode cX8_push 6 = .ok (.istore_n 3, 1) := by decide +kernel
theorem dX8_push_7 : decode cX8_push 7 = .ok (.iload_n 3, 1) := by decide +kernel
theorem dX8_push_8 : decode cX8_push 8 = .ok (.ifCond .eq 5, 3) := by decide +kernel
theorem dX8_push_11 : decode cX8_push 11 = .ok (.iload_n 3, 1) := by decide +kernel
theorem dX8_push_12 : decode cX8_push 12 = .ok (.ireturn, 1) := by decide +kernel
theorem dX8_push_13 : decode cX8_push 13 = .ok (.aload_n 0, 1) := by decide +kernel
theorem dX8_push_14 : decode cX8_push 14 = .ok (.getfield 123, 3) := by decide +kernel
theorem dX8_push_17 : decode cX8_push 17 = .ok (.ifCond .lt 13, 3) := by decide +kernel
theorem dX8_push_20 : decode cX8_push 20 = .ok (.aload_n 0, 1) := by decide +kernel
theorem dX8_push_21 : decode cX8_push 21 = .ok (.getfield 123, 3) := by decide +kernel
theorem dX8_push_24 : decode cX8_push 24 = .ok (.sipush 200, 3) := by decide +kernel
theorem dX8_push_27 : decode cX8_push 27 = .ok (.if_icmp .lt 6, 3) := by decide +kernel
theorem dX8_push_30 : decode cX8_push 30 = .ok (.bipush (-4), 2) := by decide +kernel
theorem dX8_push_32 : decode cX8_push 32 = .ok (.ireturn, 1) := by decide +kernel
theorem dX8_push_33 : decode cX8_push 33 = .ok (.aload_n 0, 1) := by decide +kernel
theorem dX8_push_34 : decode cX8_push 34 = .ok (.getfield 64, 3) := by decide +kernel
theorem dX8_push_37 : decode cX8_push 37 = .ok (.aload_n 0, 1) := by decide +kernel
theorem dX8_push_38 : decode cX8_push 38 = .ok (.getfield 123, 3) := by decide +kernel
theorem dX8_push_41 : decode cX8_push 41 = .ok (.aload_n 0, 1) := by decide +kernel
theorem dX8_push_42 : decode cX8_push 42 = .ok (.getfield 119, 3) := by decide +kernel
theorem dX8_push_45 : decode cX8_push 45 = .ok (.lastore, 1) := by decide +kernel
theorem dX8_push_46 : decode cX8_push 46 = .ok (.aload_n 0, 1) := by decide +kernel
theorem dX8_push_47 : decode cX8_push 47 = .ok (.dup, 1) := by decide +kernel
theorem dX8_push_48 : decode cX8_push 48 = .ok (.getfield 123, 3) := by decide +kernel
theorem dX8_push_51 : decode cX8_push 51 = .ok (.iconst 1, 1) := by decide +kernel
theorem dX8_push_52 : decode cX8_push 52 = .ok (.iadd, 1) := by decide +kernel
theorem dX8_push_53 : decode cX8_push 53 = .ok (.putfield 123, 3) := by decide +kernel
theorem dX8_push_56 : decode cX8_push 56 = .ok (.aload_n 0, 1) := by decide +kernel
theorem dX8_push_57 : decode cX8_push 57 = .ok (.aload_n 0, 1) := by decide +kernel
theorem dX8_push_58 : decode cX8_push 58 = .ok (.getfield 23, 3) := by decide +kernel
theorem dX8_push_61 : decode cX8_push 61 = .ok (.getfield 157, 3) := by decide +kernel
theorem dX8_push_64 : decode cX8_push 64 = .ok (.putfield 119, 3) := by decide +kernel
theorem dX8_push_67 : decode cX8_push 67 = .ok (.aload_n 0, 1) := by decide +kernel
theorem dX8_push_68 : decode cX8_push 68 = .ok (.getfield 119, 3) := by decide +kernel
theorem dX8_push_71 : decode cX8_push 71 = .ok (.iload_n 1, 1) := by decide +kernel
theorem dX8_push_72 : decode cX8_push 72 = .ok (.invokestatic 150, 3) := by decide +kernel
theorem dX8_push_75 : decode cX8_push 75 = .ok (.ireturn, 1) := by decide +kernel
theorem dX8_refusalOfPush_0 : decode cX8_refusalOfPush 0 = .ok (.aload_n 0, 1) := by decide +kernel
theorem dX8_refusalOfPush_1 : decode cX8_refusalOfPush 1 = .ok (.getfield 14, 3) := by decide +kernel
theorem dX8_refusalOfPush_4 : decode cX8_refusalOfPush 4 = .ok (.iload_n 1, 1) := by decide +kernel
theorem dX8_refusalOfPush_5 : decode cX8_refusalOfPush 5 = .ok (.invokevirtual 144, 3) := by decide +kernel
theorem dX8_refusalOfPush_8 : decode cX8_refusalOfPush 8 = .ok (.ifCond .ne 5, 3) := by decide +kernel
theorem dX8_refusalOfPush_11 : decode cX8_refusalOfPush 11 = .ok (.iconst (-1), 1) := by decide +kernel
theorem dX8_refusalOfPush_12 : decode cX8_refusalOfPush 12 = .ok (.ireturn, 1) := by decide +kernel
theorem dX8_refusalOfPush_13 : decode cX8_refusalOfPush 13 = .ok (.iload_n 2, 1) := by decide +kernel
theorem dX8_refusalOfPush_14 : decode cX8_refusalOfPush 14 = .ok (.ifCond .lt 8, 3) := by decide +kernel
theorem dX8_refusalOfPush_17 : decode cX8_refusalOfPush 17 = .ok (.iload_n 2, 1) := by decide +kernel
theorem dX8_refusalOfPush_18 : decode cX8_refusalOfPush 18 = .ok (.iconst 4, 1) := by decide +kernel
theorem dX8_refusalOfPush_19 : decode cX8_refusalOfPush 19 = .ok (.if_icmp .lt 6, 3) := by decide +kernel
theorem dX8_refusalOfPush_22 : decode cX8_refusalOfPush 22 = .ok (.bipush (-2), 2) := by decide +kernel
theorem dX8_refusalOfPush_24 : decode cX8_refusalOfPush 24 = .ok (.ireturn, 1) := by decide +kernel
theorem dX8_refusalOfPush_25 : decode cX8_refusalOfPush 25 = .ok (.aload_n 0, 1) := by decide +kernel
theorem dX8_refusalOfPush_26 : decode cX8_refusalOfPush 26 = .ok (.getfield 23, 3) := by decide +kernel
theorem dX8_refusalOfPush_29 : decode cX8_refusalOfPush 29 = .ok (.aload_n 0, 1) := by decide +kernel
theorem dX8_refusalOfPush_30 : decode cX8_refusalOfPush 30 = .ok (.getfield 119, 3) := by decide +kernel
theorem dX8_refusalOfPush_33 : decode cX8_refusalOfPush 33 = .ok (.iload_n 1, 1) := by decide +kernel
theorem dX8_refusalOfPush_34 : decode cX8_refusalOfPush 34 = .ok (.iload_n 2, 1) := by decide +kernel
theorem dX8_refusalOfPush_35 : decode cX8_refusalOfPush 35 = .ok (.invokevirtual 165, 3) := by decide +kernel
theorem dX8_refusalOfPush_38 : decode cX8_refusalOfPush 38 = .ok (.ifCond .eq 7, 3) := by decide +kernel
theorem dX8_refusalOfPush_41 : decode cX8_refusalOfPush 41 = .ok (.iconst 0, 1) := by decide +kernel
theorem dX8_refusalOfPush_42 : decode cX8_refusalOfPush 42 = .ok (.goto 5, 3) := by decide +kernel
theorem dX8_refusalOfPush_45 : decode cX8_refusalOfPush 45 = .ok (.bipush (-3), 2) := by decide +kernel
theorem dX8_refusalOfPush_47 : decode cX8_refusalOfPush 47 = .ok (.ireturn, 1) := by decide +kernel
theorem dX8_fewest_0 : decode cX8_fewest 0 = .ok (.iload_n 1, 1) := by decide +kernel
theorem dX8_fewest_1 : decode cX8_fewest 1 = .ok (.invokestatic 169, 3) := by decide +kernel
theorem dX8_fewest_4 : decode cX8_fewest 4 = .ok (.ifCond .eq 8, 3) := by decide +kernel
theorem dX8_fewest_7 : decode cX8_fewest 7 = .ok (.iload_n 2, 1) := by decide +kernel
theorem dX8_fewest_8 : decode cX8_fewest 8 = .ok (.iconst (-1), 1) := by decide +kernel
theorem dX8_fewest_9 : decode cX8_fewest 9 = .ok (.if_icmp .ge 5, 3) := by decide +kernel
theorem dX8_fewest_12 : decode cX8_fewest 12 = .ok (.iconst (-1), 1) := by decide +kernel
theorem dX8_fewest_13 : decode cX8_fewest 13 = .ok (.ireturn, 1) := by decide +kernel
theorem dX8_fewest_14 : decode cX8_fewest 14 = .ok (.aload_n 0, 1) := by decide +kernel
theorem dX8_fewest_15 : decode cX8_fewest 15 = .ok (.getfield 32, 3) := by decide +kernel
theorem dX8_fewest_18 : decode cX8_fewest 18 = .ok (.aload_n 0, 1) := by decide +kernel
theorem dX8_fewest_19 : decode cX8_fewest 19 = .ok (.getfield 119, 3) := by decide +kernel
theorem dX8_fewest_22 : decode cX8_fewest 22 = .ok (.iload_n 1, 1) := by decide +kernel
theorem dX8_fewest_23 : decode cX8_fewest 23 = .ok (.invokevirtual 172, 3) := by decide +kernel
theorem dX8_fewest_26 : decode cX8_fewest 26 = .ok (.istore_n 3, 1) := by decide +kernel
theorem dX8_fewest_27 : decode cX8_fewest 27 = .ok (.iload_n 3, 1) := by decide +kernel
theorem dX8_fewest_28 : decode cX8_fewest 28 = .ok (.ifCond .lt 8, 3) := by decide +kernel
theorem dX8_fewest_31 : decode cX8_fewest 31 = .ok (.iload_n 2, 1) := by decide +kernel
theorem dX8_fewest_32 : decode cX8_fewest 32 = .ok (.iconst (-1), 1) := by decide +kernel
theorem dX8_fewest_33 : decode cX8_fewest 33 = .ok (.if_icmp .ne 7, 3) := by decide +kernel
theorem dX8_fewest_36 : decode cX8_fewest 36 = .ok (.iload_n 3, 1) := by decide +kernel
theorem dX8_fewest_37 : decode cX8_fewest 37 = .ok (.goto 11, 3) := by decide +kernel
theorem dX8_fewest_40 : decode cX8_fewest 40 = .ok (.aload_n 0, 1) := by decide +kernel
theorem dX8_fewest_41 : decode cX8_fewest 41 = .ok (.getfield 32, 3) := by decide +kernel
theorem dX8_fewest_44 : decode cX8_fewest 44 = .ok (.iload_n 2, 1) := by decide +kernel
theorem dX8_fewest_45 : decode cX8_fewest 45 = .ok (.invokevirtual 175, 3) := by decide +kernel
theorem dX8_fewest_48 : decode cX8_fewest 48 = .ok (.ireturn, 1) := by decide +kernel
theorem dX8_won_0 : decode cX8_won 0 = .ok (.iload_n 1, 1) := by decide +kernel
theorem dX8_won_1 : decode cX8_won 1 = .ok (.invokestatic 169, 3) := by decide +kernel
theorem dX8_won_4 : decode cX8_won 4 = .ok (.ifCond .eq 18, 3) := by decide +kernel
theorem dX8_won_7 : decode cX8_won 7 = .ok (.aload_n 0, 1) := by decide +kernel
theorem dX8_won_8 : decode cX8_won 8 = .ok (.getfield 39, 3) := by decide +kernel
theorem dX8_won_11 : decode cX8_won 11 = .ok (.aload_n 0, 1) := by decide +kernel
theorem dX8_won_12 : decode cX8_won 12 = .ok (.getfield 119, 3) := by decide +kernel
theorem dX8_won_15 : decode cX8_won 15 = .ok (.iload_n 1, 1) := by decide +kernel
theorem dX8_won_16 : decode cX8_won 16 = .ok (.invokevirtual 178, 3) := by decide +kernel
theorem dX8_won_19 : decode cX8_won 19 = .ok (.goto 4, 3) := by decide +kernel
theorem dX8_won_22 : decode cX8_won 22 = .ok (.iconst (-1), 1) := by decide +kernel
theorem dX8_won_23 : decode cX8_won 23 = .ok (.ireturn, 1) := by decide +kernel
theorem dX8_first_0 : decode cX8_first 0 = .ok (.iload_n 1, 1) := by decide +kernel
theorem dX8_first_1 : decode cX8_first 1 = .ok (.invokestatic 169, 3) := by decide +kernel
theorem dX8_first_4 : decode cX8_first 4 = .ok (.ifCond .ne 5, 3) := by decide +kernel
theorem dX8_first_7 : decode cX8_first 7 = .ok (.iconst (-1), 1) := by decide +kernel
theorem dX8_first_8 : decode cX8_first 8 = .ok (.ireturn, 1) := by decide +kernel
theorem dX8_first_9 : decode cX8_first 9 = .ok (.aload_n 0, 1) := by decide +kernel
theorem dX8_first_10 : decode cX8_first 10 = .ok (.getfield 39, 3) := by decide +kernel
theorem dX8_first_13 : decode cX8_first 13 = .ok (.aload_n 0, 1) := by decide +kernel
theorem dX8_first_14 : decode cX8_first 14 = .ok (.getfield 119, 3) := by decide +kernel
theorem dX8_first_17 : decode cX8_first 17 = .ok (.iload_n 1, 1) := by decide +kernel
theorem dX8_first_18 : decode cX8_first 18 = .ok (.invokevirtual 178, 3) := by decide +kernel
theorem dX8_first_21 : decode cX8_first 21 = .ok (.pop, 1) := by decide +kernel
theorem dX8_first_22 : decode cX8_first 22 = .ok (.aload_n 0, 1) := by decide +kernel
theorem dX8_first_23 : decode cX8_first 23 = .ok (.getfield 39, 3) := by decide +kernel
theorem dX8_first_26 : decode cX8_first 26 = .ok (.getfield 181, 3) := by decide +kernel
theorem dX8_first_29 : decode cX8_first 29 = .ok (.ireturn, 1) := by decide +kernel
theorem dX8_rows_0 : decode cX8_rows 0 = .ok (.iload_n 1, 1) := by decide +kernel
theorem dX8_rows_1 : decode cX8_rows 1 = .ok (.iconst 1, 1) := by decide +kernel
theorem dX8_rows_2 : decode cX8_rows 2 = .ok (.if_icmp .lt 28, 3) := by decide +kernel
theorem dX8_rows_5 : decode cX8_rows 5 = .ok (.iload_n 1, 1) := by decide +kernel
theorem dX8_rows_6 : decode cX8_rows 6 = .ok (.iconst 3, 1) := by decide +kernel
theorem dX8_rows_7 : decode cX8_rows 7 = .ok (.if_icmp .gt 23, 3) := by decide +kernel
theorem dX8_rows_10 : decode cX8_rows 10 = .ok (.lload_n 2, 1) := by decide +kernel
theorem dX8_rows_11 : decode cX8_rows 11 = .ok (.lconst 0, 1) := by decide +kernel
theorem dX8_rows_12 : decode cX8_rows 12 = .ok (.lcmp, 1) := by decide +kernel
theorem dX8_rows_13 : decode cX8_rows 13 = .ok (.ifCond .lt 17, 3) := by decide +kernel
theorem dX8_rows_16 : decode cX8_rows 16 = .ok (.lload_n 2, 1) := by decide +kernel
theorem dX8_rows_17 : decode cX8_rows 17 = .ok (.aload_n 0, 1) := by decide +kernel
theorem dX8_rows_18 : decode cX8_rows 18 = .ok (.getfield 14, 3) := by decide +kernel
theorem dX8_rows_21 : decode cX8_rows 21 = .ok (.invokevirtual 132, 3) := by decide +kernel
theorem dX8_rows_24 : decode cX8_rows 24 = .ok (.lushr, 1) := by decide +kernel
theorem dX8_rows_25 : decode cX8_rows 25 = .ok (.lconst 0, 1) := by decide +kernel
theorem dX8_rows_26 : decode cX8_rows 26 = .ok (.lcmp, 1) := by decide +kernel
theorem dX8_rows_27 : decode cX8_rows 27 = .ok (.ifCond .eq 6, 3) := by decide +kernel
theorem dX8_rows_30 : decode cX8_rows 30 = .ok (.bipush (-2), 2) := by decide +kernel
theorem dX8_rows_32 : decode cX8_rows 32 = .ok (.ireturn, 1) := by decide +kernel
theorem dX8_rows_33 : decode cX8_rows 33 = .ok (.iload 4, 2) := by decide +kernel
theorem dX8_rows_35 : decode cX8_rows 35 = .ok (.iconst (-1), 1) := by decide +kernel
theorem dX8_rows_36 : decode cX8_rows 36 = .ok (.if_icmp .lt 9, 3) := by decide +kernel
theorem dX8_rows_39 : decode cX8_rows 39 = .ok (.iload 4, 2) := by decide +kernel
theorem dX8_rows_41 : decode cX8_rows 41 = .ok (.iload_n 1, 1) := by decide +kernel
theorem dX8_rows_42 : decode cX8_rows 42 = .ok (.if_icmp .lt 5, 3) := by decide +kernel
theorem dX8_rows_45 : decode cX8_rows 45 = .ok (.iconst (-1), 1) := by decide +kernel
theorem dX8_rows_46 : decode cX8_rows 46 = .ok (.ireturn, 1) := by decide +kernel
theorem dX8_rows_47 : decode cX8_rows 47 = .ok (.aload_n 0, 1) := by decide +kernel
theorem dX8_rows_48 : decode cX8_rows 48 = .ok (.getfield 46, 3) := by decide +kernel
theorem dX8_rows_51 : decode cX8_rows 51 = .ok (.aload_n 0, 1) := by decide +kernel
theorem dX8_rows_52 : decode cX8_rows 52 = .ok (.getfield 119, 3) := by decide +kernel
theorem dX8_rows_55 : decode cX8_rows 55 = .ok (.iload_n 1, 1) := by decide +kernel
theorem dX8_rows_56 : decode cX8_rows 56 = .ok (.lload_n 2, 1) := by decide +kernel
theorem dX8_rows_57 : decode cX8_rows 57 = .ok (.invokevirtual 184, 3) := by decide +kernel
theorem dX8_rows_60 : decode cX8_rows 60 = .ok (.istore 5, 2) := by decide +kernel
theorem dX8_rows_62 : decode cX8_rows 62 = .ok (.iload 4, 2) := by decide +kernel
theorem dX8_rows_64 : decode cX8_rows 64 = .ok (.iconst (-1), 1) := by decide +kernel
theorem dX8_rows_65 : decode cX8_rows 65 = .ok (.if_icmp .ne 6, 3) := by decide +kernel
theorem dX8_rows_68 : decode cX8_rows 68 = .ok (.iload 5, 2) := by decide +kernel
theorem dX8_rows_70 : decode cX8_rows 70 = .ok (.ireturn, 1) := by decide +kernel
theorem dX8_rows_71 : decode cX8_rows 71 = .ok (.iload 5, 2) := by decide +kernel
theorem dX8_rows_73 : decode cX8_rows 73 = .ok (.ifCond .ne 8, 3) := by decide +kernel
theorem dX8_rows_76 : decode cX8_rows 76 = .ok (.bipush (-9), 2) := by decide +kernel
theorem dX8_rows_78 : decode cX8_rows 78 = .ok (.goto 12, 3) := by decide +kernel
theorem dX8_rows_81 : decode cX8_rows 81 = .ok (.aload_n 0, 1) := by decide +kernel
theorem dX8_rows_82 : decode cX8_rows 82 = .ok (.getfield 46, 3) := by decide +kernel
theorem dX8_rows_85 : decode cX8_rows 85 = .ok (.iload 4, 2) := by decide +kernel
theorem dX8_rows_87 : decode cX8_rows 87 = .ok (.invokevirtual 188, 3) := by decide +kernel
theorem dX8_rows_90 : decode cX8_rows 90 = .ok (.ireturn, 1) := by decide +kernel
theorem dX8_sand_0 : decode cX8_sand 0 = .ok (.aload_n 0, 1) := by decide +kernel
theorem dX8_sand_1 : decode cX8_sand 1 = .ok (.getfield 14, 3) := by decide +kernel
theorem dX8_sand_4 : decode cX8_sand 4 = .ok (.iload_n 1, 1) := by decide +kernel
theorem dX8_sand_5 : decode cX8_sand 5 = .ok (.invokevirtual 144, 3) := by decide +kernel
theorem dX8_sand_8 : decode cX8_sand 8 = .ok (.ifCond .eq 22, 3) := by decide +kernel
theorem dX8_sand_11 : decode cX8_sand 11 = .ok (.iload_n 2, 1) := by decide +kernel
theorem dX8_sand_12 : decode cX8_sand 12 = .ok (.invokestatic 169, 3) := by decide +kernel
theorem dX8_sand_15 : decode cX8_sand 15 = .ok (.ifCond .eq 15, 3) := by decide +kernel
theorem dX8_sand_18 : decode cX8_sand 18 = .ok (.iload 4, 2) := by decide +kernel
theorem dX8_sand_20 : decode cX8_sand 20 = .ok (.iconst (-1), 1) := by decide +kernel
theorem dX8_sand_21 : decode cX8_sand 21 = .ok (.if_icmp .lt 9, 3) := by decide +kernel
theorem dX8_sand_24 : decode cX8_sand 24 = .ok (.iload 4, 2) := by decide +kernel
theorem dX8_sand_26 : decode cX8_sand 26 = .ok (.iconst 1, 1) := by decide +kernel
theorem dX8_sand_27 : decode cX8_sand 27 = .ok (.if_icmp .le 5, 3) := by decide +kernel
theorem dX8_sand_30 : decode cX8_sand 30 = .ok (.iconst (-1), 1) := by decide +kernel
theorem dX8_sand_31 : decode cX8_sand 31 = .ok (.ireturn, 1) := by decide +kernel
theorem dX8_sand_32 : decode cX8_sand 32 = .ok (.iload_n 3, 1) := by decide +kernel
theorem dX8_sand_33 : decode cX8_sand 33 = .ok (.iconst 1, 1) := by decide +kernel
theorem dX8_sand_34 : decode cX8_sand 34 = .ok (.if_icmp .lt 8, 3) := by decide +kernel
theorem dX8_sand_37 : decode cX8_sand 37 = .ok (.iload_n 3, 1) := by decide +kernel
theorem dX8_sand_38 : decode cX8_sand 38 = .ok (.iconst 2, 1) := by decide +kernel
theorem dX8_sand_39 : decode cX8_sand 39 = .ok (.if_icmp .le 6, 3) := by decide +kernel
theorem dX8_sand_42 : decode cX8_sand 42 = .ok (.bipush (-2), 2) := by decide +kernel
theorem dX8_sand_44 : decode cX8_sand 44 = .ok (.ireturn, 1) := by decide +kernel
theorem dX8_sand_45 : decode cX8_sand 45 = .ok (.aload_n 0, 1) := by decide +kernel
theorem dX8_sand_46 : decode cX8_sand 46 = .ok (.getfield 53, 3) := by decide +kernel
theorem dX8_sand_49 : decode cX8_sand 49 = .ok (.aload_n 0, 1) := by decide +kernel
theorem dX8_sand_50 : decode cX8_sand 50 = .ok (.getfield 119, 3) := by decide +kernel
theorem dX8_sand_53 : decode cX8_sand 53 = .ok (.iload_n 1, 1) := by decide +kernel
theorem dX8_sand_54 : decode cX8_sand 54 = .ok (.iload_n 2, 1) := by decide +kernel
theorem dX8_sand_55 : decode cX8_sand 55 = .ok (.iload_n 3, 1) := by decide +kernel
theorem dX8_sand_56 : decode cX8_sand 56 = .ok (.invokevirtual 189, 3) := by decide +kernel
theorem dX8_sand_59 : decode cX8_sand 59 = .ok (.istore 5, 2) := by decide +kernel
theorem dX8_sand_61 : decode cX8_sand 61 = .ok (.iload 5, 2) := by decide +kernel
theorem dX8_sand_63 : decode cX8_sand 63 = .ok (.ifCond .lt 9, 3) := by decide +kernel
theorem dX8_sand_66 : decode cX8_sand 66 = .ok (.iload 4, 2) := by decide +kernel
theorem dX8_sand_68 : decode cX8_sand 68 = .ok (.iconst (-1), 1) := by decide +kernel
theorem dX8_sand_69 : decode cX8_sand 69 = .ok (.if_icmp .ne 6, 3) := by decide +kernel
theorem dX8_sand_72 : decode cX8_sand 72 = .ok (.iload 5, 2) := by decide +kernel
theorem dX8_sand_74 : decode cX8_sand 74 = .ok (.ireturn, 1) := by decide +kernel
theorem dX8_sand_75 : decode cX8_sand 75 = .ok (.iload 4, 2) := by decide +kernel
theorem dX8_sand_77 : decode cX8_sand 77 = .ok (.iload 5, 2) := by decide +kernel
theorem dX8_sand_79 : decode cX8_sand 79 = .ok (.if_icmp .ge 13, 3) := by decide +kernel
theorem dX8_sand_82 : decode cX8_sand 82 = .ok (.aload_n 0, 1) := by decide +kernel
theorem dX8_sand_83 : decode cX8_sand 83 = .ok (.getfield 53, 3) := by decide +kernel
theorem dX8_sand_86 : decode cX8_sand 86 = .ok (.getfield 193, 3) := by decide +kernel
theorem dX8_sand_89 : decode cX8_sand 89 = .ok (.goto 5, 3) := by decide +kernel
theorem dX8_sand_92 : decode cX8_sand 92 = .ok (.bipush (-9), 2) := by decide +kernel
theorem dX8_sand_94 : decode cX8_sand 94 = .ok (.ireturn, 1) := by decide +kernel
theorem dX8_sheet_0 : decode cX8_sheet 0 = .ok (.aload_n 0, 1) := by decide +kernel
theorem dX8_sheet_1 : decode cX8_sheet 1 = .ok (.iconst 0, 1) := by decide +kernel
theorem dX8_sheet_2 : decode cX8_sheet 2 = .ok (.putfield 73, 3) := by decide +kernel
theorem dX8_sheet_5 : decode cX8_sheet 5 = .ok (.aload_n 0, 1) := by decide +kernel
theorem dX8_sheet_6 : decode cX8_sheet 6 = .ok (.iload_n 1, 1) := by decide +kernel
theorem dX8_sheet_7 : decode cX8_sheet 7 = .ok (.invokevirtual 77, 3) := by decide +kernel
theorem dX8_sheet_10 : decode cX8_sheet 10 = .ok (.astore 4, 2) := by decide +kernel
theorem dX8_sheet_12 : decode cX8_sheet 12 = .ok (.aload 4, 2) := by decide +kernel
theorem dX8_sheet_14 : decode cX8_sheet 14 = .ok (.ifnonnull 5, 3) := by decide +kernel
theorem dX8_sheet_17 : decode cX8_sheet 17 = .ok (.iconst (-1), 1) := by decide +kernel
theorem dX8_sheet_18 : decode cX8_sheet 18 = .ok (.ireturn, 1) := by decide +kernel
theorem dX8_sheet_19 : decode cX8_sheet 19 = .ok (.iload_n 2, 1) := by decide +kernel
theorem dX8_sheet_20 : decode cX8_sheet 20 = .ok (.invokestatic 81, 3) := by decide +kernel
theorem dX8_sheet_23 : decode cX8_sheet 23 = .ok (.ifCond .eq 9, 3) := by decide +kernel
theorem dX8_sheet_26 : decode cX8_sheet 26 = .ok (.iload_n 3, 1) := by decide +kernel
theorem dX8_sheet_27 : decode cX8_sheet 27 = .ok (.bipush 60, 2) := by decide +kernel
theorem dX8_sheet_29 : decode cX8_sheet 29 = .ok (.if_icmp .le 6, 3) := by decide +kernel
theorem dX8_sheet_32 : decode cX8_sheet 32 = .ok (.bipush (-2), 2) := by decide +kernel
theorem dX8_sheet_34 : decode cX8_sheet 34 = .ok (.ireturn, 1) := by decide +kernel
theorem dX8_sheet_35 : decode cX8_sheet 35 = .ok (.iload_n 3, 1) := by decide +kernel
theorem dX8_sheet_36 : decode cX8_sheet 36 = .ok (.ifCond .ge 9, 3) := by decide +kernel
theorem dX8_sheet_39 : decode cX8_sheet 39 = .ok (.aload_n 0, 1) := by decide +kernel
theorem dX8_sheet_40 : decode cX8_sheet 40 = .ok (.iconst 4, 1) := by decide +kernel
theorem dX8_sheet_41 : decode cX8_sheet 41 = .ok (.invokevirtual 93, 3) := by decide +kernel
theorem dX8_sheet_44 : decode cX8_sheet 44 = .ok (.ireturn, 1) := by decide +kernel
theorem dX8_sheet_45 : decode cX8_sheet 45 = .ok (.aload 4, 2) := by decide +kernel
theorem dX8_sheet_47 : decode cX8_sheet 47 = .ok (.iload_n 2, 1) := by decide +kernel
theorem dX8_sheet_48 : decode cX8_sheet 48 = .ok (.iload_n 3, 1) := by decide +kernel
theorem dX8_sheet_49 : decode cX8_sheet 49 = .ok (.invokevirtual 207, 3) := by decide +kernel
theorem dX8_sheet_52 : decode cX8_sheet 52 = .ok (.iconst 1, 1) := by decide +kernel
theorem dX8_sheet_53 : decode cX8_sheet 53 = .ok (.ireturn, 1) := by decide +kernel
theorem dX8_put_0 : decode cX8_put 0 = .ok (.aload_n 0, 1) := by decide +kernel
theorem dX8_put_1 : decode cX8_put 1 = .ok (.iconst 0, 1) := by decide +kernel
theorem dX8_put_2 : decode cX8_put 2 = .ok (.putfield 73, 3) := by decide +kernel
theorem dX8_put_5 : decode cX8_put 5 = .ok (.aload_n 0, 1) := by decide +kernel
theorem dX8_put_6 : decode cX8_put 6 = .ok (.iload_n 1, 1) := by decide +kernel
theorem dX8_put_7 : decode cX8_put 7 = .ok (.invokevirtual 77, 3) := by decide +kernel
theorem dX8_put_10 : decode cX8_put 10 = .ok (.astore 4, 2) := by decide +kernel
theorem dX8_put_12 : decode cX8_put 12 = .ok (.aload 4, 2) := by decide +kernel
theorem dX8_put_14 : decode cX8_put 14 = .ok (.ifnonnull 5, 3) := by decide +kernel
theorem dX8_put_17 : decode cX8_put 17 = .ok (.iconst (-1), 1) := by decide +kernel
theorem dX8_put_18 : decode cX8_put 18 = .ok (.ireturn, 1) := by decide +kernel
theorem dX8_put_19 : decode cX8_put 19 = .ok (.aload 4, 2) := by decide +kernel
theorem dX8_put_21 : decode cX8_put 21 = .ok (.invokevirtual 211, 3) := by decide +kernel
theorem dX8_put_24 : decode cX8_put 24 = .ok (.ifCond .eq 9, 3) := by decide +kernel
theorem dX8_put_27 : decode cX8_put 27 = .ok (.aload_n 0, 1) := by decide +kernel
theorem dX8_put_28 : decode cX8_put 28 = .ok (.iconst 1, 1) := by decide +kernel
theorem dX8_put_29 : decode cX8_put 29 = .ok (.invokevirtual 93, 3) := by decide +kernel
theorem dX8_put_32 : decode cX8_put 32 = .ok (.ireturn, 1) := by decide +kernel
theorem dX8_put_33 : decode cX8_put 33 = .ok (.aload 4, 2) := by decide +kernel
theorem dX8_put_35 : decode cX8_put 35 = .ok (.iload_n 2, 1) := by decide +kernel
theorem dX8_put_36 : decode cX8_put 36 = .ok (.invokevirtual 218, 3) := by decide +kernel
theorem dX8_put_39 : decode cX8_put 39 = .ok (.ifCond .ne 9, 3) := by decide +kernel
theorem dX8_put_42 : decode cX8_put 42 = .ok (.aload_n 0, 1) := by decide +kernel
theorem dX8_put_43 : decode cX8_put 43 = .ok (.iconst 3, 1) := by decide +kernel
theorem dX8_put_44 : decode cX8_put 44 = .ok (.invokevirtual 93, 3) := by decide +kernel
theorem dX8_put_47 : decode cX8_put 47 = .ok (.ireturn, 1) := by decide +kernel
theorem dX8_put_48 : decode cX8_put 48 = .ok (.aload 4, 2) := by decide +kernel
theorem dX8_put_50 : decode cX8_put 50 = .ok (.iload_n 2, 1) := by decide +kernel
theorem dX8_put_51 : decode cX8_put 51 = .ok (.iload_n 3, 1) := by decide +kernel
theorem dX8_put_52 : decode cX8_put 52 = .ok (.invokevirtual 221, 3) := by decide +kernel
theorem dX8_put_55 : decode cX8_put 55 = .ok (.iconst 1, 1) := by decide +kernel
theorem dX8_put_56 : decode cX8_put 56 = .ok (.ireturn, 1) := by decide +kernel
theorem dX8_faulty_0 : decode cX8_faulty 0 = .ok (.aload_n 0, 1) := by decide +kernel
theorem dX8_faulty_1 : decode cX8_faulty 1 = .ok (.iload_n 1, 1) := by decide +kernel
theorem dX8_faulty_2 : decode cX8_faulty 2 = .ok (.putfield 73, 3) := by decide +kernel
theorem dX8_faulty_5 : decode cX8_faulty 5 = .ok (.bipush (-10), 2) := by decide +kernel
theorem dX8_faulty_7 : decode cX8_faulty 7 = .ok (.iload_n 1, 1) := by decide +kernel
theorem dX8_faulty_8 : decode cX8_faulty 8 = .ok (.isub, 1) := by decide +kernel
theorem dX8_faulty_9 : decode cX8_faulty 9 = .ok (.ireturn, 1) := by decide +kernel
theorem dX8_sheetAt_0 : decode cX8_sheetAt 0 = .ok (.iload_n 1, 1) := by decide +kernel
theorem dX8_sheetAt_1 : decode cX8_sheetAt 1 = .ok (.ifCond .lt 12, 3) := by decide +kernel
theorem dX8_sheetAt_4 : decode cX8_sheetAt 4 = .ok (.iload_n 1, 1) := by decide +kernel
theorem dX8_sheetAt_5 : decode cX8_sheetAt 5 = .ok (.aload_n 0, 1) := by decide +kernel
theorem dX8_sheetAt_6 : decode cX8_sheetAt 6 = .ok (.getfield 60, 3) := by decide +kernel
theorem dX8_sheetAt_9 : decode cX8_sheetAt 9 = .ok (.arraylength, 1) := by decide +kernel
theorem dX8_sheetAt_10 : decode cX8_sheetAt 10 = .ok (.if_icmp .lt 7, 3) := by decide +kernel
theorem dX8_sheetAt_13 : decode cX8_sheetAt 13 = .ok (.aconst_null, 1) := by decide +kernel
theorem dX8_sheetAt_14 : decode cX8_sheetAt 14 = .ok (.goto 9, 3) := by decide +kernel
theorem dX8_sheetAt_17 : decode cX8_sheetAt 17 = .ok (.aload_n 0, 1) := by decide +kernel
theorem dX8_sheetAt_18 : decode cX8_sheetAt 18 = .ok (.getfield 60, 3) := by decide +kernel
theorem dX8_sheetAt_21 : decode cX8_sheetAt 21 = .ok (.iload_n 1, 1) := by decide +kernel
theorem dX8_sheetAt_22 : decode cX8_sheetAt 22 = .ok (.aaload, 1) := by decide +kernel
theorem dX8_sheetAt_23 : decode cX8_sheetAt 23 = .ok (.areturn, 1) := by decide +kernel
theorem dX8_isLane_0 : decode cX8_isLane 0 = .ok (.iload_n 0, 1) := by decide +kernel
theorem dX8_isLane_1 : decode cX8_isLane 1 = .ok (.ifCond .lt 12, 3) := by decide +kernel
theorem dX8_isLane_4 : decode cX8_isLane 4 = .ok (.iload_n 0, 1) := by decide +kernel
theorem dX8_isLane_5 : decode cX8_isLane 5 = .ok (.iconst 3, 1) := by decide +kernel
theorem dX8_isLane_6 : decode cX8_isLane 6 = .ok (.if_icmp .ge 7, 3) := by decide +kernel
theorem dX8_isLane_9 : decode cX8_isLane 9 = .ok (.iconst 1, 1) := by decide +kernel
theorem dX8_isLane_10 : decode cX8_isLane 10 = .ok (.goto 4, 3) := by decide +kernel
theorem dX8_isLane_13 : decode cX8_isLane 13 = .ok (.iconst 0, 1) := by decide +kernel
theorem dX8_isLane_14 : decode cX8_isLane 14 = .ok (.ireturn, 1) := by decide +kernel
theorem dX8_isGate_0 : decode cX8_isGate 0 = .ok (.iload_n 0, 1) := by decide +kernel
theorem dX8_isGate_1 : decode cX8_isGate 1 = .ok (.ifCond .eq 8, 3) := by decide +kernel
theorem dX8_isGate_4 : decode cX8_isGate 4 = .ok (.iload_n 0, 1) := by decide +kernel
theorem dX8_isGate_5 : decode cX8_isGate 5 = .ok (.iconst 1, 1) := by decide +kernel
theorem dX8_isGate_6 : decode cX8_isGate 6 = .ok (.if_icmp .ne 7, 3) := by decide +kernel
theorem dX8_isGate_9 : decode cX8_isGate 9 = .ok (.iconst 1, 1) := by decide +kernel
theorem dX8_isGate_10 : decode cX8_isGate 10 = .ok (.goto 4, 3) := by decide +kernel
theorem dX8_isGate_13 : decode cX8_isGate 13 = .ok (.iconst 0, 1) := by decide +kernel
theorem dX8_isGate_14 : decode cX8_isGate 14 = .ok (.ireturn, 1) := by decide +kernel
theorem dX8_placeOf_0 : decode cX8_placeOf 0 = .ok (.lload_n 0, 1) := by decide +kernel
theorem dX8_placeOf_1 : decode cX8_placeOf 1 = .ok (.bipush 6, 2) := by decide +kernel
theorem dX8_placeOf_3 : decode cX8_placeOf 3 = .ok (.iload_n 2, 1) := by decide +kernel
theorem dX8_placeOf_4 : decode cX8_placeOf 4 = .ok (.imul, 1) := by decide +kernel
theorem dX8_placeOf_5 : decode cX8_placeOf 5 = .ok (.lushr, 1) := by decide +kernel
theorem dX8_placeOf_6 : decode cX8_placeOf 6 = .ok (.ldc2_w 266, 3) := by decide +kernel
theorem dX8_placeOf_9 : decode cX8_placeOf 9 = .ok (.land, 1) := by decide +kernel
theorem dX8_placeOf_10 : decode cX8_placeOf 10 = .ok (.l2i, 1) := by decide +kernel
theorem dX8_placeOf_11 : decode cX8_placeOf 11 = .ok (.ireturn, 1) := by decide +kernel
theorem dX8_withPlace_0 : decode cX8_withPlace 0 = .ok (.bipush 6, 2) := by decide +kernel
theorem dX8_withPlace_2 : decode cX8_withPlace 2 = .ok (.iload_n 2, 1) := by decide +kernel
theorem dX8_withPlace_3 : decode cX8_withPlace 3 = .ok (.imul, 1) := by decide +kernel
theorem dX8_withPlace_4 : decode cX8_withPlace 4 = .ok (.istore 4, 2) := by decide +kernel
theorem dX8_withPlace_6 : decode cX8_withPlace 6 = .ok (.lload_n 0, 1) := by decide +kernel
theorem dX8_withPlace_7 : decode cX8_withPlace 7 = .ok (.ldc2_w 266, 3) := by decide +kernel
theorem dX8_withPlace_10 : decode cX8_withPlace 10 = .ok (.iload 4, 2) := by decide +kernel
theorem dX8_withPlace_12 : decode cX8_withPlace 12 = .ok (.lshl, 1) := by decide +kernel
theorem dX8_withPlace_13 : decode cX8_withPlace 13 = .ok (.ldc2_w 68, 3) := by decide +kernel
theorem dX8_withPlace_16 : decode cX8_withPlace 16 = .ok (.lxor, 1) := by decide +kernel
theorem dX8_withPlace_17 : decode cX8_withPlace 17 = .ok (.land, 1) := by decide +kernel
theorem dX8_withPlace_18 : decode cX8_withPlace 18 = .ok (.iload_n 3, 1) := by decide +kernel
theorem dX8_withPlace_19 : decode cX8_withPlace 19 = .ok (.i2l, 1) := by decide +kernel
theorem dX8_withPlace_20 : decode cX8_withPlace 20 = .ok (.iload 4, 2) := by decide +kernel
theorem dX8_withPlace_22 : decode cX8_withPlace 22 = .ok (.lshl, 1) := by decide +kernel
theorem dX8_withPlace_23 : decode cX8_withPlace 23 = .ok (.lor, 1) := by decide +kernel
theorem dX8_withPlace_24 : decode cX8_withPlace 24 = .ok (.lreturn, 1) := by decide +kernel
theorem dX8_whereIs_0 : decode cX8_whereIs 0 = .ok (.lload_n 0, 1) := by decide +kernel
theorem dX8_whereIs_1 : decode cX8_whereIs 1 = .ok (.iload_n 2, 1) := by decide +kernel
theorem dX8_whereIs_2 : decode cX8_whereIs 2 = .ok (.invokestatic 136, 3) := by decide +kernel
theorem dX8_whereIs_5 : decode cX8_whereIs 5 = .ok (.istore_n 3, 1) := by decide +kernel
theorem dX8_whereIs_6 : decode cX8_whereIs 6 = .ok (.iload_n 3, 1) := by decide +kernel
theorem dX8_whereIs_7 : decode cX8_whereIs 7 = .ok (.bipush 36, 2) := by decide +kernel
theorem dX8_whereIs_9 : decode cX8_whereIs 9 = .ok (.if_icmp .ge 5, 3) := by decide +kernel
theorem dX8_whereIs_12 : decode cX8_whereIs 12 = .ok (.iload_n 3, 1) := by decide +kernel
theorem dX8_whereIs_13 : decode cX8_whereIs 13 = .ok (.ireturn, 1) := by decide +kernel
theorem dX8_whereIs_14 : decode cX8_whereIs 14 = .ok (.iload_n 3, 1) := by decide +kernel
theorem dX8_whereIs_15 : decode cX8_whereIs 15 = .ok (.bipush 36, 2) := by decide +kernel
theorem dX8_whereIs_17 : decode cX8_whereIs 17 = .ok (.if_icmp .ne 8, 3) := by decide +kernel
theorem dX8_whereIs_20 : decode cX8_whereIs 20 = .ok (.bipush (-6), 2) := by decide +kernel
theorem dX8_whereIs_22 : decode cX8_whereIs 22 = .ok (.goto 10, 3) := by decide +kernel
theorem dX8_whereIs_25 : decode cX8_whereIs 25 = .ok (.bipush (-20), 2) := by decide +kernel
theorem dX8_whereIs_27 : decode cX8_whereIs 27 = .ok (.iload_n 3, 1) := by decide +kernel
theorem dX8_whereIs_28 : decode cX8_whereIs 28 = .ok (.bipush 37, 2) := by decide +kernel
theorem dX8_whereIs_30 : decode cX8_whereIs 30 = .ok (.isub, 1) := by decide +kernel
theorem dX8_whereIs_31 : decode cX8_whereIs 31 = .ok (.isub, 1) := by decide +kernel
theorem dX8_whereIs_32 : decode cX8_whereIs 32 = .ok (.ireturn, 1) := by decide +kernel
theorem dX8_has_0 : decode cX8_has 0 = .ok (.lload_n 0, 1) := by decide +kernel
theorem dX8_has_1 : decode cX8_has 1 = .ok (.iload_n 2, 1) := by decide +kernel
theorem dX8_has_2 : decode cX8_has 2 = .ok (.lushr, 1) := by decide +kernel
theorem dX8_has_3 : decode cX8_has 3 = .ok (.lconst 1, 1) := by decide +kernel
theorem dX8_has_4 : decode cX8_has 4 = .ok (.land, 1) := by decide +kernel
theorem dX8_has_5 : decode cX8_has 5 = .ok (.lconst 0, 1) := by decide +kernel
theorem dX8_has_6 : decode cX8_has 6 = .ok (.lcmp, 1) := by decide +kernel
theorem dX8_has_7 : decode cX8_has 7 = .ok (.ifCond .eq 7, 3) := by decide +kernel
theorem dX8_has_10 : decode cX8_has 10 = .ok (.iconst 1, 1) := by decide +kernel
theorem dX8_has_11 : decode cX8_has 11 = .ok (.goto 4, 3) := by decide +kernel
theorem dX8_has_14 : decode cX8_has 14 = .ok (.iconst 0, 1) := by decide +kernel
theorem dX8_has_15 : decode cX8_has 15 = .ok (.ireturn, 1) := by decide +kernel
theorem dX8_pushNumber_0 : decode cX8_pushNumber 0 = .ok (.bipush 10, 2) := by decide +kernel
theorem dX8_pushNumber_2 : decode cX8_pushNumber 2 = .ok (.iload_n 0, 1) := by decide +kernel
theorem dX8_pushNumber_3 : decode cX8_pushNumber 3 = .ok (.imul, 1) := by decide +kernel
theorem dX8_pushNumber_4 : decode cX8_pushNumber 4 = .ok (.iload_n 1, 1) := by decide +kernel
theorem dX8_pushNumber_5 : decode cX8_pushNumber 5 = .ok (.iadd, 1) := by decide +kernel
theorem dX8_pushNumber_6 : decode cX8_pushNumber 6 = .ok (.ireturn, 1) := by decide +kernel
theorem dJ9_min_7cf53_0 : decode cJ9_min_7cf53 0 = .ok (.iload_n 0, 1) := by decide +kernel
theorem dJ9_min_7cf53_1 : decode cJ9_min_7cf53 1 = .ok (.iload_n 1, 1) := by decide +kernel
theorem dJ9_min_7cf53_2 : decode cJ9_min_7cf53 2 = .ok (.if_icmp .gt 7, 3) := by decide +kernel
theorem dJ9_min_7cf53_5 : decode cJ9_min_7cf53 5 = .ok (.iload_n 0, 1) := by decide +kernel
theorem dJ9_min_7cf53_6 : decode cJ9_min_7cf53 6 = .ok (.goto 4, 3) := by decide +kernel
theorem dJ9_min_7cf53_9 : decode cJ9_min_7cf53 9 = .ok (.iload_n 1, 1) := by decide +kernel
theorem dJ9_min_7cf53_10 : decode cJ9_min_7cf53 10 = .ok (.ireturn, 1) := by decide +kernel
theorem dJ7_fill_d0a16_0 : decode cJ7_fill_d0a16 0 = .ok (.iconst 0, 1) := by decide +kernel
theorem dJ7_fill_d0a16_1 : decode cJ7_fill_d0a16 1 = .ok (.istore_n 3, 1) := by decide +kernel
theorem dJ7_fill_d0a16_2 : decode cJ7_fill_d0a16 2 = .ok (.aload_n 0, 1) := by decide +kernel
theorem dJ7_fill_d0a16_3 : decode cJ7_fill_d0a16 3 = .ok (.arraylength, 1) := by decide +kernel
theorem dJ7_fill_d0a16_4 : decode cJ7_fill_d0a16 4 = .ok (.istore 4, 2) := by decide +kernel
theorem dJ7_fill_d0a16_6 : decode cJ7_fill_d0a16 6 = .ok (.iload_n 3, 1) := by decide +kernel
theorem dJ7_fill_d0a16_7 : decode cJ7_fill_d0a16 7 = .ok (.iload 4, 2) := by decide +kernel
theorem dJ7_fill_d0a16_9 : decode cJ7_fill_d0a16 9 = .ok (.if_icmp .ge 13, 3) := by decide +kernel
theorem dJ7_fill_d0a16_12 : decode cJ7_fill_d0a16 12 = .ok (.aload_n 0, 1) := by decide +kernel
theorem dJ7_fill_d0a16_13 : decode cJ7_fill_d0a16 13 = .ok (.iload_n 3, 1) := by decide +kernel
theorem dJ7_fill_d0a16_14 : decode cJ7_fill_d0a16 14 = .ok (.lload_n 1, 1) := by decide +kernel
theorem dJ7_fill_d0a16_15 : decode cJ7_fill_d0a16 15 = .ok (.lastore, 1) := by decide +kernel
theorem dJ7_fill_d0a16_16 : decode cJ7_fill_d0a16 16 = .ok (.iinc 3 1, 3) := by decide +kernel
theorem dJ7_fill_d0a16_19 : decode cJ7_fill_d0a16 19 = .ok (.goto (-13), 3) := by decide +kernel
theorem dJ7_fill_d0a16_22 : decode cJ7_fill_d0a16 22 = .ok (.return_, 1) := by decide +kernel
theorem dJ7_fill_53178_0 : decode cJ7_fill_53178 0 = .ok (.iconst 0, 1) := by decide +kernel
theorem dJ7_fill_53178_1 : decode cJ7_fill_53178 1 = .ok (.istore_n 2, 1) := by decide +kernel
theorem dJ7_fill_53178_2 : decode cJ7_fill_53178 2 = .ok (.aload_n 0, 1) := by decide +kernel
theorem dJ7_fill_53178_3 : decode cJ7_fill_53178 3 = .ok (.arraylength, 1) := by decide +kernel
theorem dJ7_fill_53178_4 : decode cJ7_fill_53178 4 = .ok (.istore_n 3, 1) := by decide +kernel
theorem dJ7_fill_53178_5 : decode cJ7_fill_53178 5 = .ok (.iload_n 2, 1) := by decide +kernel
theorem dJ7_fill_53178_6 : decode cJ7_fill_53178 6 = .ok (.iload_n 3, 1) := by decide +kernel
theorem dJ7_fill_53178_7 : decode cJ7_fill_53178 7 = .ok (.if_icmp .ge 13, 3) := by decide +kernel
theorem dJ7_fill_53178_10 : decode cJ7_fill_53178 10 = .ok (.aload_n 0, 1) := by decide +kernel
theorem dJ7_fill_53178_11 : decode cJ7_fill_53178 11 = .ok (.iload_n 2, 1) := by decide +kernel
theorem dJ7_fill_53178_12 : decode cJ7_fill_53178 12 = .ok (.iload_n 1, 1) := by decide +kernel
theorem dJ7_fill_53178_13 : decode cJ7_fill_53178 13 = .ok (.iastore, 1) := by decide +kernel
theorem dJ7_fill_53178_14 : decode cJ7_fill_53178 14 = .ok (.iinc 2 1, 3) := by decide +kernel
theorem dJ7_fill_53178_17 : decode cJ7_fill_53178 17 = .ok (.goto (-12), 3) := by decide +kernel
theorem dJ7_fill_53178_20 : decode cJ7_fill_53178 20 = .ok (.return_, 1) := by decide +kernel
theorem dL_cell_0 : decode cL_cell 0 = .ok (.iload_n 1, 1) := by decide +kernel
theorem dL_cell_1 : decode cL_cell 1 = .ok (.aload_n 0, 1) := by decide +kernel
theorem dL_cell_2 : decode cL_cell 2 = .ok (.arraylength, 1) := by decide +kernel
theorem dL_cell_3 : decode cL_cell 3 = .ok (.if_icmp .ge 9, 3) := by decide +kernel
theorem dL_cell_6 : decode cL_cell 6 = .ok (.aload_n 0, 1) := by decide +kernel
theorem dL_cell_7 : decode cL_cell 7 = .ok (.iload_n 1, 1) := by decide +kernel
theorem dL_cell_8 : decode cL_cell 8 = .ok (.iaload, 1) := by decide +kernel
theorem dL_cell_9 : decode cL_cell 9 = .ok (.goto 11, 3) := by decide +kernel
theorem dL_cell_12 : decode cL_cell 12 = .ok (.ldc 7, 2) := by decide +kernel
theorem dL_cell_14 : decode cL_cell 14 = .ok (.iload_n 1, 1) := by decide +kernel
theorem dL_cell_15 : decode cL_cell 15 = .ok (.imul, 1) := by decide +kernel
theorem dL_cell_16 : decode cL_cell 16 = .ok (.sipush 977, 3) := by decide +kernel
theorem dL_cell_19 : decode cL_cell 19 = .ok (.iadd, 1) := by decide +kernel
theorem dL_cell_20 : decode cL_cell 20 = .ok (.ireturn, 1) := by decide +kernel
theorem dL_low_0 : decode cL_low 0 = .ok (.iload_n 0, 1) := by decide +kernel
theorem dL_low_1 : decode cL_low 1 = .ok (.ldc 8, 2) := by decide +kernel
theorem dL_low_3 : decode cL_low 3 = .ok (.iand, 1) := by decide +kernel
theorem dL_low_4 : decode cL_low 4 = .ok (.iload_n 1, 1) := by decide +kernel
theorem dL_low_5 : decode cL_low 5 = .ok (.irem, 1) := by decide +kernel
theorem dL_low_6 : decode cL_low 6 = .ok (.ireturn, 1) := by decide +kernel
theorem dL_lay_0 : decode cL_lay 0 = .ok (.aload_n 3, 1) := by decide +kernel
theorem dL_lay_1 : decode cL_lay 1 = .ok (.iload 4, 2) := by decide +kernel
theorem dL_lay_3 : decode cL_lay 3 = .ok (.invokestatic 9, 3) := by decide +kernel
theorem dL_lay_6 : decode cL_lay 6 = .ok (.istore 7, 2) := by decide +kernel
theorem dL_lay_8 : decode cL_lay 8 = .ok (.aload_n 1, 1) := by decide +kernel
theorem dL_lay_9 : decode cL_lay 9 = .ok (.iconst 0, 1) := by decide +kernel
theorem dL_lay_10 : decode cL_lay 10 = .ok (.iconst 3, 1) := by decide +kernel
theorem dL_lay_11 : decode cL_lay 11 = .ok (.iload 7, 2) := by decide +kernel
theorem dL_lay_13 : decode cL_lay 13 = .ok (.iload 5, 2) := by decide +kernel
theorem dL_lay_15 : decode cL_lay 15 = .ok (.iconst 2, 1) := by decide +kernel
theorem dL_lay_16 : decode cL_lay 16 = .ok (.isub, 1) := by decide +kernel
theorem dL_lay_17 : decode cL_lay 17 = .ok (.invokestatic 15, 3) := by decide +kernel
theorem dL_lay_20 : decode cL_lay 20 = .ok (.iadd, 1) := by decide +kernel
theorem dL_lay_21 : decode cL_lay 21 = .ok (.iastore, 1) := by decide +kernel
theorem dL_lay_22 : decode cL_lay 22 = .ok (.aload_n 1, 1) := by decide +kernel
theorem dL_lay_23 : decode cL_lay 23 = .ok (.iconst 1, 1) := by decide +kernel
theorem dL_lay_24 : decode cL_lay 24 = .ok (.iconst 3, 1) := by decide +kernel
theorem dL_lay_25 : decode cL_lay 25 = .ok (.iload 7, 2) := by decide +kernel
theorem dL_lay_27 : decode cL_lay 27 = .ok (.iconst 3, 1) := by decide +kernel
theorem dL_lay_28 : decode cL_lay 28 = .ok (.ishr, 1) := by decide +kernel
theorem dL_lay_29 : decode cL_lay 29 = .ok (.iload 5, 2) := by decide +kernel
theorem dL_lay_31 : decode cL_lay 31 = .ok (.iconst 2, 1) := by decide +kernel
theorem dL_lay_32 : decode cL_lay 32 = .ok (.isub, 1) := by decide +kernel
theorem dL_lay_33 : decode cL_lay 33 = .ok (.invokestatic 15, 3) := by decide +kernel
theorem dL_lay_36 : decode cL_lay 36 = .ok (.iadd, 1) := by decide +kernel
theorem dL_lay_37 : decode cL_lay 37 = .ok (.iastore, 1) := by decide +kernel
theorem dL_lay_38 : decode cL_lay 38 = .ok (.aload_n 1, 1) := by decide +kernel
theorem dL_lay_39 : decode cL_lay 39 = .ok (.iconst 2, 1) := by decide +kernel
theorem dL_lay_40 : decode cL_lay 40 = .ok (.iconst 0, 1) := by decide +kernel
theorem dL_lay_41 : decode cL_lay 41 = .ok (.iastore, 1) := by decide +kernel
theorem dL_lay_42 : decode cL_lay 42 = .ok (.iconst 0, 1) := by decide +kernel
theorem dL_lay_43 : decode cL_lay 43 = .ok (.istore 8, 2) := by decide +kernel
theorem dL_lay_45 : decode cL_lay 45 = .ok (.aload_n 0, 1) := by decide +kernel
theorem dL_lay_46 : decode cL_lay 46 = .ok (.iconst 0, 1) := by decide +kernel
theorem dL_lay_47 : decode cL_lay 47 = .ok (.iconst 0, 1) := by decide +kernel
theorem dL_lay_48 : decode cL_lay 48 = .ok (.bipush 105, 2) := by decide +kernel
theorem dL_lay_50 : decode cL_lay 50 = .ok (.invokevirtual 19, 3) := by decide +kernel
theorem dL_lay_53 : decode cL_lay 53 = .ok (.iconst 1, 1) := by decide +kernel
theorem dL_lay_54 : decode cL_lay 54 = .ok (.if_icmp .ne 39, 3) := by decide +kernel
theorem dL_lay_57 : decode cL_lay 57 = .ok (.aload_n 0, 1) := by decide +kernel
theorem dL_lay_58 : decode cL_lay 58 = .ok (.iconst 0, 1) := by decide +kernel
theorem dL_lay_59 : decode cL_lay 59 = .ok (.iconst 1, 1) := by decide +kernel
theorem dL_lay_60 : decode cL_lay 60 = .ok (.bipush 48, 2) := by decide +kernel
theorem dL_lay_62 : decode cL_lay 62 = .ok (.aload_n 1, 1) := by decide +kernel
theorem dL_lay_63 : decode cL_lay 63 = .ok (.iconst 0, 1) := by decide +kernel
theorem dL_lay_64 : decode cL_lay 64 = .ok (.iaload, 1) := by decide +kernel
theorem dL_lay_65 : decode cL_lay 65 = .ok (.iadd, 1) := by decide +kernel
theorem dL_lay_66 : decode cL_lay 66 = .ok (.invokevirtual 19, 3) := by decide +kernel
theorem dL_lay_69 : decode cL_lay 69 = .ok (.iconst 1, 1) := by decide +kernel
theorem dL_lay_70 : decode cL_lay 70 = .ok (.if_icmp .ne 23, 3) := by decide +kernel
theorem dL_lay_73 : decode cL_lay 73 = .ok (.aload_n 0, 1) := by decide +kernel
theorem dL_lay_74 : decode cL_lay 74 = .ok (.iconst 0, 1) := by decide +kernel
theorem dL_lay_75 : decode cL_lay 75 = .ok (.iconst 2, 1) := by decide +kernel
theorem dL_lay_76 : decode cL_lay 76 = .ok (.bipush 48, 2) := by decide +kernel
theorem dL_lay_78 : decode cL_lay 78 = .ok (.aload_n 1, 1) := by decide +kernel
theorem dL_lay_79 : decode cL_lay 79 = .ok (.iconst 1, 1) := by decide +kernel
theorem dL_lay_80 : decode cL_lay 80 = .ok (.iaload, 1) := by decide +kernel
theorem dL_lay_81 : decode cL_lay 81 = .ok (.iadd, 1) := by decide +kernel
theorem dL_lay_82 : decode cL_lay 82 = .ok (.invokevirtual 19, 3) := by decide +kernel
theorem dL_lay_85 : decode cL_lay 85 = .ok (.iconst 1, 1) := by decide +kernel
theorem dL_lay_86 : decode cL_lay 86 = .ok (.if_icmp .ne 7, 3) := by decide +kernel
theorem dL_lay_89 : decode cL_lay 89 = .ok (.iconst 1, 1) := by decide +kernel
theorem dL_lay_90 : decode cL_lay 90 = .ok (.goto 4, 3) := by decide +kernel
theorem dL_lay_93 : decode cL_lay 93 = .ok (.iconst 0, 1) := by decide +kernel
theorem dL_lay_94 : decode cL_lay 94 = .ok (.istore 9, 2) := by decide +kernel
theorem dL_lay_96 : decode cL_lay 96 = .ok (.iconst 3, 1) := by decide +kernel
theorem dL_lay_97 : decode cL_lay 97 = .ok (.istore 10, 2) := by decide +kernel
theorem dL_lay_99 : decode cL_lay 99 = .ok (.iconst 0, 1) := by decide +kernel
theorem dL_lay_100 : decode cL_lay 100 = .ok (.istore 11, 2) := by decide +kernel
theorem dL_lay_102 : decode cL_lay 102 = .ok (.iload 11, 2) := by decide +kernel
theorem dL_lay_104 : decode cL_lay 104 = .ok (.aload_n 1, 1) := by decide +kernel
theorem dL_lay_105 : decode cL_lay 105 = .ok (.iconst 0, 1) := by decide +kernel
theorem dL_lay_106 : decode cL_lay 106 = .ok (.iaload, 1) := by decide +kernel
theorem dL_lay_107 : decode cL_lay 107 = .ok (.aload_n 1, 1) := by decide +kernel
theorem dL_lay_108 : decode cL_lay 108 = .ok (.iconst 1, 1) := by decide +kernel
theorem dL_lay_109 : decode cL_lay 109 = .ok (.iaload, 1) := by decide +kernel
theorem dL_lay_110 : decode cL_lay 110 = .ok (.imul, 1) := by decide +kernel
theorem dL_lay_111 : decode cL_lay 111 = .ok (.if_icmp .ge 342, 3) := by decide +kernel
theorem dL_lay_114 : decode cL_lay 114 = .ok (.iload 11, 2) := by decide +kernel
theorem dL_lay_116 : decode cL_lay 116 = .ok (.aload_n 1, 1) := by decide +kernel
theorem dL_lay_117 : decode cL_lay 117 = .ok (.iconst 1, 1) := by decide +kernel
theorem dL_lay_118 : decode cL_lay 118 = .ok (.iaload, 1) := by decide +kernel
theorem dL_lay_119 : decode cL_lay 119 = .ok (.irem, 1) := by decide +kernel
theorem dL_lay_120 : decode cL_lay 120 = .ok (.ifCond .ne 31, 3) := by decide +kernel
theorem dL_lay_123 : decode cL_lay 123 = .ok (.iload 9, 2) := by decide +kernel
theorem dL_lay_125 : decode cL_lay 125 = .ok (.ifCond .eq 20, 3) := by decide +kernel
theorem dL_lay_128 : decode cL_lay 128 = .ok (.aload_n 0, 1) := by decide +kernel
theorem dL_lay_129 : decode cL_lay 129 = .ok (.iconst 0, 1) := by decide +kernel
theorem dL_lay_130 : decode cL_lay 130 = .ok (.iload 10, 2) := by decide +kernel
theorem dL_lay_132 : decode cL_lay 132 = .ok (.bipush 59, 2) := by decide +kernel
theorem dL_lay_134 : decode cL_lay 134 = .ok (.invokevirtual 19, 3) := by decide +kernel
theorem dL_lay_137 : decode cL_lay 137 = .ok (.iconst 1, 1) := by decide +kernel
theorem dL_lay_138 : decode cL_lay 138 = .ok (.if_icmp .ne 7, 3) := by decide +kernel
theorem dL_lay_141 : decode cL_lay 141 = .ok (.iconst 1, 1) := by decide +kernel
theorem dL_lay_142 : decode cL_lay 142 = .ok (.goto 4, 3) := by decide +kernel
theorem dL_lay_145 : decode cL_lay 145 = .ok (.iconst 0, 1) := by decide +kernel
theorem dL_lay_146 : decode cL_lay 146 = .ok (.istore 9, 2) := by decide +kernel
theorem dL_lay_148 : decode cL_lay 148 = .ok (.iinc 10 1, 3) := by decide +kernel
theorem dL_lay_151 : decode cL_lay 151 = .ok (.aload_n 3, 1) := by decide +kernel
theorem dL_lay_152 : decode cL_lay 152 = .ok (.iload 4, 2) := by decide +kernel
theorem dL_lay_154 : decode cL_lay 154 = .ok (.iconst 1, 1) := by decide +kernel
theorem dL_lay_155 : decode cL_lay 155 = .ok (.iadd, 1) := by decide +kernel
theorem dL_lay_156 : decode cL_lay 156 = .ok (.iload 11, 2) := by decide +kernel
theorem dL_lay_158 : decode cL_lay 158 = .ok (.bipush 6, 2) := by decide +kernel
theorem dL_lay_160 : decode cL_lay 160 = .ok (.idiv, 1) := by decide +kernel
theorem dL_lay_161 : decode cL_lay 161 = .ok (.iadd, 1) := by decide +kernel
theorem dL_lay_162 : decode cL_lay 162 = .ok (.invokestatic 9, 3) := by decide +kernel
theorem dL_lay_165 : decode cL_lay 165 = .ok (.iconst 5, 1) := by decide +kernel
theorem dL_lay_166 : decode cL_lay 166 = .ok (.iload 11, 2) := by decide +kernel
theorem dL_lay_168 : decode cL_lay 168 = .ok (.bipush 6, 2) := by decide +kernel
theorem dL_lay_170 : decode cL_lay 170 = .ok (.irem, 1) := by decide +kernel
theorem dL_lay_171 : decode cL_lay 171 = .ok (.imul, 1) := by decide +kernel
theorem dL_lay_172 : decode cL_lay 172 = .ok (.ishr, 1) := by decide +kernel
theorem dL_lay_173 : decode cL_lay 173 = .ok (.bipush 32, 2) := by decide +kernel
theorem dL_lay_175 : decode cL_lay 175 = .ok (.invokestatic 15, 3) := by decide +kernel
theorem dL_lay_178 : decode cL_lay 178 = .ok (.istore 12, 2) := by decide +kernel
theorem dL_lay_180 : decode cL_lay 180 = .ok (.iload 12, 2) := by decide +kernel
theorem dL_lay_182 : decode cL_lay 182 = .ok (.bipush 14, 2) := by decide +kernel
theorem dL_lay_184 : decode cL_lay 184 = .ok (.if_icmp .ge 7, 3) := by decide +kernel
theorem dL_lay_187 : decode cL_lay 187 = .ok (.iconst 0, 1) := by decide +kernel
theorem dL_lay_188 : decode cL_lay 188 = .ok (.goto 65, 3) := by decide +kernel
theorem dL_lay_191 : decode cL_lay 191 = .ok (.iload 12, 2) := by decide +kernel
theorem dL_lay_193 : decode cL_lay 193 = .ok (.bipush 17, 2) := by decide +kernel
theorem dL_lay_195 : decode cL_lay 195 = .ok (.if_icmp .ge 7, 3) := by decide +kernel
theorem dL_lay_198 : decode cL_lay 198 = .ok (.iconst 1, 1) := by decide +kernel
theorem dL_lay_199 : decode cL_lay 199 = .ok (.goto 54, 3) := by decide +kernel
theorem dL_lay_202 : decode cL_lay 202 = .ok (.iload 12, 2) := by decide +kernel
theorem dL_lay_204 : decode cL_lay 204 = .ok (.bipush 19, 2) := by decide +kernel
theorem dL_lay_206 : decode cL_lay 206 = .ok (.if_icmp .ge 7, 3) := by decide +kernel
theorem dL_lay_209 : decode cL_lay 209 = .ok (.iconst 2, 1) := by decide +kernel
theorem dL_lay_210 : decode cL_lay 210 = .ok (.goto 43, 3) := by decide +kernel
theorem dL_lay_213 : decode cL_lay 213 = .ok (.iload 12, 2) := by decide +kernel
theorem dL_lay_215 : decode cL_lay 215 = .ok (.bipush 21, 2) := by decide +kernel
theorem dL_lay_217 : decode cL_lay 217 = .ok (.if_icmp .ge 13, 3) := by decide +kernel
theorem dL_lay_220 : decode cL_lay 220 = .ok (.iload 8, 2) := by decide +kernel
theorem dL_lay_222 : decode cL_lay 222 = .ok (.iconst 4, 1) := by decide +kernel
theorem dL_lay_223 : decode cL_lay 223 = .ok (.if_icmp .ge 7, 3) := by decide +kernel
theorem dL_lay_226 : decode cL_lay 226 = .ok (.iconst 3, 1) := by decide +kernel
theorem dL_lay_227 : decode cL_lay 227 = .ok (.goto 26, 3) := by decide +kernel
theorem dL_lay_230 : decode cL_lay 230 = .ok (.iload 12, 2) := by decide +kernel
theorem dL_lay_232 : decode cL_lay 232 = .ok (.bipush 21, 2) := by decide +kernel
theorem dL_lay_234 : decode cL_lay 234 = .ok (.if_icmp .ne 7, 3) := by decide +kernel
theorem dL_lay_237 : decode cL_lay 237 = .ok (.iconst 4, 1) := by decide +kernel
theorem dL_lay_238 : decode cL_lay 238 = .ok (.goto 15, 3) := by decide +kernel
theorem dL_lay_241 : decode cL_lay 241 = .ok (.iload 12, 2) := by decide +kernel
theorem dL_lay_243 : decode cL_lay 243 = .ok (.bipush 22, 2) := by decide +kernel
theorem dL_lay_245 : decode cL_lay 245 = .ok (.if_icmp .ne 7, 3) := by decide +kernel
theorem dL_lay_248 : decode cL_lay 248 = .ok (.iconst 5, 1) := by decide +kernel
theorem dL_lay_249 : decode cL_lay 249 = .ok (.goto 4, 3) := by decide +kernel
theorem dL_lay_252 : decode cL_lay 252 = .ok (.iconst 0, 1) := by decide +kernel
theorem dL_lay_253 : decode cL_lay 253 = .ok (.istore 13, 2) := by decide +kernel
theorem dL_lay_255 : decode cL_lay 255 = .ok (.iload 12, 2) := by decide +kernel
theorem dL_lay_257 : decode cL_lay 257 = .ok (.bipush 25, 2) := by decide +kernel
theorem dL_lay_259 : decode cL_lay 259 = .ok (.if_icmp .le 15, 3) := by decide +kernel
theorem dL_lay_262 : decode cL_lay 262 = .ok (.aload_n 1, 1) := by decide +kernel
theorem dL_lay_263 : decode cL_lay 263 = .ok (.iconst 2, 1) := by decide +kernel
theorem dL_lay_264 : decode cL_lay 264 = .ok (.iaload, 1) := by decide +kernel
theorem dL_lay_265 : decode cL_lay 265 = .ok (.iload 6, 2) := by decide +kernel
theorem dL_lay_267 : decode cL_lay 267 = .ok (.if_icmp .ge 7, 3) := by decide +kernel
theorem dL_lay_270 : decode cL_lay 270 = .ok (.iconst 1, 1) := by decide +kernel
theorem dL_lay_271 : decode cL_lay 271 = .ok (.goto 4, 3) := by decide +kernel
theorem dL_lay_274 : decode cL_lay 274 = .ok (.iconst 0, 1) := by decide +kernel
theorem dL_lay_275 : decode cL_lay 275 = .ok (.istore 14, 2) := by decide +kernel
theorem dL_lay_277 : decode cL_lay 277 = .ok (.aload_n 2, 1) := by decide +kernel
theorem dL_lay_278 : decode cL_lay 278 = .ok (.iload 11, 2) := by decide +kernel
theorem dL_lay_280 : decode cL_lay 280 = .ok (.iload 13, 2) := by decide +kernel
theorem dL_lay_282 : decode cL_lay 282 = .ok (.iastore, 1) := by decide +kernel
theorem dL_lay_283 : decode cL_lay 283 = .ok (.iload 8, 2) := by decide +kernel
theorem dL_lay_285 : decode cL_lay 285 = .ok (.iload 13, 2) := by decide +kernel
theorem dL_lay_287 : decode cL_lay 287 = .ok (.iconst 3, 1) := by decide +kernel
theorem dL_lay_288 : decode cL_lay 288 = .ok (.if_icmp .ne 7, 3) := by decide +kernel
theorem dL_lay_291 : decode cL_lay 291 = .ok (.iconst 1, 1) := by decide +kernel
theorem dL_lay_292 : decode cL_lay 292 = .ok (.goto 4, 3) := by decide +kernel
theorem dL_lay_295 : decode cL_lay 295 = .ok (.iconst 0, 1) := by decide +kernel
theorem dL_lay_296 : decode cL_lay 296 = .ok (.iadd, 1) := by decide +kernel
theorem dL_lay_297 : decode cL_lay 297 = .ok (.istore 8, 2) := by decide +kernel
theorem dL_lay_299 : decode cL_lay 299 = .ok (.iload 13, 2) := by decide +kernel
theorem dL_lay_301 : decode cL_lay 301 = .ok (.ifCond .ne 8, 3) := by decide +kernel
theorem dL_lay_304 : decode cL_lay 304 = .ok (.bipush 46, 2) := by decide +kernel
theorem dL_lay_306 : decode cL_lay 306 = .ok (.goto 49, 3) := by decide +kernel
theorem dL_lay_309 : decode cL_lay 309 = .ok (.iload 13, 2) := by decide +kernel
theorem dL_lay_311 : decode cL_lay 311 = .ok (.iconst 1, 1) := by decide +kernel
theorem dL_lay_312 : decode cL_lay 312 = .ok (.if_icmp .ne 8, 3) := by decide +kernel
theorem dL_lay_315 : decode cL_lay 315 = .ok (.bipush 35, 2) := by decide +kernel
theorem dL_lay_317 : decode cL_lay 317 = .ok (.goto 38, 3) := by decide +kernel
theorem dL_lay_320 : decode cL_lay 320 = .ok (.iload 13, 2) := by decide +kernel
theorem dL_lay_322 : decode cL_lay 322 = .ok (.iconst 2, 1) := by decide +kernel
theorem dL_lay_323 : decode cL_lay 323 = .ok (.if_icmp .ne 8, 3) := by decide +kernel
theorem dL_lay_326 : decode cL_lay 326 = .ok (.bipush 115, 2) := by decide +kernel
theorem dL_lay_328 : decode cL_lay 328 = .ok (.goto 27, 3) := by decide +kernel
theorem dL_lay_331 : decode cL_lay 331 = .ok (.iload 13, 2) := by decide +kernel
theorem dL_lay_333 : decode cL_lay 333 = .ok (.iconst 3, 1) := by decide +kernel
theorem dL_lay_334 : decode cL_lay 334 = .ok (.if_icmp .ne 8, 3) := by decide +kernel
theorem dL_lay_337 : decode cL_lay 337 = .ok (.bipush 99, 2) := by decide +kernel
theorem dL_lay_339 : decode cL_lay 339 = .ok (.goto 16, 3) := by decide +kernel
theorem dL_lay_342 : decode cL_lay 342 = .ok (.iload 13, 2) := by decide +kernel
theorem dL_lay_344 : decode cL_lay 344 = .ok (.iconst 4, 1) := by decide +kernel
theorem dL_lay_345 : decode cL_lay 345 = .ok (.if_icmp .ne 8, 3) := by decide +kernel
theorem dL_lay_348 : decode cL_lay 348 = .ok (.bipush 97, 2) := by decide +kernel
theorem dL_lay_350 : decode cL_lay 350 = .ok (.goto 5, 3) := by decide +kernel
theorem dL_lay_353 : decode cL_lay 353 = .ok (.bipush 98, 2) := by decide +kernel
theorem dL_lay_355 : decode cL_lay 355 = .ok (.istore 15, 2) := by decide +kernel
theorem dL_lay_357 : decode cL_lay 357 = .ok (.iload 14, 2) := by decide +kernel
theorem dL_lay_359 : decode cL_lay 359 = .ok (.ifCond .eq 60, 3) := by decide +kernel
theorem dL_lay_362 : decode cL_lay 362 = .ok (.aload_n 1, 1) := by decide +kernel
theorem dL_lay_363 : decode cL_lay 363 = .ok (.iconst 4, 1) := by decide +kernel
theorem dL_lay_364 : decode cL_lay 364 = .ok (.aload_n 1, 1) := by decide +kernel
theorem dL_lay_365 : decode cL_lay 365 = .ok (.iconst 2, 1) := by decide +kernel
theorem dL_lay_366 : decode cL_lay 366 = .ok (.iaload, 1) := by decide +kernel
theorem dL_lay_367 : decode cL_lay 367 = .ok (.iadd, 1) := by decide +kernel
theorem dL_lay_368 : decode cL_lay 368 = .ok (.iload 12, 2) := by decide +kernel
theorem dL_lay_370 : decode cL_lay 370 = .ok (.iconst 3, 1) := by decide +kernel
theorem dL_lay_371 : decode cL_lay 371 = .ok (.irem, 1) := by decide +kernel
theorem dL_lay_372 : decode cL_lay 372 = .ok (.iastore, 1) := by decide +kernel
theorem dL_lay_373 : decode cL_lay 373 = .ok (.aload_n 1, 1) := by decide +kernel
theorem dL_lay_374 : decode cL_lay 374 = .ok (.bipush 10, 2) := by decide +kernel
theorem dL_lay_376 : decode cL_lay 376 = .ok (.aload_n 1, 1) := by decide +kernel
theorem dL_lay_377 : decode cL_lay 377 = .ok (.iconst 2, 1) := by decide +kernel
theorem dL_lay_378 : decode cL_lay 378 = .ok (.iaload, 1) := by decide +kernel
theorem dL_lay_379 : decode cL_lay 379 = .ok (.iadd, 1) := by decide +kernel
theorem dL_lay_380 : decode cL_lay 380 = .ok (.iload 11, 2) := by decide +kernel
theorem dL_lay_382 : decode cL_lay 382 = .ok (.iastore, 1) := by decide +kernel
theorem dL_lay_383 : decode cL_lay 383 = .ok (.aload_n 1, 1) := by decide +kernel
theorem dL_lay_384 : decode cL_lay 384 = .ok (.iconst 2, 1) := by decide +kernel
theorem dL_lay_385 : decode cL_lay 385 = .ok (.dup2, 1) := by decide +kernel
theorem dL_lay_386 : decode cL_lay 386 = .ok (.iaload, 1) := by decide +kernel
theorem dL_lay_387 : decode cL_lay 387 = .ok (.iconst 1, 1) := by decide +kernel
theorem dL_lay_388 : decode cL_lay 388 = .ok (.iadd, 1) := by decide +kernel
theorem dL_lay_389 : decode cL_lay 389 = .ok (.iastore, 1) := by decide +kernel
theorem dL_lay_390 : decode cL_lay 390 = .ok (.iload 12, 2) := by decide +kernel
theorem dL_lay_392 : decode cL_lay 392 = .ok (.iconst 3, 1) := by decide +kernel
theorem dL_lay_393 : decode cL_lay 393 = .ok (.irem, 1) := by decide +kernel
theorem dL_lay_394 : decode cL_lay 394 = .ok (.ifCond .ne 8, 3) := by decide +kernel
theorem dL_lay_397 : decode cL_lay 397 = .ok (.bipush 111, 2) := by decide +kernel
theorem dL_lay_399 : decode cL_lay 399 = .ok (.goto 18, 3) := by decide +kernel
theorem dL_lay_402 : decode cL_lay 402 = .ok (.iload 12, 2) := by decide +kernel
theorem dL_lay_404 : decode cL_lay 404 = .ok (.iconst 3, 1) := by decide +kernel
theorem dL_lay_405 : decode cL_lay 405 = .ok (.irem, 1) := by decide +kernel
theorem dL_lay_406 : decode cL_lay 406 = .ok (.iconst 1, 1) := by decide +kernel
theorem dL_lay_407 : decode cL_lay 407 = .ok (.if_icmp .ne 8, 3) := by decide +kernel
theorem dL_lay_410 : decode cL_lay 410 = .ok (.bipush 108, 2) := by decide +kernel
theorem dL_lay_412 : decode cL_lay 412 = .ok (.goto 5, 3) := by decide +kernel
theorem dL_lay_415 : decode cL_lay 415 = .ok (.bipush 100, 2) := by decide +kernel
theorem dL_lay_417 : decode cL_lay 417 = .ok (.istore 15, 2) := by decide +kernel
theorem dL_lay_419 : decode cL_lay 419 = .ok (.iload 9, 2) := by decide +kernel
theorem dL_lay_421 : decode cL_lay 421 = .ok (.ifCond .eq 20, 3) := by decide +kernel
theorem dL_lay_424 : decode cL_lay 424 = .ok (.aload_n 0, 1) := by decide +kernel
theorem dL_lay_425 : decode cL_lay 425 = .ok (.iconst 0, 1) := by decide +kernel
theorem dL_lay_426 : decode cL_lay 426 = .ok (.iload 10, 2) := by decide +kernel
theorem dL_lay_428 : decode cL_lay 428 = .ok (.iload 15, 2) := by decide +kernel
theorem dL_lay_430 : decode cL_lay 430 = .ok (.invokevirtual 19, 3) := by decide +kernel
theorem dL_lay_433 : decode cL_lay 433 = .ok (.iconst 1, 1) := by decide +kernel
theorem dL_lay_434 : decode cL_lay 434 = .ok (.if_icmp .ne 7, 3) := by decide +kernel
theorem dL_lay_437 : decode cL_lay 437 = .ok (.iconst 1, 1) := by decide +kernel
theorem dL_lay_438 : decode cL_lay 438 = .ok (.goto 4, 3) := by decide +kernel
theorem dL_lay_441 : decode cL_lay 441 = .ok (.iconst 0, 1) := by decide +kernel
theorem dL_lay_442 : decode cL_lay 442 = .ok (.istore 9, 2) := by decide +kernel
theorem dL_lay_444 : decode cL_lay 444 = .ok (.iinc 10 1, 3) := by decide +kernel
theorem dL_lay_447 : decode cL_lay 447 = .ok (.iinc 11 1, 3) := by decide +kernel
theorem dL_lay_450 : decode cL_lay 450 = .ok (.goto (-348), 3) := by decide +kernel
theorem dL_lay_453 : decode cL_lay 453 = .ok (.aload_n 1, 1) := by decide +kernel
theorem dL_lay_454 : decode cL_lay 454 = .ok (.bipush 20, 2) := by decide +kernel
theorem dL_lay_456 : decode cL_lay 456 = .ok (.iload 10, 2) := by decide +kernel
theorem dL_lay_458 : decode cL_lay 458 = .ok (.iastore, 1) := by decide +kernel
theorem dL_lay_459 : decode cL_lay 459 = .ok (.iload 9, 2) := by decide +kernel
theorem dL_lay_461 : decode cL_lay 461 = .ok (.ifCond .eq 15, 3) := by decide +kernel
theorem dL_lay_464 : decode cL_lay 464 = .ok (.aload_n 0, 1) := by decide +kernel
theorem dL_lay_465 : decode cL_lay 465 = .ok (.iconst 0, 1) := by decide +kernel
theorem dL_lay_466 : decode cL_lay 466 = .ok (.iconst 0, 1) := by decide +kernel
theorem dL_lay_467 : decode cL_lay 467 = .ok (.iconst 0, 1) := by decide +kernel
theorem dL_lay_468 : decode cL_lay 468 = .ok (.iload 10, 2) := by decide +kernel
theorem dL_lay_470 : decode cL_lay 470 = .ok (.invokevirtual 25, 3) := by decide +kernel
theorem dL_lay_473 : decode cL_lay 473 = .ok (.goto 6, 3) := by decide +kernel
theorem dL_lay_476 : decode cL_lay 476 = .ok (.sipush (-999), 3) := by decide +kernel
theorem dL_lay_479 : decode cL_lay 479 = .ok (.ireturn, 1) := by decide +kernel
theorem dL_begun_0 : decode cL_begun 0 = .ok (.bipush 6, 2) := by decide +kernel
theorem dL_begun_2 : decode cL_begun 2 = .ok (.newarray .int, 2) := by decide +kernel
theorem dL_begun_4 : decode cL_begun 4 = .ok (.astore_n 1, 1) := by decide +kernel
theorem dL_begun_5 : decode cL_begun 5 = .ok (.iconst 0, 1) := by decide +kernel
theorem dL_begun_6 : decode cL_begun 6 = .ok (.istore_n 2, 1) := by decide +kernel
theorem dL_begun_7 : decode cL_begun 7 = .ok (.iload_n 2, 1) := by decide +kernel
theorem dL_begun_8 : decode cL_begun 8 = .ok (.bipush 6, 2) := by decide +kernel
theorem dL_begun_10 : decode cL_begun 10 = .ok (.if_icmp .ge 30, 3) := by decide +kernel
theorem dL_begun_13 : decode cL_begun 13 = .ok (.aload_n 1, 1) := by decide +kernel
theorem dL_begun_14 : decode cL_begun 14 = .ok (.iload_n 2, 1) := by decide +kernel
theorem dL_begun_15 : decode cL_begun 15 = .ok (.iload_n 2, 1) := by decide +kernel
theorem dL_begun_16 : decode cL_begun 16 = .ok (.aload_n 0, 1) := by decide +kernel
theorem dL_begun_17 : decode cL_begun 17 = .ok (.iconst 2, 1) := by decide +kernel
theorem dL_begun_18 : decode cL_begun 18 = .ok (.iaload, 1) := by decide +kernel
theorem dL_begun_19 : decode cL_begun 19 = .ok (.if_icmp .ge 12, 3) := by decide +kernel
theorem dL_begun_22 : decode cL_begun 22 = .ok (.aload_n 0, 1) := by decide +kernel
theorem dL_begun_23 : decode cL_begun 23 = .ok (.bipush 10, 2) := by decide +kernel
theorem dL_begun_25 : decode cL_begun 25 = .ok (.iload_n 2, 1) := by decide +kernel
theorem dL_begun_26 : decode cL_begun 26 = .ok (.iadd, 1) := by decide +kernel
theorem dL_begun_27 : decode cL_begun 27 = .ok (.iaload, 1) := by decide +kernel
theorem dL_begun_28 : decode cL_begun 28 = .ok (.goto 5, 3) := by decide +kernel
theorem dL_begun_31 : decode cL_begun 31 = .ok (.bipush (-6), 2) := by decide +kernel
theorem dL_begun_33 : decode cL_begun 33 = .ok (.iastore, 1) := by decide +kernel
theorem dL_begun_34 : decode cL_begun 34 = .ok (.iinc 2 1, 3) := by decide +kernel
theorem dL_begun_37 : decode cL_begun 37 = .ok (.goto (-30), 3) := by decide +kernel
theorem dL_begun_40 : decode cL_begun 40 = .ok (.aload_n 1, 1) := by decide +kernel
theorem dL_begun_41 : decode cL_begun 41 = .ok (.areturn, 1) := by decide +kernel
theorem dL_copied_0 : decode cL_copied 0 = .ok (.bipush 6, 2) := by decide +kernel
theorem dL_copied_2 : decode cL_copied 2 = .ok (.newarray .int, 2) := by decide +kernel
theorem dL_copied_4 : decode cL_copied 4 = .ok (.astore_n 1, 1) := by decide +kernel
theorem dL_copied_5 : decode cL_copied 5 = .ok (.iconst 0, 1) := by decide +kernel
theorem dL_copied_6 : decode cL_copied 6 = .ok (.istore_n 2, 1) := by decide +kernel
theorem dL_copied_7 : decode cL_copied 7 = .ok (.iload_n 2, 1) := by decide +kernel
theorem dL_copied_8 : decode cL_copied 8 = .ok (.bipush 6, 2) := by decide +kernel
theorem dL_copied_10 : decode cL_copied 10 = .ok (.if_icmp .ge 15, 3) := by decide +kernel
theorem dL_copied_13 : decode cL_copied 13 = .ok (.aload_n 1, 1) := by decide +kernel
theorem dL_copied_14 : decode cL_copied 14 = .ok (.iload_n 2, 1) := by decide +kernel
theorem dL_copied_15 : decode cL_copied 15 = .ok (.aload_n 0, 1) := by decide +kernel
theorem dL_copied_16 : decode cL_copied 16 = .ok (.iload_n 2, 1) := by decide +kernel
theorem dL_copied_17 : decode cL_copied 17 = .ok (.iaload, 1) := by decide +kernel
theorem dL_copied_18 : decode cL_copied 18 = .ok (.iastore, 1) := by decide +kernel
theorem dL_copied_19 : decode cL_copied 19 = .ok (.iinc 2 1, 3) := by decide +kernel
theorem dL_copied_22 : decode cL_copied 22 = .ok (.goto (-15), 3) := by decide +kernel
theorem dL_copied_25 : decode cL_copied 25 = .ok (.aload_n 1, 1) := by decide +kernel
theorem dL_copied_26 : decode cL_copied 26 = .ok (.areturn, 1) := by decide +kernel
theorem dL_who_0 : decode cL_who 0 = .ok (.iconst 0, 1) := by decide +kernel
theorem dL_who_1 : decode cL_who 1 = .ok (.istore_n 2, 1) := by decide +kernel
theorem dL_who_2 : decode cL_who 2 = .ok (.iload_n 2, 1) := by decide +kernel
theorem dL_who_3 : decode cL_who 3 = .ok (.bipush 6, 2) := by decide +kernel
theorem dL_who_5 : decode cL_who 5 = .ok (.if_icmp .ge 18, 3) := by decide +kernel
theorem dL_who_8 : decode cL_who 8 = .ok (.aload_n 0, 1) := by decide +kernel
theorem dL_who_9 : decode cL_who 9 = .ok (.iload_n 2, 1) := by decide +kernel
theorem dL_who_10 : decode cL_who 10 = .ok (.iaload, 1) := by decide +kernel
theorem dL_who_11 : decode cL_who 11 = .ok (.iload_n 1, 1) := by decide +kernel
theorem dL_who_12 : decode cL_who 12 = .ok (.if_icmp .ne 5, 3) := by decide +kernel
theorem dL_who_15 : decode cL_who 15 = .ok (.iload_n 2, 1) := by decide +kernel
theorem dL_who_16 : decode cL_who 16 = .ok (.ireturn, 1) := by decide +kernel
theorem dL_who_17 : decode cL_who 17 = .ok (.iinc 2 1, 3) := by decide +kernel
theorem dL_who_20 : decode cL_who 20 = .ok (.goto (-18), 3) := by decide +kernel
theorem dL_who_23 : decode cL_who 23 = .ok (.iconst (-1), 1) := by decide +kernel
theorem dL_who_24 : decode cL_who 24 = .ok (.ireturn, 1) := by decide +kernel
theorem dL_push_0 : decode cL_push 0 = .ok (.aload_n 3, 1) := by decide +kernel
theorem dL_push_1 : decode cL_push 1 = .ok (.iconst 1, 1) := by decide +kernel
theorem dL_push_2 : decode cL_push 2 = .ok (.lconst 0, 1) := by decide +kernel
theorem dL_push_3 : decode cL_push 3 = .ok (.lastore, 1) := by decide +kernel
theorem dL_push_4 : decode cL_push 4 = .ok (.iconst 0, 1) := by decide +kernel
theorem dL_push_5 : decode cL_push 5 = .ok (.istore 6, 2) := by decide +kernel
theorem dL_push_7 : decode cL_push 7 = .ok (.iload 4, 2) := by decide +kernel
theorem dL_push_9 : decode cL_push 9 = .ok (.istore 7, 2) := by decide +kernel
theorem dL_push_11 : decode cL_push 11 = .ok (.aload_n 2, 1) := by decide +kernel
theorem dL_push_12 : decode cL_push 12 = .ok (.iload 4, 2) := by decide +kernel
theorem dL_push_14 : decode cL_push 14 = .ok (.iaload, 1) := by decide +kernel
theorem dL_push_15 : decode cL_push 15 = .ok (.ifCond .lt 7, 3) := by decide +kernel
theorem dL_push_18 : decode cL_push 18 = .ok (.iconst 1, 1) := by decide +kernel
theorem dL_push_19 : decode cL_push 19 = .ok (.goto 4, 3) := by decide +kernel
theorem dL_push_22 : decode cL_push 22 = .ok (.iconst 0, 1) := by decide +kernel
theorem dL_push_23 : decode cL_push 23 = .ok (.istore 8, 2) := by decide +kernel
theorem dL_push_25 : decode cL_push 25 = .ok (.iload 8, 2) := by decide +kernel
theorem dL_push_27 : decode cL_push 27 = .ok (.ifCond .eq 339, 3) := by decide +kernel
theorem dL_push_30 : decode cL_push 30 = .ok (.aload_n 2, 1) := by decide +kernel
theorem dL_push_31 : decode cL_push 31 = .ok (.iload 7, 2) := by decide +kernel
theorem dL_push_33 : decode cL_push 33 = .ok (.iaload, 1) := by decide +kernel
theorem dL_push_34 : decode cL_push 34 = .ok (.aload_n 0, 1) := by decide +kernel
theorem dL_push_35 : decode cL_push 35 = .ok (.iconst 1, 1) := by decide +kernel
theorem dL_push_36 : decode cL_push 36 = .ok (.iaload, 1) := by decide +kernel
theorem dL_push_37 : decode cL_push 37 = .ok (.idiv, 1) := by decide +kernel
theorem dL_push_38 : decode cL_push 38 = .ok (.iload 5, 2) := by decide +kernel
theorem dL_push_40 : decode cL_push 40 = .ok (.iconst 2, 1) := by decide +kernel
theorem dL_push_41 : decode cL_push 41 = .ok (.if_icmp .ne 7, 3) := by decide +kernel
theorem dL_push_44 : decode cL_push 44 = .ok (.iconst 1, 1) := by decide +kernel
theorem dL_push_45 : decode cL_push 45 = .ok (.goto 13, 3) := by decide +kernel
theorem dL_push_48 : decode cL_push 48 = .ok (.iload 5, 2) := by decide +kernel
theorem dL_push_50 : decode cL_push 50 = .ok (.ifCond .ne 7, 3) := by decide +kernel
theorem dL_push_53 : decode cL_push 53 = .ok (.iconst (-1), 1) := by decide +kernel
theorem dL_push_54 : decode cL_push 54 = .ok (.goto 4, 3) := by decide +kernel
theorem dL_push_57 : decode cL_push 57 = .ok (.iconst 0, 1) := by decide +kernel
theorem dL_push_58 : decode cL_push 58 = .ok (.iadd, 1) := by decide +kernel
theorem dL_push_59 : decode cL_push 59 = .ok (.istore 9, 2) := by decide +kernel
theorem dL_push_61 : decode cL_push 61 = .ok (.aload_n 2, 1) := by decide +kernel
theorem dL_push_62 : decode cL_push 62 = .ok (.iload 7, 2) := by decide +kernel
theorem dL_push_64 : decode cL_push 64 = .ok (.iaload, 1) := by decide +kernel
theorem dL_push_65 : decode cL_push 65 = .ok (.aload_n 0, 1) := by decide +kernel
theorem dL_push_66 : decode cL_push 66 = .ok (.iconst 1, 1) := by decide +kernel
theorem dL_push_67 : decode cL_push 67 = .ok (.iaload, 1) := by decide +kernel
theorem dL_push_68 : decode cL_push 68 = .ok (.irem, 1) := by decide +kernel
theorem dL_push_69 : decode cL_push 69 = .ok (.iload 5, 2) := by decide +kernel
theorem dL_push_71 : decode cL_push 71 = .ok (.iconst 1, 1) := by decide +kernel
theorem dL_push_72 : decode cL_push 72 = .ok (.if_icmp .ne 7, 3) := by decide +kernel
theorem dL_push_75 : decode cL_push 75 = .ok (.iconst 1, 1) := by decide +kernel
theorem dL_push_76 : decode cL_push 76 = .ok (.goto 14, 3) := by decide +kernel
theorem dL_push_79 : decode cL_push 79 = .ok (.iload 5, 2) := by decide +kernel
theorem dL_push_81 : decode cL_push 81 = .ok (.iconst 3, 1) := by decide +kernel
theorem dL_push_82 : decode cL_push 82 = .ok (.if_icmp .ne 7, 3) := by decide +kernel
theorem dL_push_85 : decode cL_push 85 = .ok (.iconst (-1), 1) := by decide +kernel
theorem dL_push_86 : decode cL_push 86 = .ok (.goto 4, 3) := by decide +kernel
theorem dL_push_89 : decode cL_push 89 = .ok (.iconst 0, 1) := by decide +kernel
theorem dL_push_90 : decode cL_push 90 = .ok (.iadd, 1) := by decide +kernel
theorem dL_push_91 : decode cL_push 91 = .ok (.istore 10, 2) := by decide +kernel
theorem dL_push_93 : decode cL_push 93 = .ok (.iload 9, 2) := by decide +kernel
theorem dL_push_95 : decode cL_push 95 = .ok (.aload_n 0, 1) := by decide +kernel
theorem dL_push_96 : decode cL_push 96 = .ok (.iconst 1, 1) := by decide +kernel
theorem dL_push_97 : decode cL_push 97 = .ok (.iaload, 1) := by decide +kernel
theorem dL_push_98 : decode cL_push 98 = .ok (.imul, 1) := by decide +kernel
theorem dL_push_99 : decode cL_push 99 = .ok (.iload 10, 2) := by decide +kernel
theorem dL_push_101 : decode cL_push 101 = .ok (.iadd, 1) := by decide +kernel
theorem dL_push_102 : decode cL_push 102 = .ok (.istore 11, 2) := by decide +kernel
theorem dL_push_104 : decode cL_push 104 = .ok (.iload 9, 2) := by decide +kernel
theorem dL_push_106 : decode cL_push 106 = .ok (.ifCond .lt 32, 3) := by decide +kernel
theorem dL_push_109 : decode cL_push 109 = .ok (.iload 9, 2) := by decide +kernel
theorem dL_push_111 : decode cL_push 111 = .ok (.aload_n 0, 1) := by decide +kernel
theorem dL_push_112 : decode cL_push 112 = .ok (.iconst 0, 1) := by decide +kernel
theorem dL_push_113 : decode cL_push 113 = .ok (.iaload, 1) := by decide +kernel
theorem dL_push_114 : decode cL_push 114 = .ok (.if_icmp .eq 24, 3) := by decide +kernel
theorem dL_push_117 : decode cL_push 117 = .ok (.iload 10, 2) := by decide +kernel
theorem dL_push_119 : decode cL_push 119 = .ok (.ifCond .lt 19, 3) := by decide +kernel
theorem dL_push_122 : decode cL_push 122 = .ok (.iload 10, 2) := by decide +kernel
theorem dL_push_124 : decode cL_push 124 = .ok (.aload_n 0, 1) := by decide +kernel
theorem dL_push_125 : decode cL_push 125 = .ok (.iconst 1, 1) := by decide +kernel
theorem dL_push_126 : decode cL_push 126 = .ok (.iaload, 1) := by decide +kernel
theorem dL_push_127 : decode cL_push 127 = .ok (.if_icmp .eq 11, 3) := by decide +kernel
theorem dL_push_130 : decode cL_push 130 = .ok (.aload_n 1, 1) := by decide +kernel
theorem dL_push_131 : decode cL_push 131 = .ok (.iload 11, 2) := by decide +kernel
theorem dL_push_133 : decode cL_push 133 = .ok (.iaload, 1) := by decide +kernel
theorem dL_push_134 : decode cL_push 134 = .ok (.iconst 1, 1) := by decide +kernel
theorem dL_push_135 : decode cL_push 135 = .ok (.if_icmp .ne 9, 3) := by decide +kernel
theorem dL_push_138 : decode cL_push 138 = .ok (.iconst 0, 1) := by decide +kernel
theorem dL_push_139 : decode cL_push 139 = .ok (.istore 8, 2) := by decide +kernel
theorem dL_push_141 : decode cL_push 141 = .ok (.goto 222, 3) := by decide +kernel
theorem dL_push_144 : decode cL_push 144 = .ok (.aload_n 2, 1) := by decide +kernel
theorem dL_push_145 : decode cL_push 145 = .ok (.iload 11, 2) := by decide +kernel
theorem dL_push_147 : decode cL_push 147 = .ok (.invokestatic 29, 3) := by decide +kernel
theorem dL_push_150 : decode cL_push 150 = .ok (.ifCond .lt 40, 3) := by decide +kernel
theorem dL_push_153 : decode cL_push 153 = .ok (.aload_n 0, 1) := by decide +kernel
theorem dL_push_154 : decode cL_push 154 = .ok (.iconst 4, 1) := by decide +kernel
theorem dL_push_155 : decode cL_push 155 = .ok (.iload 7, 2) := by decide +kernel
theorem dL_push_157 : decode cL_push 157 = .ok (.iadd, 1) := by decide +kernel
theorem dL_push_158 : decode cL_push 158 = .ok (.iaload, 1) := by decide +kernel
theorem dL_push_159 : decode cL_push 159 = .ok (.ifCond .le 7, 3) := by decide +kernel
theorem dL_push_162 : decode cL_push 162 = .ok (.iconst 1, 1) := by decide +kernel
theorem dL_push_163 : decode cL_push 163 = .ok (.goto 4, 3) := by decide +kernel
theorem dL_push_166 : decode cL_push 166 = .ok (.iconst 0, 1) := by decide +kernel
theorem dL_push_167 : decode cL_push 167 = .ok (.istore 8, 2) := by decide +kernel
theorem dL_push_169 : decode cL_push 169 = .ok (.iload 8, 2) := by decide +kernel
theorem dL_push_171 : decode cL_push 171 = .ok (.ifCond .eq 12, 3) := by decide +kernel
theorem dL_push_174 : decode cL_push 174 = .ok (.aload_n 2, 1) := by decide +kernel
theorem dL_push_175 : decode cL_push 175 = .ok (.iload 11, 2) := by decide +kernel
theorem dL_push_177 : decode cL_push 177 = .ok (.invokestatic 29, 3) := by decide +kernel
theorem dL_push_180 : decode cL_push 180 = .ok (.goto 5, 3) := by decide +kernel
theorem dL_push_183 : decode cL_push 183 = .ok (.iload 7, 2) := by decide +kernel
theorem dL_push_185 : decode cL_push 185 = .ok (.istore 7, 2) := by decide +kernel
theorem dL_push_187 : decode cL_push 187 = .ok (.goto 176, 3) := by decide +kernel
theorem dL_push_190 : decode cL_push 190 = .ok (.aload_n 3, 1) := by decide +kernel
theorem dL_push_191 : decode cL_push 191 = .ok (.iconst 1, 1) := by decide +kernel
theorem dL_push_192 : decode cL_push 192 = .ok (.dup2, 1) := by decide +kernel
theorem dL_push_193 : decode cL_push 193 = .ok (.laload, 1) := by decide +kernel
theorem dL_push_194 : decode cL_push 194 = .ok (.lconst 1, 1) := by decide +kernel
theorem dL_push_195 : decode cL_push 195 = .ok (.iload 11, 2) := by decide +kernel
theorem dL_push_197 : decode cL_push 197 = .ok (.lshl, 1) := by decide +kernel
theorem dL_push_198 : decode cL_push 198 = .ok (.lor, 1) := by decide +kernel
theorem dL_push_199 : decode cL_push 199 = .ok (.lastore, 1) := by decide +kernel
theorem dL_push_200 : decode cL_push 200 = .ok (.aload_n 1, 1) := by decide +kernel
theorem dL_push_201 : decode cL_push 201 = .ok (.iload 11, 2) := by decide +kernel
theorem dL_push_203 : decode cL_push 203 = .ok (.iaload, 1) := by decide +kernel
theorem dL_push_204 : decode cL_push 204 = .ok (.iconst 3, 1) := by decide +kernel
theorem dL_push_205 : decode cL_push 205 = .ok (.if_icmp .ne 20, 3) := by decide +kernel
theorem dL_push_208 : decode cL_push 208 = .ok (.aload_n 3, 1) := by decide +kernel
theorem dL_push_209 : decode cL_push 209 = .ok (.iconst 0, 1) := by decide +kernel
theorem dL_push_210 : decode cL_push 210 = .ok (.laload, 1) := by decide +kernel
theorem dL_push_211 : decode cL_push 211 = .ok (.iload 11, 2) := by decide +kernel
theorem dL_push_213 : decode cL_push 213 = .ok (.lshr, 1) := by decide +kernel
theorem dL_push_214 : decode cL_push 214 = .ok (.lconst 1, 1) := by decide +kernel
theorem dL_push_215 : decode cL_push 215 = .ok (.land, 1) := by decide +kernel
theorem dL_push_216 : decode cL_push 216 = .ok (.lconst 0, 1) := by decide +kernel
theorem dL_push_217 : decode cL_push 217 = .ok (.lcmp, 1) := by decide +kernel
theorem dL_push_218 : decode cL_push 218 = .ok (.ifCond .ne 7, 3) := by decide +kernel
theorem dL_push_221 : decode cL_push 221 = .ok (.iconst 1, 1) := by decide +kernel
theorem dL_push_222 : decode cL_push 222 = .ok (.goto 4, 3) := by decide +kernel
theorem dL_push_225 : decode cL_push 225 = .ok (.iconst 0, 1) := by decide +kernel
theorem dL_push_226 : decode cL_push 226 = .ok (.istore 12, 2) := by decide +kernel
theorem dL_push_228 : decode cL_push 228 = .ok (.aload_n 1, 1) := by decide +kernel
theorem dL_push_229 : decode cL_push 229 = .ok (.iload 11, 2) := by decide +kernel
theorem dL_push_231 : decode cL_push 231 = .ok (.iaload, 1) := by decide +kernel
theorem dL_push_232 : decode cL_push 232 = .ok (.iconst 2, 1) := by decide +kernel
theorem dL_push_233 : decode cL_push 233 = .ok (.if_icmp .eq 16, 3) := by decide +kernel
theorem dL_push_236 : decode cL_push 236 = .ok (.aload_n 3, 1) := by decide +kernel
theorem dL_push_237 : decode cL_push 237 = .ok (.iconst 2, 1) := by decide +kernel
theorem dL_push_238 : decode cL_push 238 = .ok (.laload, 1) := by decide +kernel
theorem dL_push_239 : decode cL_push 239 = .ok (.iload 11, 2) := by decide +kernel
theorem dL_push_241 : decode cL_push 241 = .ok (.lshr, 1) := by decide +kernel
theorem dL_push_242 : decode cL_push 242 = .ok (.lconst 1, 1) := by decide +kernel
theorem dL_push_243 : decode cL_push 243 = .ok (.land, 1) := by decide +kernel
theorem dL_push_244 : decode cL_push 244 = .ok (.lconst 1, 1) := by decide +kernel
theorem dL_push_245 : decode cL_push 245 = .ok (.lcmp, 1) := by decide +kernel
theorem dL_push_246 : decode cL_push 246 = .ok (.ifCond .ne 7, 3) := by decide +kernel
theorem dL_push_249 : decode cL_push 249 = .ok (.iconst 1, 1) := by decide +kernel
theorem dL_push_250 : decode cL_push 250 = .ok (.goto 4, 3) := by decide +kernel
theorem dL_push_253 : decode cL_push 253 = .ok (.iconst 0, 1) := by decide +kernel
theorem dL_push_254 : decode cL_push 254 = .ok (.istore 13, 2) := by decide +kernel
theorem dL_push_256 : decode cL_push 256 = .ok (.aload_n 2, 1) := by decide +kernel
theorem dL_push_257 : decode cL_push 257 = .ok (.iload 7, 2) := by decide +kernel
theorem dL_push_259 : decode cL_push 259 = .ok (.iload 12, 2) := by decide +kernel
theorem dL_push_261 : decode cL_push 261 = .ok (.ifCond .eq 8, 3) := by decide +kernel
theorem dL_push_264 : decode cL_push 264 = .ok (.bipush (-6), 2) := by decide +kernel
theorem dL_push_266 : decode cL_push 266 = .ok (.goto 23, 3) := by decide +kernel
theorem dL_push_269 : decode cL_push 269 = .ok (.aload_n 1, 1) := by decide +kernel
theorem dL_push_270 : decode cL_push 270 = .ok (.iload 11, 2) := by decide +kernel
theorem dL_push_272 : decode cL_push 272 = .ok (.iaload, 1) := by decide +kernel
theorem dL_push_273 : decode cL_push 273 = .ok (.iconst 3, 1) := by decide +kernel
theorem dL_push_274 : decode cL_push 274 = .ok (.if_icmp .le 13, 3) := by decide +kernel
theorem dL_push_277 : decode cL_push 277 = .ok (.bipush (-16), 2) := by decide +kernel
theorem dL_push_279 : decode cL_push 279 = .ok (.aload_n 1, 1) := by decide +kernel
theorem dL_push_280 : decode cL_push 280 = .ok (.iload 11, 2) := by decide +kernel
theorem dL_push_282 : decode cL_push 282 = .ok (.iaload, 1) := by decide +kernel
theorem dL_push_283 : decode cL_push 283 = .ok (.isub, 1) := by decide +kernel
theorem dL_push_284 : decode cL_push 284 = .ok (.goto 5, 3) := by decide +kernel
theorem dL_push_287 : decode cL_push 287 = .ok (.iload 11, 2) := by decide +kernel
theorem dL_push_289 : decode cL_push 289 = .ok (.iastore, 1) := by decide +kernel
theorem dL_push_290 : decode cL_push 290 = .ok (.aload_n 3, 1) := by decide +kernel
theorem dL_push_291 : decode cL_push 291 = .ok (.iconst 0, 1) := by decide +kernel
theorem dL_push_292 : decode cL_push 292 = .ok (.dup2, 1) := by decide +kernel
theorem dL_push_293 : decode cL_push 293 = .ok (.laload, 1) := by decide +kernel
theorem dL_push_294 : decode cL_push 294 = .ok (.iload 12, 2) := by decide +kernel
theorem dL_push_296 : decode cL_push 296 = .ok (.ifCond .eq 10, 3) := by decide +kernel
theorem dL_push_299 : decode cL_push 299 = .ok (.lconst 1, 1) := by decide +kernel
theorem dL_push_300 : decode cL_push 300 = .ok (.iload 11, 2) := by decide +kernel
theorem dL_push_302 : decode cL_push 302 = .ok (.lshl, 1) := by decide +kernel
theorem dL_push_303 : decode cL_push 303 = .ok (.goto 4, 3) := by decide +kernel
theorem dL_push_306 : decode cL_push 306 = .ok (.lconst 0, 1) := by decide +kernel
theorem dL_push_307 : decode cL_push 307 = .ok (.lor, 1) := by decide +kernel
theorem dL_push_308 : decode cL_push 308 = .ok (.lastore, 1) := by decide +kernel
theorem dL_push_309 : decode cL_push 309 = .ok (.iload 6, 2) := by decide +kernel
theorem dL_push_311 : decode cL_push 311 = .ok (.aload_n 1, 1) := by decide +kernel
theorem dL_push_312 : decode cL_push 312 = .ok (.iload 11, 2) := by decide +kernel
theorem dL_push_314 : decode cL_push 314 = .ok (.iaload, 1) := by decide +kernel
theorem dL_push_315 : decode cL_push 315 = .ok (.iconst 3, 1) := by decide +kernel
theorem dL_push_316 : decode cL_push 316 = .ok (.if_icmp .le 14, 3) := by decide +kernel
theorem dL_push_319 : decode cL_push 319 = .ok (.iconst 1, 1) := by decide +kernel
theorem dL_push_320 : decode cL_push 320 = .ok (.aload_n 1, 1) := by decide +kernel
theorem dL_push_321 : decode cL_push 321 = .ok (.iload 11, 2) := by decide +kernel
theorem dL_push_323 : decode cL_push 323 = .ok (.iaload, 1) := by decide +kernel
theorem dL_push_324 : decode cL_push 324 = .ok (.iconst 4, 1) := by decide +kernel
theorem dL_push_325 : decode cL_push 325 = .ok (.isub, 1) := by decide +kernel
theorem dL_push_326 : decode cL_push 326 = .ok (.ishl, 1) := by decide +kernel
theorem dL_push_327 : decode cL_push 327 = .ok (.goto 4, 3) := by decide +kernel
theorem dL_push_330 : decode cL_push 330 = .ok (.iconst 0, 1) := by decide +kernel
theorem dL_push_331 : decode cL_push 331 = .ok (.ior, 1) := by decide +kernel
theorem dL_push_332 : decode cL_push 332 = .ok (.istore 6, 2) := by decide +kernel
theorem dL_push_334 : decode cL_push 334 = .ok (.aload_n 2, 1) := by decide +kernel
theorem dL_push_335 : decode cL_push 335 = .ok (.iload 7, 2) := by decide +kernel
theorem dL_push_337 : decode cL_push 337 = .ok (.iaload, 1) := by decide +kernel
theorem dL_push_338 : decode cL_push 338 = .ok (.ifCond .lt 22, 3) := by decide +kernel
theorem dL_push_341 : decode cL_push 341 = .ok (.iload 13, 2) := by decide +kernel
theorem dL_push_343 : decode cL_push 343 = .ok (.ifCond .eq 13, 3) := by decide +kernel
theorem dL_push_346 : decode cL_push 346 = .ok (.aload_n 0, 1) := by decide +kernel
theorem dL_push_347 : decode cL_push 347 = .ok (.iconst 4, 1) := by decide +kernel
theorem dL_push_348 : decode cL_push 348 = .ok (.iload 7, 2) := by decide +kernel
theorem dL_push_350 : decode cL_push 350 = .ok (.iadd, 1) := by decide +kernel
theorem dL_push_351 : decode cL_push 351 = .ok (.iaload, 1) := by decide +kernel
theorem dL_push_352 : decode cL_push 352 = .ok (.iconst 2, 1) := by decide +kernel
theorem dL_push_353 : decode cL_push 353 = .ok (.if_icmp .ne 7, 3) := by decide +kernel
theorem dL_push_356 : decode cL_push 356 = .ok (.iconst 1, 1) := by decide +kernel
theorem dL_push_357 : decode cL_push 357 = .ok (.goto 4, 3) := by decide +kernel
theorem dL_push_360 : decode cL_push 360 = .ok (.iconst 0, 1) := by decide +kernel
theorem dL_push_361 : decode cL_push 361 = .ok (.istore 8, 2) := by decide +kernel
theorem dL_push_363 : decode cL_push 363 = .ok (.goto (-338), 3) := by decide +kernel
theorem dL_push_366 : decode cL_push 366 = .ok (.aload_n 3, 1) := by decide +kernel
theorem dL_push_367 : decode cL_push 367 = .ok (.iconst 1, 1) := by decide +kernel
theorem dL_push_368 : decode cL_push 368 = .ok (.laload, 1) := by decide +kernel
theorem dL_push_369 : decode cL_push 369 = .ok (.lconst 0, 1) := by decide +kernel
theorem dL_push_370 : decode cL_push 370 = .ok (.lcmp, 1) := by decide +kernel
theorem dL_push_371 : decode cL_push 371 = .ok (.ifCond .ne 7, 3) := by decide +kernel
theorem dL_push_374 : decode cL_push 374 = .ok (.iconst (-1), 1) := by decide +kernel
theorem dL_push_375 : decode cL_push 375 = .ok (.goto 5, 3) := by decide +kernel
theorem dL_push_378 : decode cL_push 378 = .ok (.iload 6, 2) := by decide +kernel
theorem dL_push_380 : decode cL_push 380 = .ok (.ireturn, 1) := by decide +kernel
theorem dL_law_0 : decode cL_law 0 = .ok (.new 20, 3) := by decide +kernel
theorem dL_law_3 : decode cL_law 3 = .ok (.dup, 1) := by decide +kernel
theorem dL_law_4 : decode cL_law 4 = .ok (.invokespecial 32, 3) := by decide +kernel
theorem dL_law_7 : decode cL_law 7 = .ok (.astore_n 1, 1) := by decide +kernel
theorem dL_law_8 : decode cL_law 8 = .ok (.bipush 24, 2) := by decide +kernel
theorem dL_law_10 : decode cL_law 10 = .ok (.newarray .int, 2) := by decide +kernel
theorem dL_law_12 : decode cL_law 12 = .ok (.astore_n 2, 1) := by decide +kernel
theorem dL_law_13 : decode cL_law 13 = .ok (.bipush 36, 2) := by decide +kernel
theorem dL_law_15 : decode cL_law 15 = .ok (.newarray .int, 2) := by decide +kernel
theorem dL_law_17 : decode cL_law 17 = .ok (.astore_n 3, 1) := by decide +kernel
theorem dL_law_18 : decode cL_law 18 = .ok (.aload_n 1, 1) := by decide +kernel
theorem dL_law_19 : decode cL_law 19 = .ok (.iconst 0, 1) := by decide +kernel
theorem dL_law_20 : decode cL_law 20 = .ok (.iconst 0, 1) := by decide +kernel
theorem dL_law_21 : decode cL_law 21 = .ok (.bipush 60, 2) := by decide +kernel
theorem dL_law_23 : decode cL_law 23 = .ok (.invokevirtual 33, 3) := by decide +kernel
theorem dL_law_26 : decode cL_law 26 = .ok (.iconst 1, 1) := by decide +kernel
theorem dL_law_27 : decode cL_law 27 = .ok (.if_icmp .ne 19, 3) := by decide +kernel
theorem dL_law_30 : decode cL_law 30 = .ok (.aload_n 1, 1) := by decide +kernel
theorem dL_law_31 : decode cL_law 31 = .ok (.aload_n 2, 1) := by decide +kernel
theorem dL_law_32 : decode cL_law 32 = .ok (.aload_n 3, 1) := by decide +kernel
theorem dL_law_33 : decode cL_law 33 = .ok (.aload_n 0, 1) := by decide +kernel
theorem dL_law_34 : decode cL_law 34 = .ok (.iconst 0, 1) := by decide +kernel
theorem dL_law_35 : decode cL_law 35 = .ok (.iconst 5, 1) := by decide +kernel
theorem dL_law_36 : decode cL_law 36 = .ok (.iconst 3, 1) := by decide +kernel
theorem dL_law_37 : decode cL_law 37 = .ok (.invokestatic 36, 3) := by decide +kernel
theorem dL_law_40 : decode cL_law 40 = .ok (.aload_n 2, 1) := by decide +kernel
theorem dL_law_41 : decode cL_law 41 = .ok (.iconst 2, 1) := by decide +kernel
theorem dL_law_42 : decode cL_law 42 = .ok (.iaload, 1) := by decide +kernel
theorem dL_law_43 : decode cL_law 43 = .ok (.if_icmp .eq 5, 3) := by decide +kernel
theorem dL_law_46 : decode cL_law 46 = .ok (.iconst 0, 1) := by decide +kernel
theorem dL_law_47 : decode cL_law 47 = .ok (.ireturn, 1) := by decide +kernel
theorem dL_law_48 : decode cL_law 48 = .ok (.iconst 4, 1) := by decide +kernel
theorem dL_law_49 : decode cL_law 49 = .ok (.aload_n 2, 1) := by decide +kernel
theorem dL_law_50 : decode cL_law 50 = .ok (.iconst 2, 1) := by decide +kernel
theorem dL_law_51 : decode cL_law 51 = .ok (.iaload, 1) := by decide +kernel
theorem dL_law_52 : decode cL_law 52 = .ok (.imul, 1) := by decide +kernel
theorem dL_law_53 : decode cL_law 53 = .ok (.istore 4, 2) := by decide +kernel
theorem dL_law_55 : decode cL_law 55 = .ok (.aload_n 2, 1) := by decide +kernel
theorem dL_law_56 : decode cL_law 56 = .ok (.invokestatic 40, 3) := by decide +kernel
theorem dL_law_59 : decode cL_law 59 = .ok (.astore 5, 2) := by decide +kernel
theorem dL_law_61 : decode cL_law 61 = .ok (.iconst 3, 1) := by decide +kernel
theorem dL_law_62 : decode cL_law 62 = .ok (.newarray .long, 2) := by decide +kernel
theorem dL_law_64 : decode cL_law 64 = .ok (.astore 6, 2) := by decide +kernel
theorem dL_law_66 : decode cL_law 66 = .ok (.aload_n 0, 1) := by decide +kernel
theorem dL_law_67 : decode cL_law 67 = .ok (.bipush 7, 2) := by decide +kernel
theorem dL_law_69 : decode cL_law 69 = .ok (.invokestatic 9, 3) := by decide +kernel
theorem dL_law_72 : decode cL_law 72 = .ok (.iconst 3, 1) := by decide +kernel
theorem dL_law_73 : decode cL_law 73 = .ok (.invokestatic 15, 3) := by decide +kernel
theorem dL_law_76 : decode cL_law 76 = .ok (.istore 7, 2) := by decide +kernel
theorem dL_law_78 : decode cL_law 78 = .ok (.iload 7, 2) := by decide +kernel
theorem dL_law_80 : decode cL_law 80 = .ok (.ifCond .le 108, 3) := by decide +kernel
theorem dL_law_83 : decode cL_law 83 = .ok (.iload 4, 2) := by decide +kernel
theorem dL_law_85 : decode cL_law 85 = .ok (.ifCond .le 103, 3) := by decide +kernel
theorem dL_law_88 : decode cL_law 88 = .ok (.aload_n 0, 1) := by decide +kernel
theorem dL_law_89 : decode cL_law 89 = .ok (.bipush 7, 2) := by decide +kernel
theorem dL_law_91 : decode cL_law 91 = .ok (.invokestatic 9, 3) := by decide +kernel
theorem dL_law_94 : decode cL_law 94 = .ok (.iconst 3, 1) := by decide +kernel
theorem dL_law_95 : decode cL_law 95 = .ok (.iload 7, 2) := by decide +kernel
theorem dL_law_97 : decode cL_law 97 = .ok (.imul, 1) := by decide +kernel
theorem dL_law_98 : decode cL_law 98 = .ok (.ishr, 1) := by decide +kernel
theorem dL_law_99 : decode cL_law 99 = .ok (.iload 4, 2) := by decide +kernel
theorem dL_law_101 : decode cL_law 101 = .ok (.invokestatic 15, 3) := by decide +kernel
theorem dL_law_104 : decode cL_law 104 = .ok (.istore 8, 2) := by decide +kernel
theorem dL_law_106 : decode cL_law 106 = .ok (.aload 5, 2) := by decide +kernel
theorem dL_law_108 : decode cL_law 108 = .ok (.invokestatic 44, 3) := by decide +kernel
theorem dL_law_111 : decode cL_law 111 = .ok (.astore 9, 2) := by decide +kernel
theorem dL_law_113 : decode cL_law 113 = .ok (.iconst 3, 1) := by decide +kernel
theorem dL_law_114 : decode cL_law 114 = .ok (.newarray .long, 2) := by decide +kernel
theorem dL_law_116 : decode cL_law 116 = .ok (.astore 10, 2) := by decide +kernel
theorem dL_law_118 : decode cL_law 118 = .ok (.aload 10, 2) := by decide +kernel
theorem dL_law_120 : decode cL_law 120 = .ok (.iconst 0, 1) := by decide +kernel
theorem dL_law_121 : decode cL_law 121 = .ok (.aload 6, 2) := by decide +kernel
theorem dL_law_123 : decode cL_law 123 = .ok (.iconst 0, 1) := by decide +kernel
theorem dL_law_124 : decode cL_law 124 = .ok (.laload, 1) := by decide +kernel
theorem dL_law_125 : decode cL_law 125 = .ok (.lastore, 1) := by decide +kernel
theorem dL_law_126 : decode cL_law 126 = .ok (.aload_n 2, 1) := by decide +kernel
theorem dL_law_127 : decode cL_law 127 = .ok (.aload_n 3, 1) := by decide +kernel
theorem dL_law_128 : decode cL_law 128 = .ok (.aload 9, 2) := by decide +kernel
theorem dL_law_130 : decode cL_law 130 = .ok (.aload 10, 2) := by decide +kernel
theorem dL_law_132 : decode cL_law 132 = .ok (.iload 8, 2) := by decide +kernel
theorem dL_law_134 : decode cL_law 134 = .ok (.iconst 4, 1) := by decide +kernel
theorem dL_law_135 : decode cL_law 135 = .ok (.idiv, 1) := by decide +kernel
theorem dL_law_136 : decode cL_law 136 = .ok (.iload 8, 2) := by decide +kernel
theorem dL_law_138 : decode cL_law 138 = .ok (.iconst 4, 1) := by decide +kernel
theorem dL_law_139 : decode cL_law 139 = .ok (.irem, 1) := by decide +kernel
theorem dL_law_140 : decode cL_law 140 = .ok (.invokestatic 47, 3) := by decide +kernel
theorem dL_law_143 : decode cL_law 143 = .ok (.ifCond .lt 39, 3) := by decide +kernel
theorem dL_law_146 : decode cL_law 146 = .ok (.aload_n 1, 1) := by decide +kernel
theorem dL_law_147 : decode cL_law 147 = .ok (.iload 8, 2) := by decide +kernel
theorem dL_law_149 : decode cL_law 149 = .ok (.iconst 4, 1) := by decide +kernel
theorem dL_law_150 : decode cL_law 150 = .ok (.idiv, 1) := by decide +kernel
theorem dL_law_151 : decode cL_law 151 = .ok (.iload 8, 2) := by decide +kernel
theorem dL_law_153 : decode cL_law 153 = .ok (.iconst 4, 1) := by decide +kernel
theorem dL_law_154 : decode cL_law 154 = .ok (.irem, 1) := by decide +kernel
theorem dL_law_155 : decode cL_law 155 = .ok (.invokevirtual 51, 3) := by decide +kernel
theorem dL_law_158 : decode cL_law 158 = .ok (.aload 9, 2) := by decide +kernel
theorem dL_law_160 : decode cL_law 160 = .ok (.iload 8, 2) := by decide +kernel
theorem dL_law_162 : decode cL_law 162 = .ok (.iconst 4, 1) := by decide +kernel
theorem dL_law_163 : decode cL_law 163 = .ok (.idiv, 1) := by decide +kernel
theorem dL_law_164 : decode cL_law 164 = .ok (.iaload, 1) := by decide +kernel
theorem dL_law_165 : decode cL_law 165 = .ok (.if_icmp .eq 5, 3) := by decide +kernel
theorem dL_law_168 : decode cL_law 168 = .ok (.iconst 0, 1) := by decide +kernel
theorem dL_law_169 : decode cL_law 169 = .ok (.ireturn, 1) := by decide +kernel
theorem dL_law_170 : decode cL_law 170 = .ok (.aload 9, 2) := by decide +kernel
theorem dL_law_172 : decode cL_law 172 = .ok (.astore 5, 2) := by decide +kernel
theorem dL_law_174 : decode cL_law 174 = .ok (.aload 6, 2) := by decide +kernel
theorem dL_law_176 : decode cL_law 176 = .ok (.iconst 0, 1) := by decide +kernel
theorem dL_law_177 : decode cL_law 177 = .ok (.aload 10, 2) := by decide +kernel
theorem dL_law_179 : decode cL_law 179 = .ok (.iconst 0, 1) := by decide +kernel
theorem dL_law_180 : decode cL_law 180 = .ok (.laload, 1) := by decide +kernel
theorem dL_law_181 : decode cL_law 181 = .ok (.lastore, 1) := by decide +kernel
theorem dL_law_182 : decode cL_law 182 = .ok (.iinc 7 (-1), 3) := by decide +kernel
theorem dL_law_185 : decode cL_law 185 = .ok (.goto (-107), 3) := by decide +kernel
theorem dL_law_188 : decode cL_law 188 = .ok (.iconst 0, 1) := by decide +kernel
theorem dL_law_189 : decode cL_law 189 = .ok (.istore 7, 2) := by decide +kernel
theorem dL_law_191 : decode cL_law 191 = .ok (.iload 7, 2) := by decide +kernel
theorem dL_law_193 : decode cL_law 193 = .ok (.iconst 2, 1) := by decide +kernel
theorem dL_law_194 : decode cL_law 194 = .ok (.if_icmp .ge 511, 3) := by decide +kernel
theorem dL_law_197 : decode cL_law 197 = .ok (.bipush (-9), 2) := by decide +kernel
theorem dL_law_199 : decode cL_law 199 = .ok (.istore 8, 2) := by decide +kernel
theorem dL_law_201 : decode cL_law 201 = .ok (.iconst 0, 1) := by decide +kernel
theorem dL_law_202 : decode cL_law 202 = .ok (.istore 9, 2) := by decide +kernel
theorem dL_law_204 : decode cL_law 204 = .ok (.iconst 1, 1) := by decide +kernel
theorem dL_law_205 : decode cL_law 205 = .ok (.istore 10, 2) := by decide +kernel
theorem dL_law_207 : decode cL_law 207 = .ok (.iconst 1, 1) := by decide +kernel
theorem dL_law_208 : decode cL_law 208 = .ok (.istore 11, 2) := by decide +kernel
theorem dL_law_210 : decode cL_law 210 = .ok (.iload 11, 2) := by decide +kernel
theorem dL_law_212 : decode cL_law 212 = .ok (.iconst 4, 1) := by decide +kernel
theorem dL_law_213 : decode cL_law 213 = .ok (.if_icmp .ge 206, 3) := by decide +kernel
theorem dL_law_216 : decode cL_law 216 = .ok (.iload 8, 2) := by decide +kernel
theorem dL_law_218 : decode cL_law 218 = .ok (.ifCond .ge 201, 3) := by decide +kernel
theorem dL_law_221 : decode cL_law 221 = .ok (.iload 10, 2) := by decide +kernel
theorem dL_law_223 : decode cL_law 223 = .ok (.iload 4, 2) := by decide +kernel
theorem dL_law_225 : decode cL_law 225 = .ok (.imul, 1) := by decide +kernel
theorem dL_law_226 : decode cL_law 226 = .ok (.istore 10, 2) := by decide +kernel
theorem dL_law_228 : decode cL_law 228 = .ok (.iconst 0, 1) := by decide +kernel
theorem dL_law_229 : decode cL_law 229 = .ok (.istore 12, 2) := by decide +kernel
theorem dL_law_231 : decode cL_law 231 = .ok (.iload 12, 2) := by decide +kernel
theorem dL_law_233 : decode cL_law 233 = .ok (.iload 10, 2) := by decide +kernel
theorem dL_law_235 : decode cL_law 235 = .ok (.if_icmp .ge 178, 3) := by decide +kernel
theorem dL_law_238 : decode cL_law 238 = .ok (.iload 8, 2) := by decide +kernel
theorem dL_law_240 : decode cL_law 240 = .ok (.ifCond .ge 173, 3) := by decide +kernel
theorem dL_law_243 : decode cL_law 243 = .ok (.aload 5, 2) := by decide +kernel
theorem dL_law_245 : decode cL_law 245 = .ok (.invokestatic 44, 3) := by decide +kernel
theorem dL_law_248 : decode cL_law 248 = .ok (.astore 13, 2) := by decide +kernel
theorem dL_law_250 : decode cL_law 250 = .ok (.iconst 3, 1) := by decide +kernel
theorem dL_law_251 : decode cL_law 251 = .ok (.newarray .long, 2) := by decide +kernel
theorem dL_law_253 : decode cL_law 253 = .ok (.astore 14, 2) := by decide +kernel
theorem dL_law_255 : decode cL_law 255 = .ok (.aload 14, 2) := by decide +kernel
theorem dL_law_257 : decode cL_law 257 = .ok (.iconst 0, 1) := by decide +kernel
theorem dL_law_258 : decode cL_law 258 = .ok (.aload 6, 2) := by decide +kernel
theorem dL_law_260 : decode cL_law 260 = .ok (.iconst 0, 1) := by decide +kernel
theorem dL_law_261 : decode cL_law 261 = .ok (.laload, 1) := by decide +kernel
theorem dL_law_262 : decode cL_law 262 = .ok (.lastore, 1) := by decide +kernel
theorem dL_law_263 : decode cL_law 263 = .ok (.iload 10, 2) := by decide +kernel
theorem dL_law_265 : decode cL_law 265 = .ok (.iload 4, 2) := by decide +kernel
theorem dL_law_267 : decode cL_law 267 = .ok (.ifCond .le 8, 3) := by decide +kernel
theorem dL_law_270 : decode cL_law 270 = .ok (.iload 4, 2) := by decide +kernel
theorem dL_law_272 : decode cL_law 272 = .ok (.goto 4, 3) := by decide +kernel
theorem dL_law_275 : decode cL_law 275 = .ok (.iconst 1, 1) := by decide +kernel
theorem dL_law_276 : decode cL_law 276 = .ok (.idiv, 1) := by decide +kernel
theorem dL_law_277 : decode cL_law 277 = .ok (.istore 15, 2) := by decide +kernel
theorem dL_law_279 : decode cL_law 279 = .ok (.iconst 0, 1) := by decide +kernel
theorem dL_law_280 : decode cL_law 280 = .ok (.istore 16, 2) := by decide +kernel
theorem dL_law_282 : decode cL_law 282 = .ok (.iconst 1, 1) := by decide +kernel
theorem dL_law_283 : decode cL_law 283 = .ok (.istore 17, 2) := by decide +kernel
theorem dL_law_285 : decode cL_law 285 = .ok (.iconst 0, 1) := by decide +kernel
theorem dL_law_286 : decode cL_law 286 = .ok (.istore 18, 2) := by decide +kernel
theorem dL_law_288 : decode cL_law 288 = .ok (.iload 18, 2) := by decide +kernel
theorem dL_law_290 : decode cL_law 290 = .ok (.iload 11, 2) := by decide +kernel
theorem dL_law_292 : decode cL_law 292 = .ok (.if_icmp .ge 97, 3) := by decide +kernel
theorem dL_law_295 : decode cL_law 295 = .ok (.iload 17, 2) := by decide +kernel
theorem dL_law_297 : decode cL_law 297 = .ok (.ifCond .eq 92, 3) := by decide +kernel
theorem dL_law_300 : decode cL_law 300 = .ok (.iload 12, 2) := by decide +kernel
theorem dL_law_302 : decode cL_law 302 = .ok (.iload 15, 2) := by decide +kernel
theorem dL_law_304 : decode cL_law 304 = .ok (.idiv, 1) := by decide +kernel
theorem dL_law_305 : decode cL_law 305 = .ok (.iload 4, 2) := by decide +kernel
theorem dL_law_307 : decode cL_law 307 = .ok (.irem, 1) := by decide +kernel
theorem dL_law_308 : decode cL_law 308 = .ok (.istore 19, 2) := by decide +kernel
theorem dL_law_310 : decode cL_law 310 = .ok (.iload 15, 2) := by decide +kernel
theorem dL_law_312 : decode cL_law 312 = .ok (.iload 4, 2) := by decide +kernel
theorem dL_law_314 : decode cL_law 314 = .ok (.idiv, 1) := by decide +kernel
theorem dL_law_315 : decode cL_law 315 = .ok (.ifCond .le 11, 3) := by decide +kernel
theorem dL_law_318 : decode cL_law 318 = .ok (.iload 15, 2) := by decide +kernel
theorem dL_law_320 : decode cL_law 320 = .ok (.iload 4, 2) := by decide +kernel
theorem dL_law_322 : decode cL_law 322 = .ok (.idiv, 1) := by decide +kernel
theorem dL_law_323 : decode cL_law 323 = .ok (.goto 4, 3) := by decide +kernel
theorem dL_law_326 : decode cL_law 326 = .ok (.iconst 1, 1) := by decide +kernel
theorem dL_law_327 : decode cL_law 327 = .ok (.istore 15, 2) := by decide +kernel
theorem dL_law_329 : decode cL_law 329 = .ok (.aload_n 2, 1) := by decide +kernel
theorem dL_law_330 : decode cL_law 330 = .ok (.aload_n 3, 1) := by decide +kernel
theorem dL_law_331 : decode cL_law 331 = .ok (.aload 13, 2) := by decide +kernel
theorem dL_law_333 : decode cL_law 333 = .ok (.aload 14, 2) := by decide +kernel
theorem dL_law_335 : decode cL_law 335 = .ok (.iload 19, 2) := by decide +kernel
theorem dL_law_337 : decode cL_law 337 = .ok (.iconst 4, 1) := by decide +kernel
