theorem dL_cell_0 : decode cL_cell 0 = .ok (.iload_n 1, 1) := by decide +kernel
theorem dL_cell_1 : decode cL_cell 1 = .ok (.aload_n 0, 1) := by decide +kernel
theorem dL_cell_2 : decode cL_cell 2 = .ok (.arraylength, 1) := by decide +kernel
theorem dL_cell_3 : decode cL_cell 3 = .ok (.if_icmp .ge 9, 3) := by decide +kernel
theorem dL_cell_6 : decode cL_cell 6 = .ok (.aload_n 0, 1) := by decide +kernel
theorem dL_cell_7 : decode cL_cell 7 = .ok (.iload_n 1, 1) := by decide +kernel
theorem dL_cell_8 : decode cL_cell 8 = .ok (.iaload, 1) := by decide +kernel
theorem dL_cell_9 : decode cL_cell 9 = .ok (.goto 13, 3) := by decide +kernel
theorem dL_cell_12 : decode cL_cell 12 = .ok (.ldc 7, 2) := by decide +kernel
theorem dL_cell_14 : decode cL_cell 14 = .ok (.iload_n 1, 1) := by decide +kernel
theorem dL_cell_15 : decode cL_cell 15 = .ok (.iconst 3, 1) := by decide +kernel
theorem dL_cell_16 : decode cL_cell 16 = .ok (.iadd, 1) := by decide +kernel
theorem dL_cell_17 : decode cL_cell 17 = .ok (.imul, 1) := by decide +kernel
theorem dL_cell_18 : decode cL_cell 18 = .ok (.sipush 11969, 3) := by decide +kernel
theorem dL_cell_21 : decode cL_cell 21 = .ok (.iadd, 1) := by decide +kernel
theorem dL_cell_22 : decode cL_cell 22 = .ok (.ireturn, 1) := by decide +kernel
theorem dL_low_0 : decode cL_low 0 = .ok (.iload_n 0, 1) := by decide +kernel
theorem dL_low_1 : decode cL_low 1 = .ok (.ldc 8, 2) := by decide +kernel
theorem dL_low_3 : decode cL_low 3 = .ok (.iand, 1) := by decide +kernel
theorem dL_low_4 : decode cL_low 4 = .ok (.iload_n 1, 1) := by decide +kernel
theorem dL_low_5 : decode cL_low 5 = .ok (.irem, 1) := by decide +kernel
theorem dL_low_6 : decode cL_low 6 = .ok (.ireturn, 1) := by decide +kernel
theorem dL_sign_0 : decode cL_sign 0 = .ok (.iload_n 0, 1) := by decide +kernel
theorem dL_sign_1 : decode cL_sign 1 = .ok (.iconst 4, 1) := by decide +kernel
theorem dL_sign_2 : decode cL_sign 2 = .ok (.ishr, 1) := by decide +kernel
theorem dL_sign_3 : decode cL_sign 3 = .ok (.bipush 12, 2) := by decide +kernel
theorem dL_sign_5 : decode cL_sign 5 = .ok (.invokestatic 9, 3) := by decide +kernel
theorem dL_sign_8 : decode cL_sign 8 = .ok (.istore_n 1, 1) := by decide +kernel
theorem dL_sign_9 : decode cL_sign 9 = .ok (.iload_n 1, 1) := by decide +kernel
theorem dL_sign_10 : decode cL_sign 10 = .ok (.ifCond .ne 8, 3) := by decide +kernel
theorem dL_sign_13 : decode cL_sign 13 = .ok (.bipush 9, 2) := by decide +kernel
theorem dL_sign_15 : decode cL_sign 15 = .ok (.goto 110, 3) := by decide +kernel
theorem dL_sign_18 : decode cL_sign 18 = .ok (.iload_n 1, 1) := by decide +kernel
theorem dL_sign_19 : decode cL_sign 19 = .ok (.iconst 1, 1) := by decide +kernel
theorem dL_sign_20 : decode cL_sign 20 = .ok (.if_icmp .ne 8, 3) := by decide +kernel
theorem dL_sign_23 : decode cL_sign 23 = .ok (.bipush 10, 2) := by decide +kernel
theorem dL_sign_25 : decode cL_sign 25 = .ok (.goto 100, 3) := by decide +kernel
theorem dL_sign_28 : decode cL_sign 28 = .ok (.iload_n 1, 1) := by decide +kernel
theorem dL_sign_29 : decode cL_sign 29 = .ok (.iconst 2, 1) := by decide +kernel
theorem dL_sign_30 : decode cL_sign 30 = .ok (.if_icmp .ne 8, 3) := by decide +kernel
theorem dL_sign_33 : decode cL_sign 33 = .ok (.bipush 13, 2) := by decide +kernel
theorem dL_sign_35 : decode cL_sign 35 = .ok (.goto 90, 3) := by decide +kernel
theorem dL_sign_38 : decode cL_sign 38 = .ok (.iload_n 1, 1) := by decide +kernel
theorem dL_sign_39 : decode cL_sign 39 = .ok (.iconst 3, 1) := by decide +kernel
theorem dL_sign_40 : decode cL_sign 40 = .ok (.if_icmp .ne 8, 3) := by decide +kernel
theorem dL_sign_43 : decode cL_sign 43 = .ok (.bipush 92, 2) := by decide +kernel
theorem dL_sign_45 : decode cL_sign 45 = .ok (.goto 80, 3) := by decide +kernel
theorem dL_sign_48 : decode cL_sign 48 = .ok (.iload_n 1, 1) := by decide +kernel
theorem dL_sign_49 : decode cL_sign 49 = .ok (.iconst 4, 1) := by decide +kernel
theorem dL_sign_50 : decode cL_sign 50 = .ok (.if_icmp .ne 8, 3) := by decide +kernel
theorem dL_sign_53 : decode cL_sign 53 = .ok (.bipush 61, 2) := by decide +kernel
theorem dL_sign_55 : decode cL_sign 55 = .ok (.goto 70, 3) := by decide +kernel
theorem dL_sign_58 : decode cL_sign 58 = .ok (.iload_n 1, 1) := by decide +kernel
theorem dL_sign_59 : decode cL_sign 59 = .ok (.iconst 5, 1) := by decide +kernel
theorem dL_sign_60 : decode cL_sign 60 = .ok (.if_icmp .ne 8, 3) := by decide +kernel
theorem dL_sign_63 : decode cL_sign 63 = .ok (.bipush 58, 2) := by decide +kernel
theorem dL_sign_65 : decode cL_sign 65 = .ok (.goto 60, 3) := by decide +kernel
theorem dL_sign_68 : decode cL_sign 68 = .ok (.iload_n 1, 1) := by decide +kernel
theorem dL_sign_69 : decode cL_sign 69 = .ok (.bipush 6, 2) := by decide +kernel
theorem dL_sign_71 : decode cL_sign 71 = .ok (.if_icmp .ne 8, 3) := by decide +kernel
theorem dL_sign_74 : decode cL_sign 74 = .ok (.bipush 35, 2) := by decide +kernel
theorem dL_sign_76 : decode cL_sign 76 = .ok (.goto 49, 3) := by decide +kernel
theorem dL_sign_79 : decode cL_sign 79 = .ok (.iload_n 1, 1) := by decide +kernel
theorem dL_sign_80 : decode cL_sign 80 = .ok (.bipush 7, 2) := by decide +kernel
theorem dL_sign_82 : decode cL_sign 82 = .ok (.if_icmp .ne 8, 3) := by decide +kernel
theorem dL_sign_85 : decode cL_sign 85 = .ok (.bipush 33, 2) := by decide +kernel
theorem dL_sign_87 : decode cL_sign 87 = .ok (.goto 38, 3) := by decide +kernel
theorem dL_sign_90 : decode cL_sign 90 = .ok (.iload_n 1, 1) := by decide +kernel
theorem dL_sign_91 : decode cL_sign 91 = .ok (.bipush 8, 2) := by decide +kernel
theorem dL_sign_93 : decode cL_sign 93 = .ok (.if_icmp .ne 8, 3) := by decide +kernel
theorem dL_sign_96 : decode cL_sign 96 = .ok (.bipush 32, 2) := by decide +kernel
theorem dL_sign_98 : decode cL_sign 98 = .ok (.goto 27, 3) := by decide +kernel
theorem dL_sign_101 : decode cL_sign 101 = .ok (.iload_n 1, 1) := by decide +kernel
theorem dL_sign_102 : decode cL_sign 102 = .ok (.bipush 9, 2) := by decide +kernel
theorem dL_sign_104 : decode cL_sign 104 = .ok (.if_icmp .ne 8, 3) := by decide +kernel
theorem dL_sign_107 : decode cL_sign 107 = .ok (.bipush 12, 2) := by decide +kernel
theorem dL_sign_109 : decode cL_sign 109 = .ok (.goto 16, 3) := by decide +kernel
theorem dL_sign_112 : decode cL_sign 112 = .ok (.iload_n 1, 1) := by decide +kernel
theorem dL_sign_113 : decode cL_sign 113 = .ok (.bipush 10, 2) := by decide +kernel
theorem dL_sign_115 : decode cL_sign 115 = .ok (.if_icmp .ne 8, 3) := by decide +kernel
theorem dL_sign_118 : decode cL_sign 118 = .ok (.bipush 117, 2) := by decide +kernel
theorem dL_sign_120 : decode cL_sign 120 = .ok (.goto 5, 3) := by decide +kernel
theorem dL_sign_123 : decode cL_sign 123 = .ok (.bipush 97, 2) := by decide +kernel
theorem dL_sign_125 : decode cL_sign 125 = .ok (.istore_n 2, 1) := by decide +kernel
theorem dL_sign_126 : decode cL_sign 126 = .ok (.iload_n 0, 1) := by decide +kernel
theorem dL_sign_127 : decode cL_sign 127 = .ok (.iconst 3, 1) := by decide +kernel
theorem dL_sign_128 : decode cL_sign 128 = .ok (.invokestatic 9, 3) := by decide +kernel
theorem dL_sign_131 : decode cL_sign 131 = .ok (.ifCond .ne 15, 3) := by decide +kernel
theorem dL_sign_134 : decode cL_sign 134 = .ok (.iload_n 0, 1) := by decide +kernel
theorem dL_sign_135 : decode cL_sign 135 = .ok (.iconst 4, 1) := by decide +kernel
theorem dL_sign_136 : decode cL_sign 136 = .ok (.ishr, 1) := by decide +kernel
theorem dL_sign_137 : decode cL_sign 137 = .ok (.sipush 256, 3) := by decide +kernel
theorem dL_sign_140 : decode cL_sign 140 = .ok (.invokestatic 9, 3) := by decide +kernel
theorem dL_sign_143 : decode cL_sign 143 = .ok (.goto 4, 3) := by decide +kernel
theorem dL_sign_146 : decode cL_sign 146 = .ok (.iload_n 2, 1) := by decide +kernel
theorem dL_sign_147 : decode cL_sign 147 = .ok (.ireturn, 1) := by decide +kernel
theorem dL_lays_0 : decode cL_lays 0 = .ok (.aload_n 0, 1) := by decide +kernel
theorem dL_lays_1 : decode cL_lays 1 = .ok (.iload_n 1, 1) := by decide +kernel
theorem dL_lays_2 : decode cL_lays 2 = .ok (.invokevirtual 15, 3) := by decide +kernel
theorem dL_lays_5 : decode cL_lays 5 = .ok (.istore 5, 2) := by decide +kernel
theorem dL_lays_7 : decode cL_lays 7 = .ok (.iload 5, 2) := by decide +kernel
theorem dL_lays_9 : decode cL_lays 9 = .ok (.iconst (-1), 1) := by decide +kernel
theorem dL_lays_10 : decode cL_lays 10 = .ok (.if_icmp .eq 7, 3) := by decide +kernel
theorem dL_lays_13 : decode cL_lays 13 = .ok (.iconst 1, 1) := by decide +kernel
theorem dL_lays_14 : decode cL_lays 14 = .ok (.goto 4, 3) := by decide +kernel
theorem dL_lays_17 : decode cL_lays 17 = .ok (.iconst 0, 1) := by decide +kernel
theorem dL_lays_18 : decode cL_lays 18 = .ok (.istore 6, 2) := by decide +kernel
theorem dL_lays_20 : decode cL_lays 20 = .ok (.iconst 0, 1) := by decide +kernel
theorem dL_lays_21 : decode cL_lays 21 = .ok (.istore 7, 2) := by decide +kernel
theorem dL_lays_23 : decode cL_lays 23 = .ok (.iload 7, 2) := by decide +kernel
theorem dL_lays_25 : decode cL_lays 25 = .ok (.iload 4, 2) := by decide +kernel
theorem dL_lays_27 : decode cL_lays 27 = .ok (.if_icmp .ge 44, 3) := by decide +kernel
theorem dL_lays_30 : decode cL_lays 30 = .ok (.iload 6, 2) := by decide +kernel
theorem dL_lays_32 : decode cL_lays 32 = .ok (.ifCond .eq 30, 3) := by decide +kernel
theorem dL_lays_35 : decode cL_lays 35 = .ok (.aload_n 0, 1) := by decide +kernel
theorem dL_lays_36 : decode cL_lays 36 = .ok (.iload_n 1, 1) := by decide +kernel
theorem dL_lays_37 : decode cL_lays 37 = .ok (.aload_n 2, 1) := by decide +kernel
theorem dL_lays_38 : decode cL_lays 38 = .ok (.iload_n 3, 1) := by decide +kernel
theorem dL_lays_39 : decode cL_lays 39 = .ok (.iload 7, 2) := by decide +kernel
theorem dL_lays_41 : decode cL_lays 41 = .ok (.iadd, 1) := by decide +kernel
theorem dL_lays_42 : decode cL_lays 42 = .ok (.invokestatic 21, 3) := by decide +kernel
theorem dL_lays_45 : decode cL_lays 45 = .ok (.invokestatic 25, 3) := by decide +kernel
theorem dL_lays_48 : decode cL_lays 48 = .ok (.invokevirtual 28, 3) := by decide +kernel
theorem dL_lays_51 : decode cL_lays 51 = .ok (.iload 7, 2) := by decide +kernel
theorem dL_lays_53 : decode cL_lays 53 = .ok (.iconst 1, 1) := by decide +kernel
theorem dL_lays_54 : decode cL_lays 54 = .ok (.iadd, 1) := by decide +kernel
theorem dL_lays_55 : decode cL_lays 55 = .ok (.if_icmp .ne 7, 3) := by decide +kernel
theorem dL_lays_58 : decode cL_lays 58 = .ok (.iconst 1, 1) := by decide +kernel
theorem dL_lays_59 : decode cL_lays 59 = .ok (.goto 4, 3) := by decide +kernel
theorem dL_lays_62 : decode cL_lays 62 = .ok (.iconst 0, 1) := by decide +kernel
theorem dL_lays_63 : decode cL_lays 63 = .ok (.istore 6, 2) := by decide +kernel
theorem dL_lays_65 : decode cL_lays 65 = .ok (.iinc 7 1, 3) := by decide +kernel
theorem dL_lays_68 : decode cL_lays 68 = .ok (.goto (-45), 3) := by decide +kernel
theorem dL_lays_71 : decode cL_lays 71 = .ok (.iload 6, 2) := by decide +kernel
theorem dL_lays_73 : decode cL_lays 73 = .ok (.ireturn, 1) := by decide +kernel
theorem dL_one_0 : decode cL_one 0 = .ok (.aload_n 0, 1) := by decide +kernel
theorem dL_one_1 : decode cL_one 1 = .ok (.iload_n 1, 1) := by decide +kernel
theorem dL_one_2 : decode cL_one 2 = .ok (.invokevirtual 15, 3) := by decide +kernel
theorem dL_one_5 : decode cL_one 5 = .ok (.istore_n 3, 1) := by decide +kernel
theorem dL_one_6 : decode cL_one 6 = .ok (.iload_n 3, 1) := by decide +kernel
theorem dL_one_7 : decode cL_one 7 = .ok (.iconst (-1), 1) := by decide +kernel
theorem dL_one_8 : decode cL_one 8 = .ok (.if_icmp .eq 17, 3) := by decide +kernel
theorem dL_one_11 : decode cL_one 11 = .ok (.aload_n 0, 1) := by decide +kernel
theorem dL_one_12 : decode cL_one 12 = .ok (.iload_n 1, 1) := by decide +kernel
theorem dL_one_13 : decode cL_one 13 = .ok (.iload_n 2, 1) := by decide +kernel
theorem dL_one_14 : decode cL_one 14 = .ok (.invokevirtual 28, 3) := by decide +kernel
theorem dL_one_17 : decode cL_one 17 = .ok (.iconst 1, 1) := by decide +kernel
theorem dL_one_18 : decode cL_one 18 = .ok (.if_icmp .ne 7, 3) := by decide +kernel
theorem dL_one_21 : decode cL_one 21 = .ok (.iconst 1, 1) := by decide +kernel
theorem dL_one_22 : decode cL_one 22 = .ok (.goto 4, 3) := by decide +kernel
theorem dL_one_25 : decode cL_one 25 = .ok (.iconst 0, 1) := by decide +kernel
theorem dL_one_26 : decode cL_one 26 = .ok (.ireturn, 1) := by decide +kernel
theorem dL_written_0 : decode cL_written 0 = .ok (.iconst 1, 1) := by decide +kernel
theorem dL_written_1 : decode cL_written 1 = .ok (.istore_n 2, 1) := by decide +kernel
theorem dL_written_2 : decode cL_written 2 = .ok (.iconst 0, 1) := by decide +kernel
theorem dL_written_3 : decode cL_written 3 = .ok (.istore_n 3, 1) := by decide +kernel
theorem dL_written_4 : decode cL_written 4 = .ok (.iload_n 3, 1) := by decide +kernel
theorem dL_written_5 : decode cL_written 5 = .ok (.iconst 4, 1) := by decide +kernel
theorem dL_written_6 : decode cL_written 6 = .ok (.if_icmp .ge 92, 3) := by decide +kernel
theorem dL_written_9 : decode cL_written 9 = .ok (.iload_n 2, 1) := by decide +kernel
theorem dL_written_10 : decode cL_written 10 = .ok (.ifCond .eq 88, 3) := by decide +kernel
theorem dL_written_13 : decode cL_written 13 = .ok (.iconst 1, 1) := by decide +kernel
theorem dL_written_14 : decode cL_written 14 = .ok (.bipush 9, 2) := by decide +kernel
theorem dL_written_16 : decode cL_written 16 = .ok (.iload_n 3, 1) := by decide +kernel
theorem dL_written_17 : decode cL_written 17 = .ok (.imul, 1) := by decide +kernel
theorem dL_written_18 : decode cL_written 18 = .ok (.iadd, 1) := by decide +kernel
theorem dL_written_19 : decode cL_written 19 = .ok (.istore 4, 2) := by decide +kernel
theorem dL_written_21 : decode cL_written 21 = .ok (.aload_n 0, 1) := by decide +kernel
theorem dL_written_22 : decode cL_written 22 = .ok (.iconst 0, 1) := by decide +kernel
theorem dL_written_23 : decode cL_written 23 = .ok (.aload_n 1, 1) := by decide +kernel
theorem dL_written_24 : decode cL_written 24 = .ok (.iload 4, 2) := by decide +kernel
theorem dL_written_26 : decode cL_written 26 = .ok (.aload_n 1, 1) := by decide +kernel
theorem dL_written_27 : decode cL_written 27 = .ok (.iload 4, 2) := by decide +kernel
theorem dL_written_29 : decode cL_written 29 = .ok (.bipush 8, 2) := by decide +kernel
theorem dL_written_31 : decode cL_written 31 = .ok (.iadd, 1) := by decide +kernel
theorem dL_written_32 : decode cL_written 32 = .ok (.invokestatic 21, 3) := by decide +kernel
theorem dL_written_35 : decode cL_written 35 = .ok (.iconst 4, 1) := by decide +kernel
theorem dL_written_36 : decode cL_written 36 = .ok (.invokestatic 9, 3) := by decide +kernel
theorem dL_written_39 : decode cL_written 39 = .ok (.invokestatic 31, 3) := by decide +kernel
theorem dL_written_42 : decode cL_written 42 = .ok (.ifCond .eq 48, 3) := by decide +kernel
theorem dL_written_45 : decode cL_written 45 = .ok (.aload_n 0, 1) := by decide +kernel
theorem dL_written_46 : decode cL_written 46 = .ok (.iconst 1, 1) := by decide +kernel
theorem dL_written_47 : decode cL_written 47 = .ok (.aload_n 1, 1) := by decide +kernel
theorem dL_written_48 : decode cL_written 48 = .ok (.iload 4, 2) := by decide +kernel
theorem dL_written_50 : decode cL_written 50 = .ok (.iconst 3, 1) := by decide +kernel
theorem dL_written_51 : decode cL_written 51 = .ok (.iadd, 1) := by decide +kernel
theorem dL_written_52 : decode cL_written 52 = .ok (.aload_n 1, 1) := by decide +kernel
theorem dL_written_53 : decode cL_written 53 = .ok (.iload 4, 2) := by decide +kernel
theorem dL_written_55 : decode cL_written 55 = .ok (.bipush 8, 2) := by decide +kernel
theorem dL_written_57 : decode cL_written 57 = .ok (.iadd, 1) := by decide +kernel
theorem dL_written_58 : decode cL_written 58 = .ok (.invokestatic 21, 3) := by decide +kernel
theorem dL_written_61 : decode cL_written 61 = .ok (.iconst 2, 1) := by decide +kernel
theorem dL_written_62 : decode cL_written 62 = .ok (.ishr, 1) := by decide +kernel
theorem dL_written_63 : decode cL_written 63 = .ok (.iconst 5, 1) := by decide +kernel
theorem dL_written_64 : decode cL_written 64 = .ok (.invokestatic 9, 3) := by decide +kernel
theorem dL_written_67 : decode cL_written 67 = .ok (.invokestatic 31, 3) := by decide +kernel
theorem dL_written_70 : decode cL_written 70 = .ok (.ifCond .eq 20, 3) := by decide +kernel
theorem dL_written_73 : decode cL_written 73 = .ok (.aload_n 0, 1) := by decide +kernel
theorem dL_written_74 : decode cL_written 74 = .ok (.iload_n 3, 1) := by decide +kernel
theorem dL_written_75 : decode cL_written 75 = .ok (.iconst 3, 1) := by decide +kernel
theorem dL_written_76 : decode cL_written 76 = .ok (.irem, 1) := by decide +kernel
theorem dL_written_77 : decode cL_written 77 = .ok (.iconst 0, 1) := by decide +kernel
theorem dL_written_78 : decode cL_written 78 = .ok (.iconst 1, 1) := by decide +kernel
theorem dL_written_79 : decode cL_written 79 = .ok (.iconst 2, 1) := by decide +kernel
theorem dL_written_80 : decode cL_written 80 = .ok (.invokevirtual 35, 3) := by decide +kernel
theorem dL_written_83 : decode cL_written 83 = .ok (.ifCond .le 7, 3) := by decide +kernel
theorem dL_written_86 : decode cL_written 86 = .ok (.iconst 1, 1) := by decide +kernel
theorem dL_written_87 : decode cL_written 87 = .ok (.goto 4, 3) := by decide +kernel
theorem dL_written_90 : decode cL_written 90 = .ok (.iconst 0, 1) := by decide +kernel
theorem dL_written_91 : decode cL_written 91 = .ok (.istore_n 2, 1) := by decide +kernel
theorem dL_written_92 : decode cL_written 92 = .ok (.iinc 3 1, 3) := by decide +kernel
theorem dL_written_95 : decode cL_written 95 = .ok (.goto (-91), 3) := by decide +kernel
theorem dL_written_98 : decode cL_written 98 = .ok (.iconst 0, 1) := by decide +kernel
theorem dL_written_99 : decode cL_written 99 = .ok (.istore_n 3, 1) := by decide +kernel
theorem dL_written_100 : decode cL_written 100 = .ok (.iload_n 3, 1) := by decide +kernel
theorem dL_written_101 : decode cL_written 101 = .ok (.iconst 3, 1) := by decide +kernel
theorem dL_written_102 : decode cL_written 102 = .ok (.if_icmp .ge 108, 3) := by decide +kernel
theorem dL_written_105 : decode cL_written 105 = .ok (.iload_n 2, 1) := by decide +kernel
theorem dL_written_106 : decode cL_written 106 = .ok (.ifCond .eq 104, 3) := by decide +kernel
theorem dL_written_109 : decode cL_written 109 = .ok (.aload_n 0, 1) := by decide +kernel
theorem dL_written_110 : decode cL_written 110 = .ok (.iload_n 3, 1) := by decide +kernel
theorem dL_written_111 : decode cL_written 111 = .ok (.invokevirtual 39, 3) := by decide +kernel
theorem dL_written_114 : decode cL_written 114 = .ok (.istore 4, 2) := by decide +kernel
theorem dL_written_116 : decode cL_written 116 = .ok (.iload 4, 2) := by decide +kernel
theorem dL_written_118 : decode cL_written 118 = .ok (.aload_n 0, 1) := by decide +kernel
theorem dL_written_119 : decode cL_written 119 = .ok (.invokevirtual 42, 3) := by decide +kernel
theorem dL_written_122 : decode cL_written 122 = .ok (.if_icmp .ne 60, 3) := by decide +kernel
theorem dL_written_125 : decode cL_written 125 = .ok (.aload_n 0, 1) := by decide +kernel
theorem dL_written_126 : decode cL_written 126 = .ok (.invokevirtual 46, 3) := by decide +kernel
theorem dL_written_129 : decode cL_written 129 = .ok (.bipush (-5), 2) := by decide +kernel
theorem dL_written_131 : decode cL_written 131 = .ok (.if_icmp .ne 51, 3) := by decide +kernel
theorem dL_written_134 : decode cL_written 134 = .ok (.aload_n 0, 1) := by decide +kernel
theorem dL_written_135 : decode cL_written 135 = .ok (.iconst 3, 1) := by decide +kernel
theorem dL_written_136 : decode cL_written 136 = .ok (.invokevirtual 49, 3) := by decide +kernel
theorem dL_written_139 : decode cL_written 139 = .ok (.ifCond .lt 43, 3) := by decide +kernel
theorem dL_written_142 : decode cL_written 142 = .ok (.aload_n 0, 1) := by decide +kernel
theorem dL_written_143 : decode cL_written 143 = .ok (.iconst 3, 1) := by decide +kernel
theorem dL_written_144 : decode cL_written 144 = .ok (.invokevirtual 52, 3) := by decide +kernel
theorem dL_written_147 : decode cL_written 147 = .ok (.aload_n 0, 1) := by decide +kernel
theorem dL_written_148 : decode cL_written 148 = .ok (.iload_n 3, 1) := by decide +kernel
theorem dL_written_149 : decode cL_written 149 = .ok (.invokevirtual 55, 3) := by decide +kernel
theorem dL_written_152 : decode cL_written 152 = .ok (.if_icmp .ne 30, 3) := by decide +kernel
theorem dL_written_155 : decode cL_written 155 = .ok (.aload_n 0, 1) := by decide +kernel
theorem dL_written_156 : decode cL_written 156 = .ok (.iload_n 3, 1) := by decide +kernel
theorem dL_written_157 : decode cL_written 157 = .ok (.iconst 3, 1) := by decide +kernel
theorem dL_written_158 : decode cL_written 158 = .ok (.invokevirtual 58, 3) := by decide +kernel
theorem dL_written_161 : decode cL_written 161 = .ok (.iconst 1, 1) := by decide +kernel
theorem dL_written_162 : decode cL_written 162 = .ok (.if_icmp .ne 20, 3) := by decide +kernel
theorem dL_written_165 : decode cL_written 165 = .ok (.aload_n 0, 1) := by decide +kernel
theorem dL_written_166 : decode cL_written 166 = .ok (.iconst 3, 1) := by decide +kernel
theorem dL_written_167 : decode cL_written 167 = .ok (.invokevirtual 61, 3) := by decide +kernel
theorem dL_written_170 : decode cL_written 170 = .ok (.aload_n 0, 1) := by decide +kernel
theorem dL_written_171 : decode cL_written 171 = .ok (.iload_n 3, 1) := by decide +kernel
theorem dL_written_172 : decode cL_written 172 = .ok (.invokevirtual 61, 3) := by decide +kernel
theorem dL_written_175 : decode cL_written 175 = .ok (.if_icmp .ne 7, 3) := by decide +kernel
theorem dL_written_178 : decode cL_written 178 = .ok (.iconst 1, 1) := by decide +kernel
theorem dL_written_179 : decode cL_written 179 = .ok (.goto 4, 3) := by decide +kernel
theorem dL_written_182 : decode cL_written 182 = .ok (.iconst 0, 1) := by decide +kernel
theorem dL_written_183 : decode cL_written 183 = .ok (.istore_n 2, 1) := by decide +kernel
theorem dL_written_184 : decode cL_written 184 = .ok (.iload_n 2, 1) := by decide +kernel
theorem dL_written_185 : decode cL_written 185 = .ok (.ifCond .eq 17, 3) := by decide +kernel
theorem dL_written_188 : decode cL_written 188 = .ok (.aload_n 0, 1) := by decide +kernel
theorem dL_written_189 : decode cL_written 189 = .ok (.iconst 3, 1) := by decide +kernel
theorem dL_written_190 : decode cL_written 190 = .ok (.invokevirtual 39, 3) := by decide +kernel
theorem dL_written_193 : decode cL_written 193 = .ok (.iload 4, 2) := by decide +kernel
theorem dL_written_195 : decode cL_written 195 = .ok (.if_icmp .ne 7, 3) := by decide +kernel
theorem dL_written_198 : decode cL_written 198 = .ok (.iconst 1, 1) := by decide +kernel
theorem dL_written_199 : decode cL_written 199 = .ok (.goto 4, 3) := by decide +kernel
theorem dL_written_202 : decode cL_written 202 = .ok (.iconst 0, 1) := by decide +kernel
theorem dL_written_203 : decode cL_written 203 = .ok (.istore_n 2, 1) := by decide +kernel
theorem dL_written_204 : decode cL_written 204 = .ok (.iinc 3 1, 3) := by decide +kernel
theorem dL_written_207 : decode cL_written 207 = .ok (.goto (-107), 3) := by decide +kernel
theorem dL_written_210 : decode cL_written 210 = .ok (.iload_n 2, 1) := by decide +kernel
theorem dL_written_211 : decode cL_written 211 = .ok (.ireturn, 1) := by decide +kernel
theorem dL_found_0 : decode cL_found 0 = .ok (.iconst 1, 1) := by decide +kernel
theorem dL_found_1 : decode cL_found 1 = .ok (.istore_n 2, 1) := by decide +kernel
theorem dL_found_2 : decode cL_found 2 = .ok (.iconst 0, 1) := by decide +kernel
theorem dL_found_3 : decode cL_found 3 = .ok (.istore_n 3, 1) := by decide +kernel
theorem dL_found_4 : decode cL_found 4 = .ok (.iload_n 3, 1) := by decide +kernel
theorem dL_found_5 : decode cL_found 5 = .ok (.aload_n 0, 1) := by decide +kernel
theorem dL_found_6 : decode cL_found 6 = .ok (.iload_n 1, 1) := by decide +kernel
theorem dL_found_7 : decode cL_found 7 = .ok (.invokevirtual 64, 3) := by decide +kernel
theorem dL_found_10 : decode cL_found 10 = .ok (.if_icmp .ge 138, 3) := by decide +kernel
theorem dL_found_13 : decode cL_found 13 = .ok (.iload_n 2, 1) := by decide +kernel
theorem dL_found_14 : decode cL_found 14 = .ok (.ifCond .eq 17, 3) := by decide +kernel
theorem dL_found_17 : decode cL_found 17 = .ok (.aload_n 0, 1) := by decide +kernel
theorem dL_found_18 : decode cL_found 18 = .ok (.iload_n 1, 1) := by decide +kernel
theorem dL_found_19 : decode cL_found 19 = .ok (.iload_n 3, 1) := by decide +kernel
theorem dL_found_20 : decode cL_found 20 = .ok (.iconst 0, 1) := by decide +kernel
theorem dL_found_21 : decode cL_found 21 = .ok (.invokevirtual 67, 3) := by decide +kernel
theorem dL_found_24 : decode cL_found 24 = .ok (.ifCond .lt 7, 3) := by decide +kernel
theorem dL_found_27 : decode cL_found 27 = .ok (.iconst 1, 1) := by decide +kernel
theorem dL_found_28 : decode cL_found 28 = .ok (.goto 4, 3) := by decide +kernel
theorem dL_found_31 : decode cL_found 31 = .ok (.iconst 0, 1) := by decide +kernel
theorem dL_found_32 : decode cL_found 32 = .ok (.istore_n 2, 1) := by decide +kernel
theorem dL_found_33 : decode cL_found 33 = .ok (.aload_n 0, 1) := by decide +kernel
theorem dL_found_34 : decode cL_found 34 = .ok (.iload_n 1, 1) := by decide +kernel
theorem dL_found_35 : decode cL_found 35 = .ok (.iconst 0, 1) := by decide +kernel
theorem dL_found_36 : decode cL_found 36 = .ok (.invokevirtual 71, 3) := by decide +kernel
theorem dL_found_39 : decode cL_found 39 = .ok (.istore 4, 2) := by decide +kernel
theorem dL_found_41 : decode cL_found 41 = .ok (.iload_n 2, 1) := by decide +kernel
theorem dL_found_42 : decode cL_found 42 = .ok (.ifCond .eq 60, 3) := by decide +kernel
theorem dL_found_45 : decode cL_found 45 = .ok (.iload 4, 2) := by decide +kernel
theorem dL_found_47 : decode cL_found 47 = .ok (.ifCond .lt 55, 3) := by decide +kernel
theorem dL_found_50 : decode cL_found 50 = .ok (.iload 4, 2) := by decide +kernel
theorem dL_found_52 : decode cL_found 52 = .ok (.iload_n 1, 1) := by decide +kernel
theorem dL_found_53 : decode cL_found 53 = .ok (.if_icmp .gt 49, 3) := by decide +kernel
theorem dL_found_56 : decode cL_found 56 = .ok (.aload_n 0, 1) := by decide +kernel
theorem dL_found_57 : decode cL_found 57 = .ok (.iload_n 1, 1) := by decide +kernel
theorem dL_found_58 : decode cL_found 58 = .ok (.iconst 0, 1) := by decide +kernel
theorem dL_found_59 : decode cL_found 59 = .ok (.iconst 1, 1) := by decide +kernel
theorem dL_found_60 : decode cL_found 60 = .ok (.invokevirtual 74, 3) := by decide +kernel
theorem dL_found_63 : decode cL_found 63 = .ok (.ifCond .lt 39, 3) := by decide +kernel
theorem dL_found_66 : decode cL_found 66 = .ok (.aload_n 0, 1) := by decide +kernel
theorem dL_found_67 : decode cL_found 67 = .ok (.iload 4, 2) := by decide +kernel
theorem dL_found_69 : decode cL_found 69 = .ok (.iconst 0, 1) := by decide +kernel
theorem dL_found_70 : decode cL_found 70 = .ok (.iconst 2, 1) := by decide +kernel
theorem dL_found_71 : decode cL_found 71 = .ok (.invokevirtual 74, 3) := by decide +kernel
theorem dL_found_74 : decode cL_found 74 = .ok (.ifCond .lt 28, 3) := by decide +kernel
theorem dL_found_77 : decode cL_found 77 = .ok (.aload_n 0, 1) := by decide +kernel
theorem dL_found_78 : decode cL_found 78 = .ok (.iconst 1, 1) := by decide +kernel
theorem dL_found_79 : decode cL_found 79 = .ok (.iconst 2, 1) := by decide +kernel
theorem dL_found_80 : decode cL_found 80 = .ok (.invokevirtual 77, 3) := by decide +kernel
theorem dL_found_83 : decode cL_found 83 = .ok (.iconst 1, 1) := by decide +kernel
theorem dL_found_84 : decode cL_found 84 = .ok (.if_icmp .ne 18, 3) := by decide +kernel
theorem dL_found_87 : decode cL_found 87 = .ok (.aload_n 0, 1) := by decide +kernel
theorem dL_found_88 : decode cL_found 88 = .ok (.iload 4, 2) := by decide +kernel
theorem dL_found_90 : decode cL_found 90 = .ok (.iconst 0, 1) := by decide +kernel
theorem dL_found_91 : decode cL_found 91 = .ok (.invokevirtual 80, 3) := by decide +kernel
theorem dL_found_94 : decode cL_found 94 = .ok (.iconst 1, 1) := by decide +kernel
theorem dL_found_95 : decode cL_found 95 = .ok (.if_icmp .ne 7, 3) := by decide +kernel
theorem dL_found_98 : decode cL_found 98 = .ok (.iconst 1, 1) := by decide +kernel
theorem dL_found_99 : decode cL_found 99 = .ok (.goto 4, 3) := by decide +kernel
theorem dL_found_102 : decode cL_found 102 = .ok (.iconst 0, 1) := by decide +kernel
theorem dL_found_103 : decode cL_found 103 = .ok (.istore_n 2, 1) := by decide +kernel
theorem dL_found_104 : decode cL_found 104 = .ok (.iload 4, 2) := by decide +kernel
theorem dL_found_106 : decode cL_found 106 = .ok (.iconst 1, 1) := by decide +kernel
theorem dL_found_107 : decode cL_found 107 = .ok (.iadd, 1) := by decide +kernel
theorem dL_found_108 : decode cL_found 108 = .ok (.istore 5, 2) := by decide +kernel
theorem dL_found_110 : decode cL_found 110 = .ok (.iload 5, 2) := by decide +kernel
theorem dL_found_112 : decode cL_found 112 = .ok (.iload_n 1, 1) := by decide +kernel
theorem dL_found_113 : decode cL_found 113 = .ok (.if_icmp .gt 29, 3) := by decide +kernel
theorem dL_found_116 : decode cL_found 116 = .ok (.iload_n 2, 1) := by decide +kernel
theorem dL_found_117 : decode cL_found 117 = .ok (.ifCond .eq 17, 3) := by decide +kernel
theorem dL_found_120 : decode cL_found 120 = .ok (.aload_n 0, 1) := by decide +kernel
theorem dL_found_121 : decode cL_found 121 = .ok (.iload 5, 2) := by decide +kernel
theorem dL_found_123 : decode cL_found 123 = .ok (.iconst 0, 1) := by decide +kernel
theorem dL_found_124 : decode cL_found 124 = .ok (.invokevirtual 80, 3) := by decide +kernel
theorem dL_found_127 : decode cL_found 127 = .ok (.ifCond .ne 7, 3) := by decide +kernel
theorem dL_found_130 : decode cL_found 130 = .ok (.iconst 1, 1) := by decide +kernel
theorem dL_found_131 : decode cL_found 131 = .ok (.goto 4, 3) := by decide +kernel
theorem dL_found_134 : decode cL_found 134 = .ok (.iconst 0, 1) := by decide +kernel
theorem dL_found_135 : decode cL_found 135 = .ok (.istore_n 2, 1) := by decide +kernel
theorem dL_found_136 : decode cL_found 136 = .ok (.iinc 5 1, 3) := by decide +kernel
theorem dL_found_139 : decode cL_found 139 = .ok (.goto (-29), 3) := by decide +kernel
theorem dL_found_142 : decode cL_found 142 = .ok (.iinc 3 1, 3) := by decide +kernel
theorem dL_found_145 : decode cL_found 145 = .ok (.goto (-141), 3) := by decide +kernel
theorem dL_found_148 : decode cL_found 148 = .ok (.iload_n 2, 1) := by decide +kernel
theorem dL_found_149 : decode cL_found 149 = .ok (.ireturn, 1) := by decide +kernel
theorem dL_twice_0 : decode cL_twice 0 = .ok (.aload_n 0, 1) := by decide +kernel
theorem dL_twice_1 : decode cL_twice 1 = .ok (.invokevirtual 83, 3) := by decide +kernel
theorem dL_twice_4 : decode cL_twice 4 = .ok (.ifCond .lt 15, 3) := by decide +kernel
theorem dL_twice_7 : decode cL_twice 7 = .ok (.aload_n 0, 1) := by decide +kernel
theorem dL_twice_8 : decode cL_twice 8 = .ok (.iconst 3, 1) := by decide +kernel
theorem dL_twice_9 : decode cL_twice 9 = .ok (.invokevirtual 49, 3) := by decide +kernel
theorem dL_twice_12 : decode cL_twice 12 = .ok (.ifCond .lt 7, 3) := by decide +kernel
theorem dL_twice_15 : decode cL_twice 15 = .ok (.iconst 1, 1) := by decide +kernel
theorem dL_twice_16 : decode cL_twice 16 = .ok (.goto 4, 3) := by decide +kernel
theorem dL_twice_19 : decode cL_twice 19 = .ok (.iconst 0, 1) := by decide +kernel
theorem dL_twice_20 : decode cL_twice 20 = .ok (.istore_n 2, 1) := by decide +kernel
theorem dL_twice_21 : decode cL_twice 21 = .ok (.iconst 0, 1) := by decide +kernel
theorem dL_twice_22 : decode cL_twice 22 = .ok (.istore_n 3, 1) := by decide +kernel
theorem dL_twice_23 : decode cL_twice 23 = .ok (.iload_n 3, 1) := by decide +kernel
theorem dL_twice_24 : decode cL_twice 24 = .ok (.iconst 3, 1) := by decide +kernel
theorem dL_twice_25 : decode cL_twice 25 = .ok (.if_icmp .ge 93, 3) := by decide +kernel
theorem dL_twice_28 : decode cL_twice 28 = .ok (.iload_n 2, 1) := by decide +kernel
theorem dL_twice_29 : decode cL_twice 29 = .ok (.ifCond .eq 81, 3) := by decide +kernel
theorem dL_twice_32 : decode cL_twice 32 = .ok (.aload_n 0, 1) := by decide +kernel
theorem dL_twice_33 : decode cL_twice 33 = .ok (.bipush 97, 2) := by decide +kernel
theorem dL_twice_35 : decode cL_twice 35 = .ok (.invokevirtual 86, 3) := by decide +kernel
theorem dL_twice_38 : decode cL_twice 38 = .ok (.ifCond .le 72, 3) := by decide +kernel
theorem dL_twice_41 : decode cL_twice 41 = .ok (.aload_n 0, 1) := by decide +kernel
theorem dL_twice_42 : decode cL_twice 42 = .ok (.iload_n 3, 1) := by decide +kernel
theorem dL_twice_43 : decode cL_twice 43 = .ok (.ifCond .ne 8, 3) := by decide +kernel
theorem dL_twice_46 : decode cL_twice 46 = .ok (.bipush 61, 2) := by decide +kernel
theorem dL_twice_48 : decode cL_twice 48 = .ok (.goto 15, 3) := by decide +kernel
theorem dL_twice_51 : decode cL_twice 51 = .ok (.iload_n 3, 1) := by decide +kernel
theorem dL_twice_52 : decode cL_twice 52 = .ok (.iconst 1, 1) := by decide +kernel
theorem dL_twice_53 : decode cL_twice 53 = .ok (.if_icmp .ne 8, 3) := by decide +kernel
theorem dL_twice_56 : decode cL_twice 56 = .ok (.bipush 58, 2) := by decide +kernel
theorem dL_twice_58 : decode cL_twice 58 = .ok (.goto 5, 3) := by decide +kernel
theorem dL_twice_61 : decode cL_twice 61 = .ok (.bipush 32, 2) := by decide +kernel
theorem dL_twice_63 : decode cL_twice 63 = .ok (.invokevirtual 86, 3) := by decide +kernel
theorem dL_twice_66 : decode cL_twice 66 = .ok (.ifCond .le 44, 3) := by decide +kernel
theorem dL_twice_69 : decode cL_twice 69 = .ok (.aload_n 0, 1) := by decide +kernel
theorem dL_twice_70 : decode cL_twice 70 = .ok (.bipush 98, 2) := by decide +kernel
theorem dL_twice_72 : decode cL_twice 72 = .ok (.iload_n 1, 1) := by decide +kernel
theorem dL_twice_73 : decode cL_twice 73 = .ok (.iload_n 3, 1) := by decide +kernel
theorem dL_twice_74 : decode cL_twice 74 = .ok (.ishr, 1) := by decide +kernel
theorem dL_twice_75 : decode cL_twice 75 = .ok (.bipush 9, 2) := by decide +kernel
theorem dL_twice_77 : decode cL_twice 77 = .ok (.invokestatic 9, 3) := by decide +kernel
theorem dL_twice_80 : decode cL_twice 80 = .ok (.iadd, 1) := by decide +kernel
theorem dL_twice_81 : decode cL_twice 81 = .ok (.invokevirtual 86, 3) := by decide +kernel
theorem dL_twice_84 : decode cL_twice 84 = .ok (.ifCond .le 26, 3) := by decide +kernel
theorem dL_twice_87 : decode cL_twice 87 = .ok (.aload_n 0, 1) := by decide +kernel
theorem dL_twice_88 : decode cL_twice 88 = .ok (.iload_n 3, 1) := by decide +kernel
theorem dL_twice_89 : decode cL_twice 89 = .ok (.iconst 1, 1) := by decide +kernel
theorem dL_twice_90 : decode cL_twice 90 = .ok (.if_icmp .ne 8, 3) := by decide +kernel
theorem dL_twice_93 : decode cL_twice 93 = .ok (.bipush 13, 2) := by decide +kernel
theorem dL_twice_95 : decode cL_twice 95 = .ok (.goto 5, 3) := by decide +kernel
theorem dL_twice_98 : decode cL_twice 98 = .ok (.bipush 10, 2) := by decide +kernel
theorem dL_twice_100 : decode cL_twice 100 = .ok (.invokevirtual 86, 3) := by decide +kernel
theorem dL_twice_103 : decode cL_twice 103 = .ok (.ifCond .le 7, 3) := by decide +kernel
theorem dL_twice_106 : decode cL_twice 106 = .ok (.iconst 1, 1) := by decide +kernel
theorem dL_twice_107 : decode cL_twice 107 = .ok (.goto 4, 3) := by decide +kernel
theorem dL_twice_110 : decode cL_twice 110 = .ok (.iconst 0, 1) := by decide +kernel
theorem dL_twice_111 : decode cL_twice 111 = .ok (.istore_n 2, 1) := by decide +kernel
theorem dL_twice_112 : decode cL_twice 112 = .ok (.iinc 3 1, 3) := by decide +kernel
theorem dL_twice_115 : decode cL_twice 115 = .ok (.goto (-92), 3) := by decide +kernel
theorem dL_twice_118 : decode cL_twice 118 = .ok (.iload_n 2, 1) := by decide +kernel
theorem dL_twice_119 : decode cL_twice 119 = .ok (.ifCond .eq 46, 3) := by decide +kernel
theorem dL_twice_122 : decode cL_twice 122 = .ok (.aload_n 0, 1) := by decide +kernel
theorem dL_twice_123 : decode cL_twice 123 = .ok (.iconst 3, 1) := by decide +kernel
theorem dL_twice_124 : decode cL_twice 124 = .ok (.invokevirtual 52, 3) := by decide +kernel
theorem dL_twice_127 : decode cL_twice 127 = .ok (.iconst 3, 1) := by decide +kernel
theorem dL_twice_128 : decode cL_twice 128 = .ok (.if_icmp .ne 37, 3) := by decide +kernel
theorem dL_twice_131 : decode cL_twice 131 = .ok (.aload_n 0, 1) := by decide +kernel
theorem dL_twice_132 : decode cL_twice 132 = .ok (.iconst 3, 1) := by decide +kernel
theorem dL_twice_133 : decode cL_twice 133 = .ok (.invokevirtual 55, 3) := by decide +kernel
theorem dL_twice_136 : decode cL_twice 136 = .ok (.iconst 1, 1) := by decide +kernel
theorem dL_twice_137 : decode cL_twice 137 = .ok (.if_icmp .ne 28, 3) := by decide +kernel
theorem dL_twice_140 : decode cL_twice 140 = .ok (.aload_n 0, 1) := by decide +kernel
theorem dL_twice_141 : decode cL_twice 141 = .ok (.iconst 0, 1) := by decide +kernel
theorem dL_twice_142 : decode cL_twice 142 = .ok (.bipush 97, 2) := by decide +kernel
theorem dL_twice_144 : decode cL_twice 144 = .ok (.invokestatic 89, 3) := by decide +kernel
theorem dL_twice_147 : decode cL_twice 147 = .ok (.ifCond .eq 18, 3) := by decide +kernel
theorem dL_twice_150 : decode cL_twice 150 = .ok (.aload_n 0, 1) := by decide +kernel
theorem dL_twice_151 : decode cL_twice 151 = .ok (.iconst 3, 1) := by decide +kernel
theorem dL_twice_152 : decode cL_twice 152 = .ok (.iconst 0, 1) := by decide +kernel
theorem dL_twice_153 : decode cL_twice 153 = .ok (.iconst 1, 1) := by decide +kernel
theorem dL_twice_154 : decode cL_twice 154 = .ok (.invokevirtual 74, 3) := by decide +kernel
theorem dL_twice_157 : decode cL_twice 157 = .ok (.iconst 1, 1) := by decide +kernel
theorem dL_twice_158 : decode cL_twice 158 = .ok (.if_icmp .ne 7, 3) := by decide +kernel
theorem dL_twice_161 : decode cL_twice 161 = .ok (.iconst 1, 1) := by decide +kernel
theorem dL_twice_162 : decode cL_twice 162 = .ok (.goto 4, 3) := by decide +kernel
theorem dL_twice_165 : decode cL_twice 165 = .ok (.iconst 0, 1) := by decide +kernel
theorem dL_twice_166 : decode cL_twice 166 = .ok (.istore_n 2, 1) := by decide +kernel
theorem dL_twice_167 : decode cL_twice 167 = .ok (.iload_n 2, 1) := by decide +kernel
theorem dL_twice_168 : decode cL_twice 168 = .ok (.ifCond .eq 27, 3) := by decide +kernel
theorem dL_twice_171 : decode cL_twice 171 = .ok (.aload_n 0, 1) := by decide +kernel
theorem dL_twice_172 : decode cL_twice 172 = .ok (.iconst 1, 1) := by decide +kernel
theorem dL_twice_173 : decode cL_twice 173 = .ok (.iconst 0, 1) := by decide +kernel
theorem dL_twice_174 : decode cL_twice 174 = .ok (.invokevirtual 93, 3) := by decide +kernel
theorem dL_twice_177 : decode cL_twice 177 = .ok (.bipush 98, 2) := by decide +kernel
theorem dL_twice_179 : decode cL_twice 179 = .ok (.iload_n 1, 1) := by decide +kernel
theorem dL_twice_180 : decode cL_twice 180 = .ok (.iconst 2, 1) := by decide +kernel
theorem dL_twice_181 : decode cL_twice 181 = .ok (.ishr, 1) := by decide +kernel
theorem dL_twice_182 : decode cL_twice 182 = .ok (.bipush 9, 2) := by decide +kernel
theorem dL_twice_184 : decode cL_twice 184 = .ok (.invokestatic 9, 3) := by decide +kernel
theorem dL_twice_187 : decode cL_twice 187 = .ok (.iadd, 1) := by decide +kernel
theorem dL_twice_188 : decode cL_twice 188 = .ok (.if_icmp .ne 7, 3) := by decide +kernel
theorem dL_twice_191 : decode cL_twice 191 = .ok (.iconst 1, 1) := by decide +kernel
theorem dL_twice_192 : decode cL_twice 192 = .ok (.goto 4, 3) := by decide +kernel
theorem dL_twice_195 : decode cL_twice 195 = .ok (.iconst 0, 1) := by decide +kernel
theorem dL_twice_196 : decode cL_twice 196 = .ok (.ireturn, 1) := by decide +kernel
theorem dL_hasNone_0 : decode cL_hasNone 0 = .ok (.aload_n 0, 1) := by decide +kernel
theorem dL_hasNone_1 : decode cL_hasNone 1 = .ok (.iload_n 1, 1) := by decide +kernel
theorem dL_hasNone_2 : decode cL_hasNone 2 = .ok (.invokevirtual 96, 3) := by decide +kernel
theorem dL_hasNone_5 : decode cL_hasNone 5 = .ok (.ifCond .le 7, 3) := by decide +kernel
theorem dL_hasNone_8 : decode cL_hasNone 8 = .ok (.iconst 1, 1) := by decide +kernel
theorem dL_hasNone_9 : decode cL_hasNone 9 = .ok (.goto 4, 3) := by decide +kernel
theorem dL_hasNone_12 : decode cL_hasNone 12 = .ok (.iconst 0, 1) := by decide +kernel
theorem dL_hasNone_13 : decode cL_hasNone 13 = .ok (.istore 4, 2) := by decide +kernel
theorem dL_hasNone_15 : decode cL_hasNone 15 = .ok (.iconst 0, 1) := by decide +kernel
theorem dL_hasNone_16 : decode cL_hasNone 16 = .ok (.istore 5, 2) := by decide +kernel
theorem dL_hasNone_18 : decode cL_hasNone 18 = .ok (.iload 5, 2) := by decide +kernel
theorem dL_hasNone_20 : decode cL_hasNone 20 = .ok (.aload_n 0, 1) := by decide +kernel
theorem dL_hasNone_21 : decode cL_hasNone 21 = .ok (.iload_n 1, 1) := by decide +kernel
theorem dL_hasNone_22 : decode cL_hasNone 22 = .ok (.invokevirtual 96, 3) := by decide +kernel
theorem dL_hasNone_25 : decode cL_hasNone 25 = .ok (.if_icmp .ge 43, 3) := by decide +kernel
theorem dL_hasNone_28 : decode cL_hasNone 28 = .ok (.iload 4, 2) := by decide +kernel
theorem dL_hasNone_30 : decode cL_hasNone 30 = .ok (.ifCond .eq 29, 3) := by decide +kernel
theorem dL_hasNone_33 : decode cL_hasNone 33 = .ok (.aload_n 0, 1) := by decide +kernel
theorem dL_hasNone_34 : decode cL_hasNone 34 = .ok (.iload_n 1, 1) := by decide +kernel
theorem dL_hasNone_35 : decode cL_hasNone 35 = .ok (.iload 5, 2) := by decide +kernel
theorem dL_hasNone_37 : decode cL_hasNone 37 = .ok (.invokevirtual 93, 3) := by decide +kernel
theorem dL_hasNone_40 : decode cL_hasNone 40 = .ok (.iload_n 2, 1) := by decide +kernel
theorem dL_hasNone_41 : decode cL_hasNone 41 = .ok (.if_icmp .eq 18, 3) := by decide +kernel
theorem dL_hasNone_44 : decode cL_hasNone 44 = .ok (.aload_n 0, 1) := by decide +kernel
theorem dL_hasNone_45 : decode cL_hasNone 45 = .ok (.iload_n 1, 1) := by decide +kernel
theorem dL_hasNone_46 : decode cL_hasNone 46 = .ok (.iload 5, 2) := by decide +kernel
theorem dL_hasNone_48 : decode cL_hasNone 48 = .ok (.invokevirtual 93, 3) := by decide +kernel
theorem dL_hasNone_51 : decode cL_hasNone 51 = .ok (.iload_n 3, 1) := by decide +kernel
theorem dL_hasNone_52 : decode cL_hasNone 52 = .ok (.if_icmp .eq 7, 3) := by decide +kernel
theorem dL_hasNone_55 : decode cL_hasNone 55 = .ok (.iconst 1, 1) := by decide +kernel
theorem dL_hasNone_56 : decode cL_hasNone 56 = .ok (.goto 4, 3) := by decide +kernel
theorem dL_hasNone_59 : decode cL_hasNone 59 = .ok (.iconst 0, 1) := by decide +kernel
theorem dL_hasNone_60 : decode cL_hasNone 60 = .ok (.istore 4, 2) := by decide +kernel
theorem dL_hasNone_62 : decode cL_hasNone 62 = .ok (.iinc 5 1, 3) := by decide +kernel
theorem dL_hasNone_65 : decode cL_hasNone 65 = .ok (.goto (-47), 3) := by decide +kernel
theorem dL_hasNone_68 : decode cL_hasNone 68 = .ok (.iload 4, 2) := by decide +kernel
theorem dL_hasNone_70 : decode cL_hasNone 70 = .ok (.ireturn, 1) := by decide +kernel
theorem dL_cut_0 : decode cL_cut 0 = .ok (.aload_n 1, 1) := by decide +kernel
theorem dL_cut_1 : decode cL_cut 1 = .ok (.iload_n 2, 1) := by decide +kernel
theorem dL_cut_2 : decode cL_cut 2 = .ok (.invokestatic 21, 3) := by decide +kernel
theorem dL_cut_5 : decode cL_cut 5 = .ok (.invokestatic 25, 3) := by decide +kernel
theorem dL_cut_8 : decode cL_cut 8 = .ok (.istore_n 3, 1) := by decide +kernel
theorem dL_cut_9 : decode cL_cut 9 = .ok (.aload_n 1, 1) := by decide +kernel
theorem dL_cut_10 : decode cL_cut 10 = .ok (.iload_n 2, 1) := by decide +kernel
theorem dL_cut_11 : decode cL_cut 11 = .ok (.iconst 1, 1) := by decide +kernel
theorem dL_cut_12 : decode cL_cut 12 = .ok (.iadd, 1) := by decide +kernel
theorem dL_cut_13 : decode cL_cut 13 = .ok (.invokestatic 21, 3) := by decide +kernel
theorem dL_cut_16 : decode cL_cut 16 = .ok (.invokestatic 25, 3) := by decide +kernel
theorem dL_cut_19 : decode cL_cut 19 = .ok (.istore 4, 2) := by decide +kernel
theorem dL_cut_21 : decode cL_cut 21 = .ok (.aload_n 0, 1) := by decide +kernel
theorem dL_cut_22 : decode cL_cut 22 = .ok (.iconst 0, 1) := by decide +kernel
theorem dL_cut_23 : decode cL_cut 23 = .ok (.aload_n 1, 1) := by decide +kernel
theorem dL_cut_24 : decode cL_cut 24 = .ok (.iload_n 2, 1) := by decide +kernel
theorem dL_cut_25 : decode cL_cut 25 = .ok (.iconst 2, 1) := by decide +kernel
theorem dL_cut_26 : decode cL_cut 26 = .ok (.iadd, 1) := by decide +kernel
theorem dL_cut_27 : decode cL_cut 27 = .ok (.iconst 4, 1) := by decide +kernel
theorem dL_cut_28 : decode cL_cut 28 = .ok (.aload_n 1, 1) := by decide +kernel
theorem dL_cut_29 : decode cL_cut 29 = .ok (.iload_n 2, 1) := by decide +kernel
theorem dL_cut_30 : decode cL_cut 30 = .ok (.invokestatic 21, 3) := by decide +kernel
theorem dL_cut_33 : decode cL_cut 33 = .ok (.bipush 14, 2) := by decide +kernel
theorem dL_cut_35 : decode cL_cut 35 = .ok (.invokestatic 9, 3) := by decide +kernel
theorem dL_cut_38 : decode cL_cut 38 = .ok (.iadd, 1) := by decide +kernel
theorem dL_cut_39 : decode cL_cut 39 = .ok (.invokestatic 31, 3) := by decide +kernel
theorem dL_cut_42 : decode cL_cut 42 = .ok (.ifCond .eq 36, 3) := by decide +kernel
theorem dL_cut_45 : decode cL_cut 45 = .ok (.aload_n 0, 1) := by decide +kernel
theorem dL_cut_46 : decode cL_cut 46 = .ok (.iconst 1, 1) := by decide +kernel
theorem dL_cut_47 : decode cL_cut 47 = .ok (.aload_n 1, 1) := by decide +kernel
theorem dL_cut_48 : decode cL_cut 48 = .ok (.iload_n 2, 1) := by decide +kernel
theorem dL_cut_49 : decode cL_cut 49 = .ok (.iconst 2, 1) := by decide +kernel
theorem dL_cut_50 : decode cL_cut 50 = .ok (.invokestatic 31, 3) := by decide +kernel
theorem dL_cut_53 : decode cL_cut 53 = .ok (.ifCond .eq 25, 3) := by decide +kernel
theorem dL_cut_56 : decode cL_cut 56 = .ok (.aload_n 0, 1) := by decide +kernel
theorem dL_cut_57 : decode cL_cut 57 = .ok (.iconst 2, 1) := by decide +kernel
theorem dL_cut_58 : decode cL_cut 58 = .ok (.iconst 0, 1) := by decide +kernel
theorem dL_cut_59 : decode cL_cut 59 = .ok (.invokestatic 89, 3) := by decide +kernel
theorem dL_cut_62 : decode cL_cut 62 = .ok (.ifCond .eq 16, 3) := by decide +kernel
theorem dL_cut_65 : decode cL_cut 65 = .ok (.aload_n 0, 1) := by decide +kernel
theorem dL_cut_66 : decode cL_cut 66 = .ok (.iconst 2, 1) := by decide +kernel
theorem dL_cut_67 : decode cL_cut 67 = .ok (.invokevirtual 15, 3) := by decide +kernel
theorem dL_cut_70 : decode cL_cut 70 = .ok (.iconst 1, 1) := by decide +kernel
theorem dL_cut_71 : decode cL_cut 71 = .ok (.if_icmp .ne 7, 3) := by decide +kernel
theorem dL_cut_74 : decode cL_cut 74 = .ok (.iconst 1, 1) := by decide +kernel
theorem dL_cut_75 : decode cL_cut 75 = .ok (.goto 4, 3) := by decide +kernel
theorem dL_cut_78 : decode cL_cut 78 = .ok (.iconst 0, 1) := by decide +kernel
theorem dL_cut_79 : decode cL_cut 79 = .ok (.istore 5, 2) := by decide +kernel
theorem dL_cut_81 : decode cL_cut 81 = .ok (.aload_n 0, 1) := by decide +kernel
theorem dL_cut_82 : decode cL_cut 82 = .ok (.iconst 0, 1) := by decide +kernel
theorem dL_cut_83 : decode cL_cut 83 = .ok (.iconst 0, 1) := by decide +kernel
theorem dL_cut_84 : decode cL_cut 84 = .ok (.iconst 1, 1) := by decide +kernel
theorem dL_cut_85 : decode cL_cut 85 = .ok (.invokevirtual 99, 3) := by decide +kernel
theorem dL_cut_88 : decode cL_cut 88 = .ok (.istore 6, 2) := by decide +kernel
theorem dL_cut_90 : decode cL_cut 90 = .ok (.iload 5, 2) := by decide +kernel
theorem dL_cut_92 : decode cL_cut 92 = .ok (.ifCond .eq 21, 3) := by decide +kernel
theorem dL_cut_95 : decode cL_cut 95 = .ok (.iload 6, 2) := by decide +kernel
theorem dL_cut_97 : decode cL_cut 97 = .ok (.ifCond .le 16, 3) := by decide +kernel
theorem dL_cut_100 : decode cL_cut 100 = .ok (.aload_n 0, 1) := by decide +kernel
theorem dL_cut_101 : decode cL_cut 101 = .ok (.iconst 0, 1) := by decide +kernel
theorem dL_cut_102 : decode cL_cut 102 = .ok (.iconst 2, 1) := by decide +kernel
theorem dL_cut_103 : decode cL_cut 103 = .ok (.invokevirtual 102, 3) := by decide +kernel
theorem dL_cut_106 : decode cL_cut 106 = .ok (.ifCond .ne 7, 3) := by decide +kernel
theorem dL_cut_109 : decode cL_cut 109 = .ok (.iconst 1, 1) := by decide +kernel
theorem dL_cut_110 : decode cL_cut 110 = .ok (.goto 4, 3) := by decide +kernel
theorem dL_cut_113 : decode cL_cut 113 = .ok (.iconst 0, 1) := by decide +kernel
theorem dL_cut_114 : decode cL_cut 114 = .ok (.istore 5, 2) := by decide +kernel
theorem dL_cut_116 : decode cL_cut 116 = .ok (.iconst 0, 1) := by decide +kernel
theorem dL_cut_117 : decode cL_cut 117 = .ok (.istore 7, 2) := by decide +kernel
theorem dL_cut_119 : decode cL_cut 119 = .ok (.iload 7, 2) := by decide +kernel
theorem dL_cut_121 : decode cL_cut 121 = .ok (.iload 6, 2) := by decide +kernel
theorem dL_cut_123 : decode cL_cut 123 = .ok (.if_icmp .ge 61, 3) := by decide +kernel
theorem dL_cut_126 : decode cL_cut 126 = .ok (.iload 5, 2) := by decide +kernel
theorem dL_cut_128 : decode cL_cut 128 = .ok (.ifCond .eq 56, 3) := by decide +kernel
theorem dL_cut_131 : decode cL_cut 131 = .ok (.aload_n 0, 1) := by decide +kernel
theorem dL_cut_132 : decode cL_cut 132 = .ok (.iconst 0, 1) := by decide +kernel
theorem dL_cut_133 : decode cL_cut 133 = .ok (.invokevirtual 105, 3) := by decide +kernel
theorem dL_cut_136 : decode cL_cut 136 = .ok (.iload 6, 2) := by decide +kernel
theorem dL_cut_138 : decode cL_cut 138 = .ok (.iload 7, 2) := by decide +kernel
theorem dL_cut_140 : decode cL_cut 140 = .ok (.isub, 1) := by decide +kernel
theorem dL_cut_141 : decode cL_cut 141 = .ok (.if_icmp .ne 34, 3) := by decide +kernel
theorem dL_cut_144 : decode cL_cut 144 = .ok (.aload_n 0, 1) := by decide +kernel
theorem dL_cut_145 : decode cL_cut 145 = .ok (.iconst 0, 1) := by decide +kernel
theorem dL_cut_146 : decode cL_cut 146 = .ok (.invokevirtual 108, 3) := by decide +kernel
theorem dL_cut_149 : decode cL_cut 149 = .ok (.iconst 1, 1) := by decide +kernel
theorem dL_cut_150 : decode cL_cut 150 = .ok (.if_icmp .ne 25, 3) := by decide +kernel
theorem dL_cut_153 : decode cL_cut 153 = .ok (.aload_n 0, 1) := by decide +kernel
theorem dL_cut_154 : decode cL_cut 154 = .ok (.iconst 0, 1) := by decide +kernel
theorem dL_cut_155 : decode cL_cut 155 = .ok (.iconst 3, 1) := by decide +kernel
theorem dL_cut_156 : decode cL_cut 156 = .ok (.invokevirtual 111, 3) := by decide +kernel
theorem dL_cut_159 : decode cL_cut 159 = .ok (.ifCond .le 16, 3) := by decide +kernel
theorem dL_cut_162 : decode cL_cut 162 = .ok (.aload_n 0, 1) := by decide +kernel
theorem dL_cut_163 : decode cL_cut 163 = .ok (.iconst 0, 1) := by decide +kernel
theorem dL_cut_164 : decode cL_cut 164 = .ok (.iconst 3, 1) := by decide +kernel
theorem dL_cut_165 : decode cL_cut 165 = .ok (.invokevirtual 114, 3) := by decide +kernel
theorem dL_cut_168 : decode cL_cut 168 = .ok (.ifCond .le 7, 3) := by decide +kernel
theorem dL_cut_171 : decode cL_cut 171 = .ok (.iconst 1, 1) := by decide +kernel
theorem dL_cut_172 : decode cL_cut 172 = .ok (.goto 4, 3) := by decide +kernel
theorem dL_cut_175 : decode cL_cut 175 = .ok (.iconst 0, 1) := by decide +kernel
theorem dL_cut_176 : decode cL_cut 176 = .ok (.istore 5, 2) := by decide +kernel
theorem dL_cut_178 : decode cL_cut 178 = .ok (.iinc 7 1, 3) := by decide +kernel
theorem dL_cut_181 : decode cL_cut 181 = .ok (.goto (-62), 3) := by decide +kernel
theorem dL_cut_184 : decode cL_cut 184 = .ok (.iload 5, 2) := by decide +kernel
theorem dL_cut_186 : decode cL_cut 186 = .ok (.ifCond .eq 60, 3) := by decide +kernel
theorem dL_cut_189 : decode cL_cut 189 = .ok (.aload_n 0, 1) := by decide +kernel
theorem dL_cut_190 : decode cL_cut 190 = .ok (.iconst 0, 1) := by decide +kernel
theorem dL_cut_191 : decode cL_cut 191 = .ok (.invokevirtual 108, 3) := by decide +kernel
theorem dL_cut_194 : decode cL_cut 194 = .ok (.ifCond .ne 52, 3) := by decide +kernel
theorem dL_cut_197 : decode cL_cut 197 = .ok (.aload_n 0, 1) := by decide +kernel
theorem dL_cut_198 : decode cL_cut 198 = .ok (.iconst 0, 1) := by decide +kernel
theorem dL_cut_199 : decode cL_cut 199 = .ok (.iconst 4, 1) := by decide +kernel
theorem dL_cut_200 : decode cL_cut 200 = .ok (.invokevirtual 117, 3) := by decide +kernel
theorem dL_cut_203 : decode cL_cut 203 = .ok (.aload_n 0, 1) := by decide +kernel
theorem dL_cut_204 : decode cL_cut 204 = .ok (.iconst 0, 1) := by decide +kernel
theorem dL_cut_205 : decode cL_cut 205 = .ok (.invokevirtual 96, 3) := by decide +kernel
theorem dL_cut_208 : decode cL_cut 208 = .ok (.if_icmp .ne 38, 3) := by decide +kernel
theorem dL_cut_211 : decode cL_cut 211 = .ok (.aload_n 0, 1) := by decide +kernel
theorem dL_cut_212 : decode cL_cut 212 = .ok (.iconst 0, 1) := by decide +kernel
theorem dL_cut_213 : decode cL_cut 213 = .ok (.iconst 4, 1) := by decide +kernel
theorem dL_cut_214 : decode cL_cut 214 = .ok (.invokevirtual 77, 3) := by decide +kernel
theorem dL_cut_217 : decode cL_cut 217 = .ok (.iconst 1, 1) := by decide +kernel
theorem dL_cut_218 : decode cL_cut 218 = .ok (.if_icmp .ne 28, 3) := by decide +kernel
theorem dL_cut_221 : decode cL_cut 221 = .ok (.aload_n 0, 1) := by decide +kernel
theorem dL_cut_222 : decode cL_cut 222 = .ok (.iconst 0, 1) := by decide +kernel
theorem dL_cut_223 : decode cL_cut 223 = .ok (.iconst 3, 1) := by decide +kernel
theorem dL_cut_224 : decode cL_cut 224 = .ok (.invokevirtual 111, 3) := by decide +kernel
theorem dL_cut_227 : decode cL_cut 227 = .ok (.bipush (-8), 2) := by decide +kernel
theorem dL_cut_229 : decode cL_cut 229 = .ok (.if_icmp .ne 17, 3) := by decide +kernel
theorem dL_cut_232 : decode cL_cut 232 = .ok (.aload_n 0, 1) := by decide +kernel
theorem dL_cut_233 : decode cL_cut 233 = .ok (.iconst 0, 1) := by decide +kernel
theorem dL_cut_234 : decode cL_cut 234 = .ok (.invokevirtual 108, 3) := by decide +kernel
theorem dL_cut_237 : decode cL_cut 237 = .ok (.bipush (-4), 2) := by decide +kernel
theorem dL_cut_239 : decode cL_cut 239 = .ok (.if_icmp .ne 7, 3) := by decide +kernel
theorem dL_cut_242 : decode cL_cut 242 = .ok (.iconst 1, 1) := by decide +kernel
theorem dL_cut_243 : decode cL_cut 243 = .ok (.goto 4, 3) := by decide +kernel
theorem dL_cut_246 : decode cL_cut 246 = .ok (.iconst 0, 1) := by decide +kernel
theorem dL_cut_247 : decode cL_cut 247 = .ok (.istore 5, 2) := by decide +kernel
theorem dL_cut_249 : decode cL_cut 249 = .ok (.aload_n 0, 1) := by decide +kernel
theorem dL_cut_250 : decode cL_cut 250 = .ok (.iconst 1, 1) := by decide +kernel
theorem dL_cut_251 : decode cL_cut 251 = .ok (.iconst 0, 1) := by decide +kernel
theorem dL_cut_252 : decode cL_cut 252 = .ok (.iconst 1, 1) := by decide +kernel
theorem dL_cut_253 : decode cL_cut 253 = .ok (.invokevirtual 120, 3) := by decide +kernel
theorem dL_cut_256 : decode cL_cut 256 = .ok (.istore 7, 2) := by decide +kernel
theorem dL_cut_258 : decode cL_cut 258 = .ok (.iconst 0, 1) := by decide +kernel
theorem dL_cut_259 : decode cL_cut 259 = .ok (.istore 8, 2) := by decide +kernel
theorem dL_cut_261 : decode cL_cut 261 = .ok (.iload 8, 2) := by decide +kernel
theorem dL_cut_263 : decode cL_cut 263 = .ok (.iload 7, 2) := by decide +kernel
theorem dL_cut_265 : decode cL_cut 265 = .ok (.if_icmp .ge 54, 3) := by decide +kernel
theorem dL_cut_268 : decode cL_cut 268 = .ok (.iload 5, 2) := by decide +kernel
theorem dL_cut_270 : decode cL_cut 270 = .ok (.ifCond .eq 49, 3) := by decide +kernel
theorem dL_cut_273 : decode cL_cut 273 = .ok (.aload_n 0, 1) := by decide +kernel
theorem dL_cut_274 : decode cL_cut 274 = .ok (.iconst 1, 1) := by decide +kernel
theorem dL_cut_275 : decode cL_cut 275 = .ok (.invokevirtual 105, 3) := by decide +kernel
theorem dL_cut_278 : decode cL_cut 278 = .ok (.iload 7, 2) := by decide +kernel
theorem dL_cut_280 : decode cL_cut 280 = .ok (.iload 8, 2) := by decide +kernel
theorem dL_cut_282 : decode cL_cut 282 = .ok (.isub, 1) := by decide +kernel
theorem dL_cut_283 : decode cL_cut 283 = .ok (.if_icmp .ne 27, 3) := by decide +kernel
theorem dL_cut_286 : decode cL_cut 286 = .ok (.aload_n 0, 1) := by decide +kernel
theorem dL_cut_287 : decode cL_cut 287 = .ok (.iconst 1, 1) := by decide +kernel
theorem dL_cut_288 : decode cL_cut 288 = .ok (.iconst 3, 1) := by decide +kernel
theorem dL_cut_289 : decode cL_cut 289 = .ok (.invokevirtual 111, 3) := by decide +kernel
theorem dL_cut_292 : decode cL_cut 292 = .ok (.ifCond .le 18, 3) := by decide +kernel
theorem dL_cut_295 : decode cL_cut 295 = .ok (.aload_n 0, 1) := by decide +kernel
theorem dL_cut_296 : decode cL_cut 296 = .ok (.iconst 3, 1) := by decide +kernel
theorem dL_cut_297 : decode cL_cut 297 = .ok (.iload_n 3, 1) := by decide +kernel
theorem dL_cut_298 : decode cL_cut 298 = .ok (.iload 4, 2) := by decide +kernel
theorem dL_cut_300 : decode cL_cut 300 = .ok (.invokestatic 123, 3) := by decide +kernel
theorem dL_cut_303 : decode cL_cut 303 = .ok (.ifCond .eq 7, 3) := by decide +kernel
theorem dL_cut_306 : decode cL_cut 306 = .ok (.iconst 1, 1) := by decide +kernel
theorem dL_cut_307 : decode cL_cut 307 = .ok (.goto 4, 3) := by decide +kernel
theorem dL_cut_310 : decode cL_cut 310 = .ok (.iconst 0, 1) := by decide +kernel
theorem dL_cut_311 : decode cL_cut 311 = .ok (.istore 5, 2) := by decide +kernel
theorem dL_cut_313 : decode cL_cut 313 = .ok (.iinc 8 1, 3) := by decide +kernel
theorem dL_cut_316 : decode cL_cut 316 = .ok (.goto (-55), 3) := by decide +kernel
theorem dL_cut_319 : decode cL_cut 319 = .ok (.iload 5, 2) := by decide +kernel
theorem dL_cut_321 : decode cL_cut 321 = .ok (.ifCond .eq 27, 3) := by decide +kernel
theorem dL_cut_324 : decode cL_cut 324 = .ok (.iload 7, 2) := by decide +kernel
theorem dL_cut_326 : decode cL_cut 326 = .ok (.ifCond .lt 22, 3) := by decide +kernel
theorem dL_cut_329 : decode cL_cut 329 = .ok (.iload 7, 2) := by decide +kernel
theorem dL_cut_331 : decode cL_cut 331 = .ok (.iload 6, 2) := by decide +kernel
theorem dL_cut_333 : decode cL_cut 333 = .ok (.if_icmp .gt 15, 3) := by decide +kernel
theorem dL_cut_336 : decode cL_cut 336 = .ok (.aload_n 0, 1) := by decide +kernel
theorem dL_cut_337 : decode cL_cut 337 = .ok (.iconst 1, 1) := by decide +kernel
theorem dL_cut_338 : decode cL_cut 338 = .ok (.invokevirtual 108, 3) := by decide +kernel
theorem dL_cut_341 : decode cL_cut 341 = .ok (.ifCond .ne 7, 3) := by decide +kernel
theorem dL_cut_344 : decode cL_cut 344 = .ok (.iconst 1, 1) := by decide +kernel
theorem dL_cut_345 : decode cL_cut 345 = .ok (.goto 4, 3) := by decide +kernel
theorem dL_cut_348 : decode cL_cut 348 = .ok (.iconst 0, 1) := by decide +kernel
theorem dL_cut_349 : decode cL_cut 349 = .ok (.ireturn, 1) := by decide +kernel
theorem dL_joined_0 : decode cL_joined 0 = .ok (.iconst 1, 1) := by decide +kernel
theorem dL_joined_1 : decode cL_joined 1 = .ok (.aload_n 1, 1) := by decide +kernel
theorem dL_joined_2 : decode cL_joined 2 = .ok (.iload_n 2, 1) := by decide +kernel
theorem dL_joined_3 : decode cL_joined 3 = .ok (.invokestatic 21, 3) := by decide +kernel
theorem dL_joined_6 : decode cL_joined 6 = .ok (.iconst 5, 1) := by decide +kernel
theorem dL_joined_7 : decode cL_joined 7 = .ok (.invokestatic 9, 3) := by decide +kernel
theorem dL_joined_10 : decode cL_joined 10 = .ok (.iadd, 1) := by decide +kernel
theorem dL_joined_11 : decode cL_joined 11 = .ok (.istore_n 3, 1) := by decide +kernel
theorem dL_joined_12 : decode cL_joined 12 = .ok (.aload_n 0, 1) := by decide +kernel
theorem dL_joined_13 : decode cL_joined 13 = .ok (.iconst 0, 1) := by decide +kernel
theorem dL_joined_14 : decode cL_joined 14 = .ok (.bipush 44, 2) := by decide +kernel
theorem dL_joined_16 : decode cL_joined 16 = .ok (.invokestatic 89, 3) := by decide +kernel
theorem dL_joined_19 : decode cL_joined 19 = .ok (.ifCond .eq 16, 3) := by decide +kernel
theorem dL_joined_22 : decode cL_joined 22 = .ok (.aload_n 0, 1) := by decide +kernel
theorem dL_joined_23 : decode cL_joined 23 = .ok (.iconst 1, 1) := by decide +kernel
theorem dL_joined_24 : decode cL_joined 24 = .ok (.iconst 0, 1) := by decide +kernel
theorem dL_joined_25 : decode cL_joined 25 = .ok (.invokevirtual 102, 3) := by decide +kernel
theorem dL_joined_28 : decode cL_joined 28 = .ok (.ifCond .ne 7, 3) := by decide +kernel
theorem dL_joined_31 : decode cL_joined 31 = .ok (.iconst 1, 1) := by decide +kernel
theorem dL_joined_32 : decode cL_joined 32 = .ok (.goto 4, 3) := by decide +kernel
theorem dL_joined_35 : decode cL_joined 35 = .ok (.iconst 0, 1) := by decide +kernel
theorem dL_joined_36 : decode cL_joined 36 = .ok (.istore 4, 2) := by decide +kernel
theorem dL_joined_38 : decode cL_joined 38 = .ok (.iconst 0, 1) := by decide +kernel
theorem dL_joined_39 : decode cL_joined 39 = .ok (.istore 5, 2) := by decide +kernel
theorem dL_joined_41 : decode cL_joined 41 = .ok (.iload 5, 2) := by decide +kernel
theorem dL_joined_43 : decode cL_joined 43 = .ok (.iload_n 3, 1) := by decide +kernel
theorem dL_joined_44 : decode cL_joined 44 = .ok (.if_icmp .ge 81, 3) := by decide +kernel
theorem dL_joined_47 : decode cL_joined 47 = .ok (.iload 4, 2) := by decide +kernel
theorem dL_joined_49 : decode cL_joined 49 = .ok (.ifCond .eq 67, 3) := by decide +kernel
theorem dL_joined_52 : decode cL_joined 52 = .ok (.aload_n 0, 1) := by decide +kernel
theorem dL_joined_53 : decode cL_joined 53 = .ok (.iconst 1, 1) := by decide +kernel
theorem dL_joined_54 : decode cL_joined 54 = .ok (.bipush 45, 2) := by decide +kernel
theorem dL_joined_56 : decode cL_joined 56 = .ok (.aload_n 1, 1) := by decide +kernel
theorem dL_joined_57 : decode cL_joined 57 = .ok (.iload_n 2, 1) := by decide +kernel
theorem dL_joined_58 : decode cL_joined 58 = .ok (.iload 5, 2) := by decide +kernel
theorem dL_joined_60 : decode cL_joined 60 = .ok (.iadd, 1) := by decide +kernel
theorem dL_joined_61 : decode cL_joined 61 = .ok (.invokestatic 21, 3) := by decide +kernel
theorem dL_joined_64 : decode cL_joined 64 = .ok (.sipush 200, 3) := by decide +kernel
theorem dL_joined_67 : decode cL_joined 67 = .ok (.invokestatic 9, 3) := by decide +kernel
theorem dL_joined_70 : decode cL_joined 70 = .ok (.iadd, 1) := by decide +kernel
theorem dL_joined_71 : decode cL_joined 71 = .ok (.invokestatic 89, 3) := by decide +kernel
theorem dL_joined_74 : decode cL_joined 74 = .ok (.ifCond .eq 42, 3) := by decide +kernel
theorem dL_joined_77 : decode cL_joined 77 = .ok (.aload_n 1, 1) := by decide +kernel
theorem dL_joined_78 : decode cL_joined 78 = .ok (.iload_n 2, 1) := by decide +kernel
theorem dL_joined_79 : decode cL_joined 79 = .ok (.iload 5, 2) := by decide +kernel
theorem dL_joined_81 : decode cL_joined 81 = .ok (.iadd, 1) := by decide +kernel
theorem dL_joined_82 : decode cL_joined 82 = .ok (.invokestatic 21, 3) := by decide +kernel
theorem dL_joined_85 : decode cL_joined 85 = .ok (.iconst 2, 1) := by decide +kernel
theorem dL_joined_86 : decode cL_joined 86 = .ok (.invokestatic 9, 3) := by decide +kernel
theorem dL_joined_89 : decode cL_joined 89 = .ok (.ifCond .eq 14, 3) := by decide +kernel
theorem dL_joined_92 : decode cL_joined 92 = .ok (.aload_n 0, 1) := by decide +kernel
theorem dL_joined_93 : decode cL_joined 93 = .ok (.iconst 1, 1) := by decide +kernel
theorem dL_joined_94 : decode cL_joined 94 = .ok (.bipush 65, 2) := by decide +kernel
theorem dL_joined_96 : decode cL_joined 96 = .ok (.invokevirtual 28, 3) := by decide +kernel
theorem dL_joined_99 : decode cL_joined 99 = .ok (.iconst 2, 1) := by decide +kernel
theorem dL_joined_100 : decode cL_joined 100 = .ok (.if_icmp .ne 16, 3) := by decide +kernel
theorem dL_joined_103 : decode cL_joined 103 = .ok (.aload_n 0, 1) := by decide +kernel
theorem dL_joined_104 : decode cL_joined 104 = .ok (.iconst 1, 1) := by decide +kernel
theorem dL_joined_105 : decode cL_joined 105 = .ok (.iconst 1, 1) := by decide +kernel
theorem dL_joined_106 : decode cL_joined 106 = .ok (.invokevirtual 114, 3) := by decide +kernel
theorem dL_joined_109 : decode cL_joined 109 = .ok (.ifCond .le 7, 3) := by decide +kernel
theorem dL_joined_112 : decode cL_joined 112 = .ok (.iconst 1, 1) := by decide +kernel
theorem dL_joined_113 : decode cL_joined 113 = .ok (.goto 4, 3) := by decide +kernel
theorem dL_joined_116 : decode cL_joined 116 = .ok (.iconst 0, 1) := by decide +kernel
theorem dL_joined_117 : decode cL_joined 117 = .ok (.istore 4, 2) := by decide +kernel
theorem dL_joined_119 : decode cL_joined 119 = .ok (.iinc 5 1, 3) := by decide +kernel
theorem dL_joined_122 : decode cL_joined 122 = .ok (.goto (-81), 3) := by decide +kernel
theorem dL_joined_125 : decode cL_joined 125 = .ok (.iload 4, 2) := by decide +kernel
theorem dL_joined_127 : decode cL_joined 127 = .ok (.ifCond .eq 32, 3) := by decide +kernel
theorem dL_joined_130 : decode cL_joined 130 = .ok (.aload_n 0, 1) := by decide +kernel
theorem dL_joined_131 : decode cL_joined 131 = .ok (.iconst 1, 1) := by decide +kernel
theorem dL_joined_132 : decode cL_joined 132 = .ok (.iconst 2, 1) := by decide +kernel
theorem dL_joined_133 : decode cL_joined 133 = .ok (.invokevirtual 117, 3) := by decide +kernel
theorem dL_joined_136 : decode cL_joined 136 = .ok (.aload_n 0, 1) := by decide +kernel
theorem dL_joined_137 : decode cL_joined 137 = .ok (.iconst 1, 1) := by decide +kernel
theorem dL_joined_138 : decode cL_joined 138 = .ok (.invokevirtual 127, 3) := by decide +kernel
theorem dL_joined_141 : decode cL_joined 141 = .ok (.if_icmp .ne 18, 3) := by decide +kernel
theorem dL_joined_144 : decode cL_joined 144 = .ok (.aload_n 0, 1) := by decide +kernel
theorem dL_joined_145 : decode cL_joined 145 = .ok (.iconst 0, 1) := by decide +kernel
theorem dL_joined_146 : decode cL_joined 146 = .ok (.iconst 2, 1) := by decide +kernel
theorem dL_joined_147 : decode cL_joined 147 = .ok (.iconst 0, 1) := by decide +kernel
theorem dL_joined_148 : decode cL_joined 148 = .ok (.invokevirtual 120, 3) := by decide +kernel
theorem dL_joined_151 : decode cL_joined 151 = .ok (.iload_n 3, 1) := by decide +kernel
theorem dL_joined_152 : decode cL_joined 152 = .ok (.if_icmp .ne 7, 3) := by decide +kernel
theorem dL_joined_155 : decode cL_joined 155 = .ok (.iconst 1, 1) := by decide +kernel
theorem dL_joined_156 : decode cL_joined 156 = .ok (.goto 4, 3) := by decide +kernel
theorem dL_joined_159 : decode cL_joined 159 = .ok (.iconst 0, 1) := by decide +kernel
theorem dL_joined_160 : decode cL_joined 160 = .ok (.istore 4, 2) := by decide +kernel
theorem dL_joined_162 : decode cL_joined 162 = .ok (.iconst 0, 1) := by decide +kernel
theorem dL_joined_163 : decode cL_joined 163 = .ok (.istore 5, 2) := by decide +kernel
theorem dL_joined_165 : decode cL_joined 165 = .ok (.iload 5, 2) := by decide +kernel
theorem dL_joined_167 : decode cL_joined 167 = .ok (.iload_n 3, 1) := by decide +kernel
theorem dL_joined_168 : decode cL_joined 168 = .ok (.if_icmp .ge 70, 3) := by decide +kernel
theorem dL_joined_171 : decode cL_joined 171 = .ok (.iload 4, 2) := by decide +kernel
theorem dL_joined_173 : decode cL_joined 173 = .ok (.ifCond .eq 65, 3) := by decide +kernel
theorem dL_joined_176 : decode cL_joined 176 = .ok (.aload_n 0, 1) := by decide +kernel
theorem dL_joined_177 : decode cL_joined 177 = .ok (.iconst 0, 1) := by decide +kernel
theorem dL_joined_178 : decode cL_joined 178 = .ok (.iconst 3, 1) := by decide +kernel
theorem dL_joined_179 : decode cL_joined 179 = .ok (.invokevirtual 111, 3) := by decide +kernel
theorem dL_joined_182 : decode cL_joined 182 = .ok (.iconst 1, 1) := by decide +kernel
theorem dL_joined_183 : decode cL_joined 183 = .ok (.aload_n 1, 1) := by decide +kernel
theorem dL_joined_184 : decode cL_joined 184 = .ok (.iload_n 2, 1) := by decide +kernel
theorem dL_joined_185 : decode cL_joined 185 = .ok (.iload 5, 2) := by decide +kernel
theorem dL_joined_187 : decode cL_joined 187 = .ok (.iadd, 1) := by decide +kernel
theorem dL_joined_188 : decode cL_joined 188 = .ok (.invokestatic 21, 3) := by decide +kernel
theorem dL_joined_191 : decode cL_joined 191 = .ok (.iconst 2, 1) := by decide +kernel
theorem dL_joined_192 : decode cL_joined 192 = .ok (.invokestatic 9, 3) := by decide +kernel
theorem dL_joined_195 : decode cL_joined 195 = .ok (.iadd, 1) := by decide +kernel
theorem dL_joined_196 : decode cL_joined 196 = .ok (.if_icmp .ne 33, 3) := by decide +kernel
theorem dL_joined_199 : decode cL_joined 199 = .ok (.aload_n 0, 1) := by decide +kernel
theorem dL_joined_200 : decode cL_joined 200 = .ok (.iconst 3, 1) := by decide +kernel
theorem dL_joined_201 : decode cL_joined 201 = .ok (.iconst 0, 1) := by decide +kernel
theorem dL_joined_202 : decode cL_joined 202 = .ok (.invokevirtual 93, 3) := by decide +kernel
theorem dL_joined_205 : decode cL_joined 205 = .ok (.bipush 45, 2) := by decide +kernel
theorem dL_joined_207 : decode cL_joined 207 = .ok (.aload_n 1, 1) := by decide +kernel
theorem dL_joined_208 : decode cL_joined 208 = .ok (.iload_n 2, 1) := by decide +kernel
theorem dL_joined_209 : decode cL_joined 209 = .ok (.iload 5, 2) := by decide +kernel
theorem dL_joined_211 : decode cL_joined 211 = .ok (.iadd, 1) := by decide +kernel
theorem dL_joined_212 : decode cL_joined 212 = .ok (.invokestatic 21, 3) := by decide +kernel
theorem dL_joined_215 : decode cL_joined 215 = .ok (.sipush 200, 3) := by decide +kernel
theorem dL_joined_218 : decode cL_joined 218 = .ok (.invokestatic 9, 3) := by decide +kernel
theorem dL_joined_221 : decode cL_joined 221 = .ok (.iadd, 1) := by decide +kernel
theorem dL_joined_222 : decode cL_joined 222 = .ok (.if_icmp .ne 7, 3) := by decide +kernel
theorem dL_joined_225 : decode cL_joined 225 = .ok (.iconst 1, 1) := by decide +kernel
theorem dL_joined_226 : decode cL_joined 226 = .ok (.goto 4, 3) := by decide +kernel
theorem dL_joined_229 : decode cL_joined 229 = .ok (.iconst 0, 1) := by decide +kernel
theorem dL_joined_230 : decode cL_joined 230 = .ok (.istore 4, 2) := by decide +kernel
theorem dL_joined_232 : decode cL_joined 232 = .ok (.iinc 5 1, 3) := by decide +kernel
theorem dL_joined_235 : decode cL_joined 235 = .ok (.goto (-70), 3) := by decide +kernel
theorem dL_joined_238 : decode cL_joined 238 = .ok (.iload 4, 2) := by decide +kernel
theorem dL_joined_240 : decode cL_joined 240 = .ok (.ifCond .eq 15, 3) := by decide +kernel
theorem dL_joined_243 : decode cL_joined 243 = .ok (.aload_n 0, 1) := by decide +kernel
theorem dL_joined_244 : decode cL_joined 244 = .ok (.iconst 0, 1) := by decide +kernel
theorem dL_joined_245 : decode cL_joined 245 = .ok (.invokevirtual 108, 3) := by decide +kernel
theorem dL_joined_248 : decode cL_joined 248 = .ok (.ifCond .ne 7, 3) := by decide +kernel
theorem dL_joined_251 : decode cL_joined 251 = .ok (.iconst 1, 1) := by decide +kernel
theorem dL_joined_252 : decode cL_joined 252 = .ok (.goto 4, 3) := by decide +kernel
theorem dL_joined_255 : decode cL_joined 255 = .ok (.iconst 0, 1) := by decide +kernel
theorem dL_joined_256 : decode cL_joined 256 = .ok (.ireturn, 1) := by decide +kernel
theorem dL_law_0 : decode cL_law 0 = .ok (.new 16, 3) := by decide +kernel
theorem dL_law_3 : decode cL_law 3 = .ok (.dup, 1) := by decide +kernel
theorem dL_law_4 : decode cL_law 4 = .ok (.invokespecial 130, 3) := by decide +kernel
theorem dL_law_7 : decode cL_law 7 = .ok (.astore_n 1, 1) := by decide +kernel
theorem dL_law_8 : decode cL_law 8 = .ok (.aload_n 1, 1) := by decide +kernel
theorem dL_law_9 : decode cL_law 9 = .ok (.aload_n 0, 1) := by decide +kernel
theorem dL_law_10 : decode cL_law 10 = .ok (.invokestatic 131, 3) := by decide +kernel
theorem dL_law_13 : decode cL_law 13 = .ok (.ifCond .eq 35, 3) := by decide +kernel
theorem dL_law_16 : decode cL_law 16 = .ok (.aload_n 1, 1) := by decide +kernel
theorem dL_law_17 : decode cL_law 17 = .ok (.iconst 2, 1) := by decide +kernel
theorem dL_law_18 : decode cL_law 18 = .ok (.invokestatic 135, 3) := by decide +kernel
theorem dL_law_21 : decode cL_law 21 = .ok (.ifCond .eq 27, 3) := by decide +kernel
theorem dL_law_24 : decode cL_law 24 = .ok (.aload_n 1, 1) := by decide +kernel
theorem dL_law_25 : decode cL_law 25 = .ok (.aload_n 0, 1) := by decide +kernel
theorem dL_law_26 : decode cL_law 26 = .ok (.iconst 0, 1) := by decide +kernel
theorem dL_law_27 : decode cL_law 27 = .ok (.invokestatic 21, 3) := by decide +kernel
theorem dL_law_30 : decode cL_law 30 = .ok (.invokestatic 139, 3) := by decide +kernel
theorem dL_law_33 : decode cL_law 33 = .ok (.ifCond .eq 15, 3) := by decide +kernel
theorem dL_law_36 : decode cL_law 36 = .ok (.aload_n 1, 1) := by decide +kernel
theorem dL_law_37 : decode cL_law 37 = .ok (.iconst 3, 1) := by decide +kernel
theorem dL_law_38 : decode cL_law 38 = .ok (.invokestatic 135, 3) := by decide +kernel
theorem dL_law_41 : decode cL_law 41 = .ok (.ifCond .eq 7, 3) := by decide +kernel
theorem dL_law_44 : decode cL_law 44 = .ok (.iconst 1, 1) := by decide +kernel
theorem dL_law_45 : decode cL_law 45 = .ok (.goto 4, 3) := by decide +kernel
theorem dL_law_48 : decode cL_law 48 = .ok (.iconst 0, 1) := by decide +kernel
theorem dL_law_49 : decode cL_law 49 = .ok (.istore_n 2, 1) := by decide +kernel
theorem dL_law_50 : decode cL_law 50 = .ok (.iconst 0, 1) := by decide +kernel
theorem dL_law_51 : decode cL_law 51 = .ok (.istore_n 3, 1) := by decide +kernel
theorem dL_law_52 : decode cL_law 52 = .ok (.iload_n 3, 1) := by decide +kernel
theorem dL_law_53 : decode cL_law 53 = .ok (.iconst 3, 1) := by decide +kernel
theorem dL_law_54 : decode cL_law 54 = .ok (.if_icmp .ge 49, 3) := by decide +kernel
theorem dL_law_57 : decode cL_law 57 = .ok (.iload_n 2, 1) := by decide +kernel
theorem dL_law_58 : decode cL_law 58 = .ok (.ifCond .eq 45, 3) := by decide +kernel
theorem dL_law_61 : decode cL_law 61 = .ok (.aload_n 1, 1) := by decide +kernel
theorem dL_law_62 : decode cL_law 62 = .ok (.aload_n 0, 1) := by decide +kernel
theorem dL_law_63 : decode cL_law 63 = .ok (.bipush 40, 2) := by decide +kernel
theorem dL_law_65 : decode cL_law 65 = .ok (.bipush 20, 2) := by decide +kernel
theorem dL_law_67 : decode cL_law 67 = .ok (.iload_n 3, 1) := by decide +kernel
theorem dL_law_68 : decode cL_law 68 = .ok (.imul, 1) := by decide +kernel
theorem dL_law_69 : decode cL_law 69 = .ok (.iadd, 1) := by decide +kernel
theorem dL_law_70 : decode cL_law 70 = .ok (.invokestatic 142, 3) := by decide +kernel
theorem dL_law_73 : decode cL_law 73 = .ok (.ifCond .eq 22, 3) := by decide +kernel
theorem dL_law_76 : decode cL_law 76 = .ok (.aload_n 1, 1) := by decide +kernel
theorem dL_law_77 : decode cL_law 77 = .ok (.aload_n 0, 1) := by decide +kernel
theorem dL_law_78 : decode cL_law 78 = .ok (.bipush 44, 2) := by decide +kernel
theorem dL_law_80 : decode cL_law 80 = .ok (.bipush 20, 2) := by decide +kernel
theorem dL_law_82 : decode cL_law 82 = .ok (.iload_n 3, 1) := by decide +kernel
theorem dL_law_83 : decode cL_law 83 = .ok (.imul, 1) := by decide +kernel
theorem dL_law_84 : decode cL_law 84 = .ok (.iadd, 1) := by decide +kernel
theorem dL_law_85 : decode cL_law 85 = .ok (.invokestatic 146, 3) := by decide +kernel
theorem dL_law_88 : decode cL_law 88 = .ok (.ifCond .eq 7, 3) := by decide +kernel
theorem dL_law_91 : decode cL_law 91 = .ok (.iconst 1, 1) := by decide +kernel
theorem dL_law_92 : decode cL_law 92 = .ok (.goto 4, 3) := by decide +kernel
theorem dL_law_95 : decode cL_law 95 = .ok (.iconst 0, 1) := by decide +kernel
theorem dL_law_96 : decode cL_law 96 = .ok (.istore_n 2, 1) := by decide +kernel
theorem dL_law_97 : decode cL_law 97 = .ok (.iinc 3 1, 3) := by decide +kernel
theorem dL_law_100 : decode cL_law 100 = .ok (.goto (-48), 3) := by decide +kernel
theorem dL_law_103 : decode cL_law 103 = .ok (.iload_n 2, 1) := by decide +kernel
theorem dL_law_104 : decode cL_law 104 = .ok (.ifCond .eq 24, 3) := by decide +kernel
theorem dL_law_107 : decode cL_law 107 = .ok (.aload_n 1, 1) := by decide +kernel
theorem dL_law_108 : decode cL_law 108 = .ok (.iconst 1, 1) := by decide +kernel
theorem dL_law_109 : decode cL_law 109 = .ok (.invokevirtual 148, 3) := by decide +kernel
theorem dL_law_112 : decode cL_law 112 = .ok (.iconst 3, 1) := by decide +kernel
theorem dL_law_113 : decode cL_law 113 = .ok (.if_icmp .ne 15, 3) := by decide +kernel
theorem dL_law_116 : decode cL_law 116 = .ok (.aload_n 1, 1) := by decide +kernel
theorem dL_law_117 : decode cL_law 117 = .ok (.iconst 0, 1) := by decide +kernel
theorem dL_law_118 : decode cL_law 118 = .ok (.invokevirtual 148, 3) := by decide +kernel
theorem dL_law_121 : decode cL_law 121 = .ok (.ifCond .ne 7, 3) := by decide +kernel
theorem dL_law_124 : decode cL_law 124 = .ok (.iconst 1, 1) := by decide +kernel
theorem dL_law_125 : decode cL_law 125 = .ok (.goto 4, 3) := by decide +kernel
theorem dL_law_128 : decode cL_law 128 = .ok (.iconst 0, 1) := by decide +kernel
theorem dL_law_129 : decode cL_law 129 = .ok (.ireturn, 1) := by decide +kernel
