theorem dX0_init_0 : decode cX0_init 0 = .ok (.aload_n 0, 1) := by decide +kernel
theorem dX0_init_1 : decode cX0_init 1 = .ok (.invokespecial 1, 3) := by decide +kernel
theorem dX0_init_4 : decode cX0_init 4 = .ok (.aload_n 0, 1) := by decide +kernel
theorem dX0_init_5 : decode cX0_init 5 = .ok (.aload_n 1, 1) := by decide +kernel
theorem dX0_init_6 : decode cX0_init 6 = .ok (.putfield 7, 3) := by decide +kernel
theorem dX0_init_9 : decode cX0_init 9 = .ok (.aload_n 0, 1) := by decide +kernel
theorem dX0_init_10 : decode cX0_init 10 = .ok (.aload_n 2, 1) := by decide +kernel
theorem dX0_init_11 : decode cX0_init 11 = .ok (.putfield 13, 3) := by decide +kernel
theorem dX0_init_14 : decode cX0_init 14 = .ok (.return_, 1) := by decide +kernel
set_option maxRecDepth 20000 in
theorem ggX1_escapedLength_J0_length_8abf5 : GoodIn wsX1_escapedLength wsJ0_length_8abf5 := goodIn_r _ [5, 6, 7, 8, 9, 4, 10, 11, 12, 57, 58, 59, 60] (by decide +kernel) (by decide +kernel)
set_option maxRecDepth 20000 in
theorem gX1_escapedLength_J0_length_8abf5 : GoodIn wsX1_escapedLength (wsV RX1 9 RJ0 yJ0_length_8abf5 wsJ0_length_8abf5) := goodIn_app (goodIn_of _ (by decide +kernel)) ggX1_escapedLength_J0_length_8abf5
set_option maxRecDepth 20000 in
theorem ggX1_escapedLength_J0_charAt_5068e : GoodIn wsX1_escapedLength wsJ0_charAt_5068e := goodIn_r _ [16, 6, 17, 18, 19, 4, 20, 11, 12, 21, 22, 23, 24, 25, 26, 27, 28, 29, 30, 31, 32, 33, 34, 35, 36, 37, 38, 39, 40, 41, 42, 43, 44, 45, 46, 47, 48, 49, 57, 58, 59, 60] (by decide +kernel) (by decide +kernel)
set_option maxRecDepth 20000 in
theorem gX1_escapedLength_J0_charAt_5068e : GoodIn wsX1_escapedLength (wsV RX1 15 RJ0 yJ0_charAt_5068e wsJ0_charAt_5068e) := goodIn_app (goodIn_of _ (by decide +kernel)) ggX1_escapedLength_J0_charAt_5068e
set_option maxRecDepth 20000 in
theorem ggX1_escapedLength_X1_letterFor : GoodIn wsX1_escapedLength wsX1_letterFor := goodIn_r _ [53] (by decide +kernel) (by decide +kernel)
set_option maxRecDepth 20000 in
theorem gX1_escapedLength_X1_letterFor : GoodIn wsX1_escapedLength (va_wsS RX1 19 yX1_letterFor wsX1_letterFor) := goodIn_app (goodIn_of _ (by decide +kernel)) ggX1_escapedLength_X1_letterFor
set_option maxRecDepth 20000 in
theorem ggX1_escapedLength_X9_isPrinted : GoodIn wsX1_escapedLength wsX9_isPrinted := goodIn_r _ [56] (by decide +kernel) (by decide +kernel)
set_option maxRecDepth 20000 in
theorem gX1_escapedLength_X9_isPrinted_n25 : GoodIn wsX1_escapedLength (wsX9_isPrinted) := ggX1_escapedLength_X9_isPrinted
theorem dX1_escapedLength_0 : decode cX1_escapedLength 0 = .ok (.iconst 0, 1) := by decide +kernel
theorem dX1_escapedLength_1 : decode cX1_escapedLength 1 = .ok (.istore_n 1, 1) := by decide +kernel
theorem dX1_escapedLength_2 : decode cX1_escapedLength 2 = .ok (.iconst 0, 1) := by decide +kernel
theorem dX1_escapedLength_3 : decode cX1_escapedLength 3 = .ok (.istore_n 2, 1) := by decide +kernel
theorem dX1_escapedLength_4 : decode cX1_escapedLength 4 = .ok (.iload_n 2, 1) := by decide +kernel
theorem dX1_escapedLength_5 : decode cX1_escapedLength 5 = .ok (.aload_n 0, 1) := by decide +kernel
theorem dX1_escapedLength_6 : decode cX1_escapedLength 6 = .ok (.invokevirtual 9, 3) := by decide +kernel
theorem dX1_escapedLength_9 : decode cX1_escapedLength 9 = .ok (.if_icmp .ge 45, 3) := by decide +kernel
theorem dX1_escapedLength_12 : decode cX1_escapedLength 12 = .ok (.aload_n 0, 1) := by decide +kernel
theorem dX1_escapedLength_13 : decode cX1_escapedLength 13 = .ok (.iload_n 2, 1) := by decide +kernel
theorem dX1_escapedLength_14 : decode cX1_escapedLength 14 = .ok (.invokevirtual 15, 3) := by decide +kernel
theorem dX1_escapedLength_17 : decode cX1_escapedLength 17 = .ok (.istore_n 3, 1) := by decide +kernel
theorem dX1_escapedLength_18 : decode cX1_escapedLength 18 = .ok (.iload_n 3, 1) := by decide +kernel
theorem dX1_escapedLength_19 : decode cX1_escapedLength 19 = .ok (.invokestatic 19, 3) := by decide +kernel
theorem dX1_escapedLength_22 : decode cX1_escapedLength 22 = .ok (.iconst (-1), 1) := by decide +kernel
theorem dX1_escapedLength_23 : decode cX1_escapedLength 23 = .ok (.if_icmp .eq 9, 3) := by decide +kernel
theorem dX1_escapedLength_26 : decode cX1_escapedLength 26 = .ok (.iinc 1 2, 3) := by decide +kernel
theorem dX1_escapedLength_29 : decode cX1_escapedLength 29 = .ok (.goto 19, 3) := by decide +kernel
theorem dX1_escapedLength_32 : decode cX1_escapedLength 32 = .ok (.iload_n 1, 1) := by decide +kernel
theorem dX1_escapedLength_33 : decode cX1_escapedLength 33 = .ok (.iload_n 3, 1) := by decide +kernel
theorem dX1_escapedLength_34 : decode cX1_escapedLength 34 = .ok (.invokestatic 25, 3) := by decide +kernel
theorem dX1_escapedLength_37 : decode cX1_escapedLength 37 = .ok (.ifCond .eq 7, 3) := by decide +kernel
theorem dX1_escapedLength_40 : decode cX1_escapedLength 40 = .ok (.iconst 1, 1) := by decide +kernel
theorem dX1_escapedLength_41 : decode cX1_escapedLength 41 = .ok (.goto 5, 3) := by decide +kernel
theorem dX1_escapedLength_44 : decode cX1_escapedLength 44 = .ok (.bipush 6, 2) := by decide +kernel
theorem dX1_escapedLength_46 : decode cX1_escapedLength 46 = .ok (.iadd, 1) := by decide +kernel
theorem dX1_escapedLength_47 : decode cX1_escapedLength 47 = .ok (.istore_n 1, 1) := by decide +kernel
theorem dX1_escapedLength_48 : decode cX1_escapedLength 48 = .ok (.iinc 2 1, 3) := by decide +kernel
theorem dX1_escapedLength_51 : decode cX1_escapedLength 51 = .ok (.goto (-47), 3) := by decide +kernel
theorem dX1_escapedLength_54 : decode cX1_escapedLength 54 = .ok (.iload_n 1, 1) := by decide +kernel
theorem dX1_escapedLength_55 : decode cX1_escapedLength 55 = .ok (.ireturn, 1) := by decide +kernel
set_option maxRecDepth 20000 in
theorem ggX1_escapeOnto_J0_length_8abf5 : GoodIn wsX1_escapeOnto wsJ0_length_8abf5 := goodIn_r _ [5, 6, 7, 8, 9, 4, 10, 11, 12, 154, 155, 156, 157] (by decide +kernel) (by decide +kernel)
set_option maxRecDepth 20000 in
theorem gX1_escapeOnto_J0_length_8abf5 : GoodIn wsX1_escapeOnto (wsV RX1 9 RJ0 yJ0_length_8abf5 wsJ0_length_8abf5) := goodIn_app (goodIn_of _ (by decide +kernel)) ggX1_escapeOnto_J0_length_8abf5
set_option maxRecDepth 20000 in
theorem ggX1_escapeOnto_J0_charAt_5068e : GoodIn wsX1_escapeOnto wsJ0_charAt_5068e := goodIn_r _ [16, 6, 17, 18, 19, 4, 20, 11, 12, 21, 22, 23, 24, 25, 26, 27, 28, 29, 30, 31, 32, 33, 34, 35, 36, 37, 38, 39, 40, 41, 42, 43, 44, 45, 46, 47, 48, 49, 154, 155, 156, 157] (by decide +kernel) (by decide +kernel)
set_option maxRecDepth 20000 in
theorem gX1_escapeOnto_J0_charAt_5068e : GoodIn wsX1_escapeOnto (wsV RX1 15 RJ0 yJ0_charAt_5068e wsJ0_charAt_5068e) := goodIn_app (goodIn_of _ (by decide +kernel)) ggX1_escapeOnto_J0_charAt_5068e
set_option maxRecDepth 20000 in
theorem ggX1_escapeOnto_X1_letterFor : GoodIn wsX1_escapeOnto wsX1_letterFor := goodIn_r _ [53] (by decide +kernel) (by decide +kernel)
set_option maxRecDepth 20000 in
theorem gX1_escapeOnto_X1_letterFor : GoodIn wsX1_escapeOnto (va_wsS RX1 19 yX1_letterFor wsX1_letterFor) := goodIn_app (goodIn_of _ (by decide +kernel)) ggX1_escapeOnto_X1_letterFor
set_option maxRecDepth 20000 in
theorem ggX1_escapeOnto_J4_append_cf468 : GoodIn wsX1_escapeOnto wsJ4_append_cf468 := goodIn_r _ [58, 59, 60, 61, 62, 63, 64, 65, 66, 67, 68, 69, 70, 71, 72, 73, 74, 75, 76, 77, 78, 79, 80, 81, 82, 83, 84, 85, 86, 87, 88, 89, 90, 91, 92, 93, 94, 95, 96, 97, 98, 99, 100, 101, 102, 103, 104, 105, 106, 107, 108, 109, 110, 111, 112, 113, 114, 115, 116, 23, 117, 118, 119, 120, 121, 122, 123, 124, 35, 125, 126, 127, 128, 129, 130, 131, 132, 133, 134, 135, 136, 137, 138, 40, 41, 42, 139, 140, 4, 141, 28, 142, 143, 31, 144, 145, 146, 147, 47, 48, 49, 148, 149, 150, 37, 38, 39, 43, 26, 27, 29, 30, 32, 158, 159, 160, 161] (by decide +kernel) (by decide +kernel)
set_option maxRecDepth 20000 in
theorem gX1_escapeOnto_J4_append_cf468 : GoodIn wsX1_escapeOnto (wsV RX1 29 RJ4 yJ4_append_cf468 wsJ4_append_cf468) := goodIn_app (goodIn_of _ (by decide +kernel)) ggX1_escapeOnto_J4_append_cf468
set_option maxRecDepth 20000 in
theorem ggX1_escapeOnto_X9_isPrinted : GoodIn wsX1_escapeOnto wsX9_isPrinted := goodIn_r _ [153] (by decide +kernel) (by decide +kernel)
set_option maxRecDepth 20000 in
theorem gX1_escapeOnto_X9_isPrinted_n25 : GoodIn wsX1_escapeOnto (wsX9_isPrinted) := ggX1_escapeOnto_X9_isPrinted
theorem dX1_escapeOnto_0 : decode cX1_escapeOnto 0 = .ok (.iconst 0, 1) := by decide +kernel
theorem dX1_escapeOnto_1 : decode cX1_escapeOnto 1 = .ok (.istore_n 2, 1) := by decide +kernel
theorem dX1_escapeOnto_2 : decode cX1_escapeOnto 2 = .ok (.iload_n 2, 1) := by decide +kernel
theorem dX1_escapeOnto_3 : decode cX1_escapeOnto 3 = .ok (.aload_n 1, 1) := by decide +kernel
theorem dX1_escapeOnto_4 : decode cX1_escapeOnto 4 = .ok (.invokevirtual 9, 3) := by decide +kernel
theorem dX1_escapeOnto_7 : decode cX1_escapeOnto 7 = .ok (.if_icmp .ge 108, 3) := by decide +kernel
theorem dX1_escapeOnto_10 : decode cX1_escapeOnto 10 = .ok (.aload_n 1, 1) := by decide +kernel
theorem dX1_escapeOnto_11 : decode cX1_escapeOnto 11 = .ok (.iload_n 2, 1) := by decide +kernel
theorem dX1_escapeOnto_12 : decode cX1_escapeOnto 12 = .ok (.invokevirtual 15, 3) := by decide +kernel
theorem dX1_escapeOnto_15 : decode cX1_escapeOnto 15 = .ok (.istore_n 3, 1) := by decide +kernel
theorem dX1_escapeOnto_16 : decode cX1_escapeOnto 16 = .ok (.iload_n 3, 1) := by decide +kernel
theorem dX1_escapeOnto_17 : decode cX1_escapeOnto 17 = .ok (.invokestatic 19, 3) := by decide +kernel
theorem dX1_escapeOnto_20 : decode cX1_escapeOnto 20 = .ok (.istore 4, 2) := by decide +kernel
theorem dX1_escapeOnto_22 : decode cX1_escapeOnto 22 = .ok (.iload 4, 2) := by decide +kernel
theorem dX1_escapeOnto_24 : decode cX1_escapeOnto 24 = .ok (.iconst (-1), 1) := by decide +kernel
theorem dX1_escapeOnto_25 : decode cX1_escapeOnto 25 = .ok (.if_icmp .eq 21, 3) := by decide +kernel
theorem dX1_escapeOnto_28 : decode cX1_escapeOnto 28 = .ok (.aload_n 0, 1) := by decide +kernel
theorem dX1_escapeOnto_29 : decode cX1_escapeOnto 29 = .ok (.bipush 92, 2) := by decide +kernel
theorem dX1_escapeOnto_31 : decode cX1_escapeOnto 31 = .ok (.invokevirtual 29, 3) := by decide +kernel
theorem dX1_escapeOnto_34 : decode cX1_escapeOnto 34 = .ok (.pop, 1) := by decide +kernel
theorem dX1_escapeOnto_35 : decode cX1_escapeOnto 35 = .ok (.aload_n 0, 1) := by decide +kernel
theorem dX1_escapeOnto_36 : decode cX1_escapeOnto 36 = .ok (.iload 4, 2) := by decide +kernel
theorem dX1_escapeOnto_38 : decode cX1_escapeOnto 38 = .ok (.i2c, 1) := by decide +kernel
theorem dX1_escapeOnto_39 : decode cX1_escapeOnto 39 = .ok (.invokevirtual 29, 3) := by decide +kernel
theorem dX1_escapeOnto_42 : decode cX1_escapeOnto 42 = .ok (.pop, 1) := by decide +kernel
theorem dX1_escapeOnto_43 : decode cX1_escapeOnto 43 = .ok (.goto 66, 3) := by decide +kernel
theorem dX1_escapeOnto_46 : decode cX1_escapeOnto 46 = .ok (.iload_n 3, 1) := by decide +kernel
theorem dX1_escapeOnto_47 : decode cX1_escapeOnto 47 = .ok (.invokestatic 25, 3) := by decide +kernel
theorem dX1_escapeOnto_50 : decode cX1_escapeOnto 50 = .ok (.ifCond .eq 13, 3) := by decide +kernel
theorem dX1_escapeOnto_53 : decode cX1_escapeOnto 53 = .ok (.aload_n 0, 1) := by decide +kernel
theorem dX1_escapeOnto_54 : decode cX1_escapeOnto 54 = .ok (.iload_n 3, 1) := by decide +kernel
theorem dX1_escapeOnto_55 : decode cX1_escapeOnto 55 = .ok (.i2c, 1) := by decide +kernel
theorem dX1_escapeOnto_56 : decode cX1_escapeOnto 56 = .ok (.invokevirtual 29, 3) := by decide +kernel
theorem dX1_escapeOnto_59 : decode cX1_escapeOnto 59 = .ok (.pop, 1) := by decide +kernel
theorem dX1_escapeOnto_60 : decode cX1_escapeOnto 60 = .ok (.goto 49, 3) := by decide +kernel
theorem dX1_escapeOnto_63 : decode cX1_escapeOnto 63 = .ok (.aload_n 0, 1) := by decide +kernel
theorem dX1_escapeOnto_64 : decode cX1_escapeOnto 64 = .ok (.bipush 92, 2) := by decide +kernel
theorem dX1_escapeOnto_66 : decode cX1_escapeOnto 66 = .ok (.invokevirtual 29, 3) := by decide +kernel
theorem dX1_escapeOnto_69 : decode cX1_escapeOnto 69 = .ok (.pop, 1) := by decide +kernel
theorem dX1_escapeOnto_70 : decode cX1_escapeOnto 70 = .ok (.aload_n 0, 1) := by decide +kernel
theorem dX1_escapeOnto_71 : decode cX1_escapeOnto 71 = .ok (.bipush 117, 2) := by decide +kernel
theorem dX1_escapeOnto_73 : decode cX1_escapeOnto 73 = .ok (.invokevirtual 29, 3) := by decide +kernel
theorem dX1_escapeOnto_76 : decode cX1_escapeOnto 76 = .ok (.pop, 1) := by decide +kernel
theorem dX1_escapeOnto_77 : decode cX1_escapeOnto 77 = .ok (.bipush 12, 2) := by decide +kernel
theorem dX1_escapeOnto_79 : decode cX1_escapeOnto 79 = .ok (.istore 5, 2) := by decide +kernel
theorem dX1_escapeOnto_81 : decode cX1_escapeOnto 81 = .ok (.iload 5, 2) := by decide +kernel
theorem dX1_escapeOnto_83 : decode cX1_escapeOnto 83 = .ok (.ifCond .lt 26, 3) := by decide +kernel
theorem dX1_escapeOnto_86 : decode cX1_escapeOnto 86 = .ok (.aload_n 0, 1) := by decide +kernel
theorem dX1_escapeOnto_87 : decode cX1_escapeOnto 87 = .ok (.ldc 35, 2) := by decide +kernel
theorem dX1_escapeOnto_89 : decode cX1_escapeOnto 89 = .ok (.iload_n 3, 1) := by decide +kernel
theorem dX1_escapeOnto_90 : decode cX1_escapeOnto 90 = .ok (.iload 5, 2) := by decide +kernel
theorem dX1_escapeOnto_92 : decode cX1_escapeOnto 92 = .ok (.ishr, 1) := by decide +kernel
theorem dX1_escapeOnto_93 : decode cX1_escapeOnto 93 = .ok (.bipush 15, 2) := by decide +kernel
theorem dX1_escapeOnto_95 : decode cX1_escapeOnto 95 = .ok (.iand, 1) := by decide +kernel
theorem dX1_escapeOnto_96 : decode cX1_escapeOnto 96 = .ok (.invokevirtual 15, 3) := by decide +kernel
theorem dX1_escapeOnto_99 : decode cX1_escapeOnto 99 = .ok (.invokevirtual 29, 3) := by decide +kernel
theorem dX1_escapeOnto_102 : decode cX1_escapeOnto 102 = .ok (.pop, 1) := by decide +kernel
theorem dX1_escapeOnto_103 : decode cX1_escapeOnto 103 = .ok (.iinc 5 (-4), 3) := by decide +kernel
theorem dX1_escapeOnto_106 : decode cX1_escapeOnto 106 = .ok (.goto (-25), 3) := by decide +kernel
theorem dX1_escapeOnto_109 : decode cX1_escapeOnto 109 = .ok (.iinc 2 1, 3) := by decide +kernel
theorem dX1_escapeOnto_112 : decode cX1_escapeOnto 112 = .ok (.goto (-110), 3) := by decide +kernel
theorem dX1_escapeOnto_115 : decode cX1_escapeOnto 115 = .ok (.return_, 1) := by decide +kernel
theorem dX1_letterFor_0 : decode cX1_letterFor 0 = .ok (.iload_n 0, 1) := by decide +kernel
theorem dX1_letterFor_1 : decode cX1_letterFor 1 = .ok (.lookupswitch 94 #[(9, 83), (10, 86), (13, 89), (32, 92), (33, 92), (35, 92), (58, 92), (61, 92), (92, 92)], 83) := by decide +kernel
theorem dX1_letterFor_84 : decode cX1_letterFor 84 = .ok (.bipush 116, 2) := by decide +kernel
theorem dX1_letterFor_86 : decode cX1_letterFor 86 = .ok (.ireturn, 1) := by decide +kernel
theorem dX1_letterFor_87 : decode cX1_letterFor 87 = .ok (.bipush 110, 2) := by decide +kernel
theorem dX1_letterFor_89 : decode cX1_letterFor 89 = .ok (.ireturn, 1) := by decide +kernel
theorem dX1_letterFor_90 : decode cX1_letterFor 90 = .ok (.bipush 114, 2) := by decide +kernel
theorem dX1_letterFor_92 : decode cX1_letterFor 92 = .ok (.ireturn, 1) := by decide +kernel
theorem dX1_letterFor_93 : decode cX1_letterFor 93 = .ok (.iload_n 0, 1) := by decide +kernel
theorem dX1_letterFor_94 : decode cX1_letterFor 94 = .ok (.ireturn, 1) := by decide +kernel
theorem dX1_letterFor_95 : decode cX1_letterFor 95 = .ok (.iconst (-1), 1) := by decide +kernel
theorem dX1_letterFor_96 : decode cX1_letterFor 96 = .ok (.ireturn, 1) := by decide +kernel
theorem dX1_characterFor_0 : decode cX1_characterFor 0 = .ok (.iload_n 0, 1) := by decide +kernel
theorem dX1_characterFor_1 : decode cX1_characterFor 1 = .ok (.lookupswitch 44 #[(110, 38), (114, 41), (116, 35)], 35) := by decide +kernel
theorem dX1_characterFor_36 : decode cX1_characterFor 36 = .ok (.bipush 9, 2) := by decide +kernel
theorem dX1_characterFor_38 : decode cX1_characterFor 38 = .ok (.ireturn, 1) := by decide +kernel
theorem dX1_characterFor_39 : decode cX1_characterFor 39 = .ok (.bipush 10, 2) := by decide +kernel
theorem dX1_characterFor_41 : decode cX1_characterFor 41 = .ok (.ireturn, 1) := by decide +kernel
theorem dX1_characterFor_42 : decode cX1_characterFor 42 = .ok (.bipush 13, 2) := by decide +kernel
theorem dX1_characterFor_44 : decode cX1_characterFor 44 = .ok (.ireturn, 1) := by decide +kernel
theorem dX1_characterFor_45 : decode cX1_characterFor 45 = .ok (.iload_n 0, 1) := by decide +kernel
theorem dX1_characterFor_46 : decode cX1_characterFor 46 = .ok (.i2c, 1) := by decide +kernel
theorem dX1_characterFor_47 : decode cX1_characterFor 47 = .ok (.ireturn, 1) := by decide +kernel
theorem dX1_digitNumber_0 : decode cX1_digitNumber 0 = .ok (.iload_n 0, 1) := by decide +kernel
theorem dX1_digitNumber_1 : decode cX1_digitNumber 1 = .ok (.bipush 48, 2) := by decide +kernel
theorem dX1_digitNumber_3 : decode cX1_digitNumber 3 = .ok (.if_icmp .lt 14, 3) := by decide +kernel
theorem dX1_digitNumber_6 : decode cX1_digitNumber 6 = .ok (.iload_n 0, 1) := by decide +kernel
theorem dX1_digitNumber_7 : decode cX1_digitNumber 7 = .ok (.bipush 57, 2) := by decide +kernel
theorem dX1_digitNumber_9 : decode cX1_digitNumber 9 = .ok (.if_icmp .gt 8, 3) := by decide +kernel
theorem dX1_digitNumber_12 : decode cX1_digitNumber 12 = .ok (.iload_n 0, 1) := by decide +kernel
theorem dX1_digitNumber_13 : decode cX1_digitNumber 13 = .ok (.bipush 48, 2) := by decide +kernel
theorem dX1_digitNumber_15 : decode cX1_digitNumber 15 = .ok (.isub, 1) := by decide +kernel
theorem dX1_digitNumber_16 : decode cX1_digitNumber 16 = .ok (.ireturn, 1) := by decide +kernel
theorem dX1_digitNumber_17 : decode cX1_digitNumber 17 = .ok (.iload_n 0, 1) := by decide +kernel
theorem dX1_digitNumber_18 : decode cX1_digitNumber 18 = .ok (.bipush 97, 2) := by decide +kernel
theorem dX1_digitNumber_20 : decode cX1_digitNumber 20 = .ok (.if_icmp .lt 17, 3) := by decide +kernel
theorem dX1_digitNumber_23 : decode cX1_digitNumber 23 = .ok (.iload_n 0, 1) := by decide +kernel
theorem dX1_digitNumber_24 : decode cX1_digitNumber 24 = .ok (.bipush 102, 2) := by decide +kernel
theorem dX1_digitNumber_26 : decode cX1_digitNumber 26 = .ok (.if_icmp .gt 11, 3) := by decide +kernel
theorem dX1_digitNumber_29 : decode cX1_digitNumber 29 = .ok (.iload_n 0, 1) := by decide +kernel
theorem dX1_digitNumber_30 : decode cX1_digitNumber 30 = .ok (.bipush 97, 2) := by decide +kernel
theorem dX1_digitNumber_32 : decode cX1_digitNumber 32 = .ok (.isub, 1) := by decide +kernel
theorem dX1_digitNumber_33 : decode cX1_digitNumber 33 = .ok (.bipush 10, 2) := by decide +kernel
theorem dX1_digitNumber_35 : decode cX1_digitNumber 35 = .ok (.iadd, 1) := by decide +kernel
theorem dX1_digitNumber_36 : decode cX1_digitNumber 36 = .ok (.ireturn, 1) := by decide +kernel
theorem dX1_digitNumber_37 : decode cX1_digitNumber 37 = .ok (.iload_n 0, 1) := by decide +kernel
theorem dX1_digitNumber_38 : decode cX1_digitNumber 38 = .ok (.bipush 65, 2) := by decide +kernel
theorem dX1_digitNumber_40 : decode cX1_digitNumber 40 = .ok (.if_icmp .lt 17, 3) := by decide +kernel
theorem dX1_digitNumber_43 : decode cX1_digitNumber 43 = .ok (.iload_n 0, 1) := by decide +kernel
theorem dX1_digitNumber_44 : decode cX1_digitNumber 44 = .ok (.bipush 70, 2) := by decide +kernel
theorem dX1_digitNumber_46 : decode cX1_digitNumber 46 = .ok (.if_icmp .gt 11, 3) := by decide +kernel
theorem dX1_digitNumber_49 : decode cX1_digitNumber 49 = .ok (.iload_n 0, 1) := by decide +kernel
theorem dX1_digitNumber_50 : decode cX1_digitNumber 50 = .ok (.bipush 65, 2) := by decide +kernel
theorem dX1_digitNumber_52 : decode cX1_digitNumber 52 = .ok (.isub, 1) := by decide +kernel
theorem dX1_digitNumber_53 : decode cX1_digitNumber 53 = .ok (.bipush 10, 2) := by decide +kernel
theorem dX1_digitNumber_55 : decode cX1_digitNumber 55 = .ok (.iadd, 1) := by decide +kernel
theorem dX1_digitNumber_56 : decode cX1_digitNumber 56 = .ok (.ireturn, 1) := by decide +kernel
theorem dX1_digitNumber_57 : decode cX1_digitNumber 57 = .ok (.iconst (-1), 1) := by decide +kernel
theorem dX1_digitNumber_58 : decode cX1_digitNumber 58 = .ok (.ireturn, 1) := by decide +kernel
theorem dX2_init_0 : decode cX2_init 0 = .ok (.aload_n 0, 1) := by decide +kernel
theorem dX2_init_1 : decode cX2_init 1 = .ok (.invokespecial 1, 3) := by decide +kernel
theorem dX2_init_4 : decode cX2_init 4 = .ok (.aload_n 0, 1) := by decide +kernel
theorem dX2_init_5 : decode cX2_init 5 = .ok (.aload_n 1, 1) := by decide +kernel
theorem dX2_init_6 : decode cX2_init 6 = .ok (.putfield 7, 3) := by decide +kernel
theorem dX2_init_9 : decode cX2_init 9 = .ok (.aload_n 0, 1) := by decide +kernel
theorem dX2_init_10 : decode cX2_init 10 = .ok (.aload_n 2, 1) := by decide +kernel
theorem dX2_init_11 : decode cX2_init 11 = .ok (.putfield 13, 3) := by decide +kernel
theorem dX2_init_14 : decode cX2_init 14 = .ok (.aload_n 0, 1) := by decide +kernel
theorem dX2_init_15 : decode cX2_init 15 = .ok (.aload_n 3, 1) := by decide +kernel
theorem dX2_init_16 : decode cX2_init 16 = .ok (.putfield 16, 3) := by decide +kernel
theorem dX2_init_19 : decode cX2_init 19 = .ok (.return_, 1) := by decide +kernel
set_option maxRecDepth 20000 in
theorem ggX2_resultLength_J0_length_8abf5 : GoodIn wsX2_resultLength wsJ0_length_8abf5 := goodIn_r _ [9, 10, 11, 12, 13, 8, 14, 15, 16, 22, 23, 24, 25] (by decide +kernel) (by decide +kernel)
set_option maxRecDepth 20000 in
theorem gX2_resultLength_J0_length_8abf5 : GoodIn wsX2_resultLength (wsV RX2 22 RJ0 yJ0_length_8abf5 wsJ0_length_8abf5) := goodIn_app (goodIn_of _ (by decide +kernel)) ggX2_resultLength_J0_length_8abf5
theorem dX2_resultLength_0 : decode cX2_resultLength 0 = .ok (.aload_n 0, 1) := by decide +kernel
theorem dX2_resultLength_1 : decode cX2_resultLength 1 = .ok (.getfield 19, 3) := by decide +kernel
theorem dX2_resultLength_4 : decode cX2_resultLength 4 = .ok (.ifnull 27, 3) := by decide +kernel
theorem dX2_resultLength_7 : decode cX2_resultLength 7 = .ok (.aload_n 0, 1) := by decide +kernel
theorem dX2_resultLength_8 : decode cX2_resultLength 8 = .ok (.getfield 13, 3) := by decide +kernel
theorem dX2_resultLength_11 : decode cX2_resultLength 11 = .ok (.invokevirtual 22, 3) := by decide +kernel
theorem dX2_resultLength_14 : decode cX2_resultLength 14 = .ok (.aload_n 0, 1) := by decide +kernel
theorem dX2_resultLength_15 : decode cX2_resultLength 15 = .ok (.getfield 19, 3) := by decide +kernel
theorem dX2_resultLength_18 : decode cX2_resultLength 18 = .ok (.invokevirtual 22, 3) := by decide +kernel
theorem dX2_resultLength_21 : decode cX2_resultLength 21 = .ok (.iadd, 1) := by decide +kernel
theorem dX2_resultLength_22 : decode cX2_resultLength 22 = .ok (.aload_n 0, 1) := by decide +kernel
theorem dX2_resultLength_23 : decode cX2_resultLength 23 = .ok (.getfield 16, 3) := by decide +kernel
theorem dX2_resultLength_26 : decode cX2_resultLength 26 = .ok (.invokevirtual 22, 3) := by decide +kernel
theorem dX2_resultLength_29 : decode cX2_resultLength 29 = .ok (.iadd, 1) := by decide +kernel
theorem dX2_resultLength_30 : decode cX2_resultLength 30 = .ok (.ireturn, 1) := by decide +kernel
theorem dX2_resultLength_31 : decode cX2_resultLength 31 = .ok (.aload_n 0, 1) := by decide +kernel
theorem dX2_resultLength_32 : decode cX2_resultLength 32 = .ok (.getfield 28, 3) := by decide +kernel
theorem dX2_resultLength_35 : decode cX2_resultLength 35 = .ok (.ifnull 13, 3) := by decide +kernel
theorem dX2_resultLength_38 : decode cX2_resultLength 38 = .ok (.aload_n 0, 1) := by decide +kernel
theorem dX2_resultLength_39 : decode cX2_resultLength 39 = .ok (.getfield 28, 3) := by decide +kernel
theorem dX2_resultLength_42 : decode cX2_resultLength 42 = .ok (.invokevirtual 22, 3) := by decide +kernel
theorem dX2_resultLength_45 : decode cX2_resultLength 45 = .ok (.goto 18, 3) := by decide +kernel
theorem dX2_resultLength_48 : decode cX2_resultLength 48 = .ok (.aload_n 0, 1) := by decide +kernel
theorem dX2_resultLength_49 : decode cX2_resultLength 49 = .ok (.getfield 13, 3) := by decide +kernel
theorem dX2_resultLength_52 : decode cX2_resultLength 52 = .ok (.invokevirtual 22, 3) := by decide +kernel
theorem dX2_resultLength_55 : decode cX2_resultLength 55 = .ok (.aload_n 0, 1) := by decide +kernel
theorem dX2_resultLength_56 : decode cX2_resultLength 56 = .ok (.getfield 16, 3) := by decide +kernel
theorem dX2_resultLength_59 : decode cX2_resultLength 59 = .ok (.invokevirtual 22, 3) := by decide +kernel
theorem dX2_resultLength_62 : decode cX2_resultLength 62 = .ok (.iadd, 1) := by decide +kernel
theorem dX2_resultLength_63 : decode cX2_resultLength 63 = .ok (.ireturn, 1) := by decide +kernel
set_option maxRecDepth 20000 in
theorem ggX2_result_X2_together : GoodIn wsX2_result wsX2_together := goodIn_r _ [8, 9, 10, 11, 12, 13, 14, 15, 16, 17, 18, 19, 20, 21, 22, 23, 24, 25, 26, 27, 28, 29, 30, 31, 32, 33, 34, 35, 36, 37, 38, 39, 40, 41, 42, 43, 44, 45, 46, 47, 48, 49, 50, 51, 52, 53, 54, 55, 56, 57, 58, 59, 60, 61, 62, 63, 64, 65, 66, 67, 68, 69, 70, 71, 72, 73, 74, 75, 76, 77, 78, 79, 80, 81, 82, 83, 84, 85, 86, 87, 88, 89, 90, 91, 92, 93, 94, 95, 96, 97, 98, 99, 100, 101, 102, 103, 104, 105, 106, 107, 108, 109, 110, 111, 112, 113, 114, 115, 116, 117, 118, 119, 120, 121, 122, 123, 124, 125, 126, 127, 128, 129, 130, 131, 132, 133, 134, 135, 136, 137, 138, 139, 140, 141, 142, 143, 144, 145, 146, 147, 148, 149, 150, 151, 152, 153, 154, 155, 156, 157, 158, 159, 160, 161, 162, 163, 164, 165, 166, 167, 168, 169, 170, 171, 172, 173, 174, 175, 176, 177, 178, 179, 180, 181, 182, 183, 184, 185, 186, 187, 188, 189, 190, 191, 192, 193, 194, 195, 196, 197, 198, 199, 200, 201, 202, 203, 204, 205, 206, 207, 208, 209, 210, 211, 212, 213, 214, 215, 216, 217, 223, 224, 225, 226, 227, 228, 229, 230] (by decide +kernel) (by decide +kernel)
set_option maxRecDepth 20000 in
theorem gX2_result_X2_together : GoodIn wsX2_result (va_wsS RX2 31 yX2_together wsX2_together) := goodIn_app (goodIn_of _ (by decide +kernel)) ggX2_result_X2_together
theorem dX2_result_0 : decode cX2_result 0 = .ok (.aload_n 0, 1) := by decide +kernel
theorem dX2_result_1 : decode cX2_result 1 = .ok (.getfield 19, 3) := by decide +kernel
theorem dX2_result_4 : decode cX2_result 4 = .ok (.ifnull 19, 3) := by decide +kernel
theorem dX2_result_7 : decode cX2_result 7 = .ok (.aload_n 0, 1) := by decide +kernel
theorem dX2_result_8 : decode cX2_result 8 = .ok (.getfield 13, 3) := by decide +kernel
theorem dX2_result_11 : decode cX2_result 11 = .ok (.aload_n 0, 1) := by decide +kernel
theorem dX2_result_12 : decode cX2_result 12 = .ok (.getfield 19, 3) := by decide +kernel
theorem dX2_result_15 : decode cX2_result 15 = .ok (.aload_n 0, 1) := by decide +kernel
theorem dX2_result_16 : decode cX2_result 16 = .ok (.getfield 16, 3) := by decide +kernel
theorem dX2_result_19 : decode cX2_result 19 = .ok (.invokestatic 31, 3) := by decide +kernel
theorem dX2_result_22 : decode cX2_result 22 = .ok (.areturn, 1) := by decide +kernel
theorem dX2_result_23 : decode cX2_result 23 = .ok (.aload_n 0, 1) := by decide +kernel
theorem dX2_result_24 : decode cX2_result 24 = .ok (.getfield 28, 3) := by decide +kernel
theorem dX2_result_27 : decode cX2_result 27 = .ok (.ifnull 10, 3) := by decide +kernel
theorem dX2_result_30 : decode cX2_result 30 = .ok (.aload_n 0, 1) := by decide +kernel
theorem dX2_result_31 : decode cX2_result 31 = .ok (.getfield 28, 3) := by decide +kernel
theorem dX2_result_34 : decode cX2_result 34 = .ok (.goto 16, 3) := by decide +kernel
theorem dX2_result_37 : decode cX2_result 37 = .ok (.aload_n 0, 1) := by decide +kernel
theorem dX2_result_38 : decode cX2_result 38 = .ok (.getfield 13, 3) := by decide +kernel
theorem dX2_result_41 : decode cX2_result 41 = .ok (.ldc 35, 2) := by decide +kernel
theorem dX2_result_43 : decode cX2_result 43 = .ok (.aload_n 0, 1) := by decide +kernel
theorem dX2_result_44 : decode cX2_result 44 = .ok (.getfield 16, 3) := by decide +kernel
theorem dX2_result_47 : decode cX2_result 47 = .ok (.invokestatic 31, 3) := by decide +kernel
theorem dX2_result_50 : decode cX2_result 50 = .ok (.areturn, 1) := by decide +kernel
set_option maxRecDepth 20000 in
theorem ggX2_lengthWith_J0_length_8abf5 : GoodIn wsX2_lengthWith wsJ0_length_8abf5 := goodIn_r _ [9, 10, 11, 12, 13, 8, 14, 15, 16, 22, 23, 24, 25] (by decide +kernel) (by decide +kernel)
set_option maxRecDepth 20000 in
theorem gX2_lengthWith_J0_length_8abf5 : GoodIn wsX2_lengthWith (wsV RX2 22 RJ0 yJ0_length_8abf5 wsJ0_length_8abf5) := goodIn_app (goodIn_of _ (by decide +kernel)) ggX2_lengthWith_J0_length_8abf5
theorem dX2_lengthWith_0 : decode cX2_lengthWith 0 = .ok (.aload_n 0, 1) := by decide +kernel
theorem dX2_lengthWith_1 : decode cX2_lengthWith 1 = .ok (.getfield 19, 3) := by decide +kernel
theorem dX2_lengthWith_4 : decode cX2_lengthWith 4 = .ok (.ifnonnull 7, 3) := by decide +kernel
theorem dX2_lengthWith_7 : decode cX2_lengthWith 7 = .ok (.iconst 0, 1) := by decide +kernel
theorem dX2_lengthWith_8 : decode cX2_lengthWith 8 = .ok (.goto 18, 3) := by decide +kernel
theorem dX2_lengthWith_11 : decode cX2_lengthWith 11 = .ok (.aload_n 0, 1) := by decide +kernel
theorem dX2_lengthWith_12 : decode cX2_lengthWith 12 = .ok (.getfield 19, 3) := by decide +kernel
theorem dX2_lengthWith_15 : decode cX2_lengthWith 15 = .ok (.invokevirtual 22, 3) := by decide +kernel
theorem dX2_lengthWith_18 : decode cX2_lengthWith 18 = .ok (.aload_n 0, 1) := by decide +kernel
theorem dX2_lengthWith_19 : decode cX2_lengthWith 19 = .ok (.getfield 7, 3) := by decide +kernel
theorem dX2_lengthWith_22 : decode cX2_lengthWith 22 = .ok (.invokevirtual 22, 3) := by decide +kernel
theorem dX2_lengthWith_25 : decode cX2_lengthWith 25 = .ok (.iadd, 1) := by decide +kernel
theorem dX2_lengthWith_26 : decode cX2_lengthWith 26 = .ok (.istore_n 2, 1) := by decide +kernel
theorem dX2_lengthWith_27 : decode cX2_lengthWith 27 = .ok (.aload_n 0, 1) := by decide +kernel
theorem dX2_lengthWith_28 : decode cX2_lengthWith 28 = .ok (.getfield 13, 3) := by decide +kernel
theorem dX2_lengthWith_31 : decode cX2_lengthWith 31 = .ok (.invokevirtual 22, 3) := by decide +kernel
theorem dX2_lengthWith_34 : decode cX2_lengthWith 34 = .ok (.iload_n 2, 1) := by decide +kernel
theorem dX2_lengthWith_35 : decode cX2_lengthWith 35 = .ok (.iadd, 1) := by decide +kernel
theorem dX2_lengthWith_36 : decode cX2_lengthWith 36 = .ok (.aload_n 1, 1) := by decide +kernel
theorem dX2_lengthWith_37 : decode cX2_lengthWith 37 = .ok (.invokevirtual 22, 3) := by decide +kernel
theorem dX2_lengthWith_40 : decode cX2_lengthWith 40 = .ok (.iadd, 1) := by decide +kernel
theorem dX2_lengthWith_41 : decode cX2_lengthWith 41 = .ok (.aload_n 0, 1) := by decide +kernel
theorem dX2_lengthWith_42 : decode cX2_lengthWith 42 = .ok (.getfield 16, 3) := by decide +kernel
theorem dX2_lengthWith_45 : decode cX2_lengthWith 45 = .ok (.invokevirtual 22, 3) := by decide +kernel
theorem dX2_lengthWith_48 : decode cX2_lengthWith 48 = .ok (.iadd, 1) := by decide +kernel
theorem dX2_lengthWith_49 : decode cX2_lengthWith 49 = .ok (.ireturn, 1) := by decide +kernel
set_option maxRecDepth 20000 in
theorem ggX2_addElement_X2_together : GoodIn wsX2_addElement wsX2_together := goodIn_r _ [6, 7, 8, 9, 10, 11, 12, 13, 14, 15, 16, 17, 18, 19, 20, 21, 22, 23, 24, 25, 26, 27, 28, 29, 30, 31, 32, 33, 34, 35, 36, 37, 38, 39, 40, 41, 42, 43, 44, 45, 46, 47, 48, 49, 50, 51, 52, 53, 54, 55, 56, 57, 58, 59, 60, 61, 62, 63, 64, 65, 66, 67, 68, 69, 70, 71, 72, 73, 74, 75, 76, 77, 78, 79, 80, 81, 82, 83, 84, 85, 86, 87, 88, 89, 90, 91, 92, 93, 94, 95, 96, 97, 98, 99, 100, 101, 102, 103, 104, 105, 106, 107, 108, 109, 110, 111, 112, 113, 114, 115, 116, 117, 118, 119, 120, 121, 122, 123, 124, 125, 126, 127, 128, 129, 130, 131, 132, 133, 134, 135, 136, 137, 138, 139, 140, 141, 142, 143, 144, 145, 146, 147, 148, 149, 150, 151, 152, 153, 154, 155, 156, 157, 158, 159, 160, 161, 162, 163, 164, 165, 166, 167, 168, 169, 170, 171, 172, 173, 174, 175, 176, 177, 178, 179, 180, 181, 182, 183, 184, 185, 186, 187, 188, 189, 190, 191, 192, 193, 194, 195, 196, 197, 198, 199, 200, 201, 202, 203, 204, 205, 206, 207, 208, 209, 210, 211, 212, 213, 214, 215, 221, 222, 223, 224, 225, 226, 227, 228] (by decide +kernel) (by decide +kernel)
set_option maxRecDepth 20000 in
theorem gX2_addElement_X2_together : GoodIn wsX2_addElement (va_wsS RX2 31 yX2_together wsX2_together) := goodIn_app (goodIn_of _ (by decide +kernel)) ggX2_addElement_X2_together
theorem dX2_addElement_0 : decode cX2_addElement 0 = .ok (.aload_n 0, 1) := by decide +kernel
theorem dX2_addElement_1 : decode cX2_addElement 1 = .ok (.aload_n 0, 1) := by decide +kernel
theorem dX2_addElement_2 : decode cX2_addElement 2 = .ok (.getfield 19, 3) := by decide +kernel
theorem dX2_addElement_5 : decode cX2_addElement 5 = .ok (.ifnonnull 7, 3) := by decide +kernel
theorem dX2_addElement_8 : decode cX2_addElement 8 = .ok (.aload_n 1, 1) := by decide +kernel
theorem dX2_addElement_9 : decode cX2_addElement 9 = .ok (.goto 15, 3) := by decide +kernel
theorem dX2_addElement_12 : decode cX2_addElement 12 = .ok (.aload_n 0, 1) := by decide +kernel
theorem dX2_addElement_13 : decode cX2_addElement 13 = .ok (.getfield 19, 3) := by decide +kernel
theorem dX2_addElement_16 : decode cX2_addElement 16 = .ok (.aload_n 0, 1) := by decide +kernel
theorem dX2_addElement_17 : decode cX2_addElement 17 = .ok (.getfield 7, 3) := by decide +kernel
theorem dX2_addElement_20 : decode cX2_addElement 20 = .ok (.aload_n 1, 1) := by decide +kernel
theorem dX2_addElement_21 : decode cX2_addElement 21 = .ok (.invokestatic 31, 3) := by decide +kernel
theorem dX2_addElement_24 : decode cX2_addElement 24 = .ok (.putfield 19, 3) := by decide +kernel
theorem dX2_addElement_27 : decode cX2_addElement 27 = .ok (.return_, 1) := by decide +kernel
set_option maxRecDepth 20000 in
theorem ggX2_together_J4_init_da8c8 : GoodIn wsX2_together wsJ4_init_da8c8 := goodIn_r _ [6, 7, 8, 9, 10, 11, 12, 13, 14, 15, 16, 17, 18, 19, 20, 21, 22, 23, 24, 25, 210, 211, 212, 213] (by decide +kernel) (by decide +kernel)
set_option maxRecDepth 20000 in
theorem gX2_together_J4_init_da8c8 : GoodIn wsX2_together (wsJ4_init_da8c8) := ggX2_together_J4_init_da8c8
set_option maxRecDepth 20000 in
theorem ggX2_together_J4_append_15ec4 : GoodIn wsX2_together wsJ4_append_15ec4 := goodIn_r _ [29, 30, 31, 32, 33, 9, 34, 35, 36, 37, 38, 39, 40, 16, 41, 42, 43, 44, 45, 17, 46, 47, 48, 49, 50, 51, 52, 53, 54, 55, 56, 57, 58, 59, 60, 61, 62, 63, 64, 65, 66, 67, 68, 69, 70, 71, 72, 73, 15, 74, 75, 76, 77, 78, 79, 80, 81, 82, 83, 84, 85, 14, 86, 87, 20, 88, 89, 90, 91, 92, 93, 94, 95, 96, 97, 98, 99, 100, 101, 102, 103, 104, 105, 106, 107, 108, 109, 110, 111, 112, 113, 114, 115, 116, 117, 118, 119, 120, 121, 122, 123, 124, 125, 126, 127, 128, 129, 130, 131, 132, 133, 134, 135, 136, 18, 19, 21, 22, 23, 24, 25, 137, 138, 139, 140, 141, 142, 143, 144, 145, 146, 147, 148, 149, 150, 151, 152, 153, 154, 155, 156, 157, 158, 210, 211, 212, 213, 214, 215, 216, 217] (by decide +kernel) (by decide +kernel)
set_option maxRecDepth 20000 in
theorem gX2_together_J4_append_15ec4 : GoodIn wsX2_together (wsV RX2 40 RJ4 yJ4_append_15ec4 wsJ4_append_15ec4) := goodIn_app (goodIn_of _ (by decide +kernel)) ggX2_together_J4_append_15ec4
set_option maxRecDepth 20000 in
theorem ggX2_together_J4_toString_0e30d : GoodIn wsX2_together wsJ4_toString_0e30d := goodIn_r _ [162, 163, 164, 98, 165, 166, 167, 168, 169, 170, 171, 12, 13, 120, 114, 119, 172, 173, 174, 175, 176, 9, 177, 16, 178, 179, 180, 181, 182, 3, 183, 184, 32, 185, 186, 35, 187, 82, 83, 84, 85, 14, 17, 188, 189, 66, 190, 68, 69, 70, 71, 72, 73, 191, 192, 193, 15, 74, 75, 58, 76, 77, 78, 79, 80, 194, 195, 196, 197, 198, 20, 199, 200, 201, 202, 144, 145, 146, 93, 94, 95, 147, 148, 149, 100, 150, 151, 103, 152, 203, 204, 205, 89, 108, 109, 22, 23, 24, 25, 206, 207, 208, 209, 214, 215, 216, 217, 210, 211, 212, 213] (by decide +kernel) (by decide +kernel)
set_option maxRecDepth 20000 in
theorem gX2_together_J4_toString_0e30d : GoodIn wsX2_together (wsV RX2 44 RJ4 yJ4_toString_0e30d wsJ4_toString_0e30d) := goodIn_app (goodIn_of _ (by decide +kernel)) ggX2_together_J4_toString_0e30d
theorem dX2_together_0 : decode cX2_together 0 = .ok (.new 37, 3) := by decide +kernel
theorem dX2_together_3 : decode cX2_together 3 = .ok (.dup, 1) := by decide +kernel
theorem dX2_together_4 : decode cX2_together 4 = .ok (.invokespecial 39, 3) := by decide +kernel
theorem dX2_together_7 : decode cX2_together 7 = .ok (.astore_n 3, 1) := by decide +kernel
theorem dX2_together_8 : decode cX2_together 8 = .ok (.aload_n 3, 1) := by decide +kernel
theorem dX2_together_9 : decode cX2_together 9 = .ok (.aload_n 0, 1) := by decide +kernel
theorem dX2_together_10 : decode cX2_together 10 = .ok (.invokevirtual 40, 3) := by decide +kernel
theorem dX2_together_13 : decode cX2_together 13 = .ok (.pop, 1) := by decide +kernel
theorem dX2_together_14 : decode cX2_together 14 = .ok (.aload_n 3, 1) := by decide +kernel
theorem dX2_together_15 : decode cX2_together 15 = .ok (.aload_n 1, 1) := by decide +kernel
theorem dX2_together_16 : decode cX2_together 16 = .ok (.invokevirtual 40, 3) := by decide +kernel
theorem dX2_together_19 : decode cX2_together 19 = .ok (.pop, 1) := by decide +kernel
theorem dX2_together_20 : decode cX2_together 20 = .ok (.aload_n 3, 1) := by decide +kernel
theorem dX2_together_21 : decode cX2_together 21 = .ok (.aload_n 2, 1) := by decide +kernel
theorem dX2_together_22 : decode cX2_together 22 = .ok (.invokevirtual 40, 3) := by decide +kernel
theorem dX2_together_25 : decode cX2_together 25 = .ok (.pop, 1) := by decide +kernel
theorem dX2_together_26 : decode cX2_together 26 = .ok (.aload_n 3, 1) := by decide +kernel
theorem dX2_together_27 : decode cX2_together 27 = .ok (.invokevirtual 44, 3) := by decide +kernel
theorem dX2_together_30 : decode cX2_together 30 = .ok (.areturn, 1) := by decide +kernel
theorem dX3_init_0 : decode cX3_init 0 = .ok (.aload_n 0, 1) := by decide +kernel
theorem dX3_init_1 : decode cX3_init 1 = .ok (.invokespecial 3, 3) := by decide +kernel
theorem dX3_init_4 : decode cX3_init 4 = .ok (.aload_n 0, 1) := by decide +kernel
theorem dX3_init_5 : decode cX3_init 5 = .ok (.bipush 40, 2) := by decide +kernel
theorem dX3_init_7 : decode cX3_init 7 = .ok (.anewarray 9, 3) := by decide +kernel
theorem dX3_init_10 : decode cX3_init 10 = .ok (.putfield 11, 3) := by decide +kernel
theorem dX3_init_13 : decode cX3_init 13 = .ok (.return_, 1) := by decide +kernel
theorem dX3_entryCount_0 : decode cX3_entryCount 0 = .ok (.aload_n 0, 1) := by decide +kernel
theorem dX3_entryCount_1 : decode cX3_entryCount 1 = .ok (.getfield 17, 3) := by decide +kernel
theorem dX3_entryCount_4 : decode cX3_entryCount 4 = .ok (.ireturn, 1) := by decide +kernel
set_option maxRecDepth 20000 in
theorem ggX3_entryAt_X9_isWithin : GoodIn wsX3_entryAt wsX9_isWithin := goodIn_r _ [5] (by decide +kernel) (by decide +kernel)
set_option maxRecDepth 20000 in
theorem gX3_entryAt_X9_isWithin_n21 : GoodIn wsX3_entryAt (wsX9_isWithin) := ggX3_entryAt_X9_isWithin
theorem dX3_entryAt_0 : decode cX3_entryAt 0 = .ok (.iload_n 1, 1) := by decide +kernel
theorem dX3_entryAt_1 : decode cX3_entryAt 1 = .ok (.aload_n 0, 1) := by decide +kernel
theorem dX3_entryAt_2 : decode cX3_entryAt 2 = .ok (.getfield 17, 3) := by decide +kernel
theorem dX3_entryAt_5 : decode cX3_entryAt 5 = .ok (.invokestatic 21, 3) := by decide +kernel
theorem dX3_entryAt_8 : decode cX3_entryAt 8 = .ok (.ifCond .eq 18, 3) := by decide +kernel
theorem dX3_entryAt_11 : decode cX3_entryAt 11 = .ok (.iload_n 1, 1) := by decide +kernel
theorem dX3_entryAt_12 : decode cX3_entryAt 12 = .ok (.bipush 40, 2) := by decide +kernel
theorem dX3_entryAt_14 : decode cX3_entryAt 14 = .ok (.if_icmp .ge 12, 3) := by decide +kernel
theorem dX3_entryAt_17 : decode cX3_entryAt 17 = .ok (.aload_n 0, 1) := by decide +kernel
theorem dX3_entryAt_18 : decode cX3_entryAt 18 = .ok (.getfield 11, 3) := by decide +kernel
theorem dX3_entryAt_21 : decode cX3_entryAt 21 = .ok (.iload_n 1, 1) := by decide +kernel
theorem dX3_entryAt_22 : decode cX3_entryAt 22 = .ok (.aaload, 1) := by decide +kernel
theorem dX3_entryAt_23 : decode cX3_entryAt 23 = .ok (.goto 4, 3) := by decide +kernel
theorem dX3_entryAt_26 : decode cX3_entryAt 26 = .ok (.aconst_null, 1) := by decide +kernel
theorem dX3_entryAt_27 : decode cX3_entryAt 27 = .ok (.areturn, 1) := by decide +kernel
set_option maxRecDepth 20000 in
theorem ggX3_keyAt_X3_entryAt : GoodIn wsX3_keyAt wsX3_entryAt := goodIn_r _ [5, 6, 7, 8, 9, 10, 13, 14] (by decide +kernel) (by decide +kernel)
set_option maxRecDepth 20000 in
theorem gX3_keyAt_X3_entryAt : GoodIn wsX3_keyAt (wsV RX3 25 RX3 yX3_entryAt wsX3_entryAt) := goodIn_app (goodIn_of _ (by decide +kernel)) ggX3_keyAt_X3_entryAt
theorem dX3_keyAt_0 : decode cX3_keyAt 0 = .ok (.aload_n 0, 1) := by decide +kernel
theorem dX3_keyAt_1 : decode cX3_keyAt 1 = .ok (.iload_n 1, 1) := by decide +kernel
theorem dX3_keyAt_2 : decode cX3_keyAt 2 = .ok (.invokevirtual 25, 3) := by decide +kernel
theorem dX3_keyAt_5 : decode cX3_keyAt 5 = .ok (.astore_n 2, 1) := by decide +kernel
theorem dX3_keyAt_6 : decode cX3_keyAt 6 = .ok (.aload_n 2, 1) := by decide +kernel
theorem dX3_keyAt_7 : decode cX3_keyAt 7 = .ok (.ifnonnull 7, 3) := by decide +kernel
theorem dX3_keyAt_10 : decode cX3_keyAt 10 = .ok (.aconst_null, 1) := by decide +kernel
theorem dX3_keyAt_11 : decode cX3_keyAt 11 = .ok (.goto 7, 3) := by decide +kernel
theorem dX3_keyAt_14 : decode cX3_keyAt 14 = .ok (.aload_n 2, 1) := by decide +kernel
theorem dX3_keyAt_15 : decode cX3_keyAt 15 = .ok (.getfield 29, 3) := by decide +kernel
theorem dX3_keyAt_18 : decode cX3_keyAt 18 = .ok (.areturn, 1) := by decide +kernel
set_option maxRecDepth 20000 in
theorem ggX3_placeFrom_X3_entryAt : GoodIn wsX3_placeFrom wsX3_entryAt := goodIn_r _ [6, 1, 7, 8, 9, 10, 66, 67] (by decide +kernel) (by decide +kernel)
set_option maxRecDepth 20000 in
theorem gX3_placeFrom_X3_entryAt : GoodIn wsX3_placeFrom (wsV RX3 25 RX3 yX3_entryAt wsX3_entryAt) := goodIn_app (goodIn_of _ (by decide +kernel)) ggX3_placeFrom_X3_entryAt
set_option maxRecDepth 20000 in
theorem ggX3_placeFrom_X9_compareTexts : GoodIn wsX3_placeFrom wsX9_compareTexts := goodIn_r _ [12, 13, 14, 15, 16, 17, 18, 19, 20, 21, 22, 23, 24, 25, 26, 27, 28, 29, 30, 31, 32, 33, 34, 35, 36, 37, 38, 39, 40, 41, 42, 43, 44, 45, 46, 47, 48, 49, 50, 51, 52, 53, 54, 55, 56, 57, 58, 59, 60, 61, 62, 63, 64, 65, 70, 71, 72, 73] (by decide +kernel) (by decide +kernel)
set_option maxRecDepth 20000 in
theorem gX3_placeFrom_X9_compareTexts_n33 : GoodIn wsX3_placeFrom (wsX9_compareTexts) := ggX3_placeFrom_X9_compareTexts
theorem dX3_placeFrom_0 : decode cX3_placeFrom 0 = .ok (.iconst 0, 1) := by decide +kernel
theorem dX3_placeFrom_1 : decode cX3_placeFrom 1 = .ok (.istore_n 2, 1) := by decide +kernel
theorem dX3_placeFrom_2 : decode cX3_placeFrom 2 = .ok (.iload_n 2, 1) := by decide +kernel
theorem dX3_placeFrom_3 : decode cX3_placeFrom 3 = .ok (.aload_n 0, 1) := by decide +kernel
theorem dX3_placeFrom_4 : decode cX3_placeFrom 4 = .ok (.getfield 17, 3) := by decide +kernel
theorem dX3_placeFrom_7 : decode cX3_placeFrom 7 = .ok (.if_icmp .ge 32, 3) := by decide +kernel
theorem dX3_placeFrom_10 : decode cX3_placeFrom 10 = .ok (.aload_n 0, 1) := by decide +kernel
theorem dX3_placeFrom_11 : decode cX3_placeFrom 11 = .ok (.iload_n 2, 1) := by decide +kernel
theorem dX3_placeFrom_12 : decode cX3_placeFrom 12 = .ok (.invokevirtual 25, 3) := by decide +kernel
theorem dX3_placeFrom_15 : decode cX3_placeFrom 15 = .ok (.astore_n 3, 1) := by decide +kernel
theorem dX3_placeFrom_16 : decode cX3_placeFrom 16 = .ok (.aload_n 3, 1) := by decide +kernel
theorem dX3_placeFrom_17 : decode cX3_placeFrom 17 = .ok (.ifnull 16, 3) := by decide +kernel
theorem dX3_placeFrom_20 : decode cX3_placeFrom 20 = .ok (.aload_n 3, 1) := by decide +kernel
theorem dX3_placeFrom_21 : decode cX3_placeFrom 21 = .ok (.getfield 29, 3) := by decide +kernel
theorem dX3_placeFrom_24 : decode cX3_placeFrom 24 = .ok (.aload_n 1, 1) := by decide +kernel
theorem dX3_placeFrom_25 : decode cX3_placeFrom 25 = .ok (.invokestatic 33, 3) := by decide +kernel
theorem dX3_placeFrom_28 : decode cX3_placeFrom 28 = .ok (.ifCond .lt 5, 3) := by decide +kernel
theorem dX3_placeFrom_31 : decode cX3_placeFrom 31 = .ok (.iload_n 2, 1) := by decide +kernel
theorem dX3_placeFrom_32 : decode cX3_placeFrom 32 = .ok (.ireturn, 1) := by decide +kernel
theorem dX3_placeFrom_33 : decode cX3_placeFrom 33 = .ok (.iinc 2 1, 3) := by decide +kernel
theorem dX3_placeFrom_36 : decode cX3_placeFrom 36 = .ok (.goto (-34), 3) := by decide +kernel
theorem dX3_placeFrom_39 : decode cX3_placeFrom 39 = .ok (.aload_n 0, 1) := by decide +kernel
theorem dX3_placeFrom_40 : decode cX3_placeFrom 40 = .ok (.getfield 17, 3) := by decide +kernel
theorem dX3_placeFrom_43 : decode cX3_placeFrom 43 = .ok (.ireturn, 1) := by decide +kernel
set_option maxRecDepth 20000 in
theorem ggX3_valueOf_X3_placeFrom : GoodIn wsX3_valueOf wsX3_placeFrom := goodIn_r _ [5, 6, 7, 8, 9, 4, 10, 11, 12, 13, 14, 15, 16, 17, 18, 19, 20, 21, 22, 23, 24, 25, 26, 27, 28, 29, 30, 31, 32, 33, 34, 35, 36, 37, 38, 39, 40, 41, 42, 43, 44, 45, 46, 47, 48, 49, 50, 51, 52, 53, 54, 55, 56, 57, 58, 59, 60, 61, 62, 63, 64, 65, 66, 67, 68, 69, 80, 81, 78, 79, 82, 83, 84, 85] (by decide +kernel) (by decide +kernel)
set_option maxRecDepth 20000 in
theorem gX3_valueOf_X3_placeFrom : GoodIn wsX3_valueOf (wsV RX3 37 RX3 yX3_placeFrom wsX3_placeFrom) := goodIn_app (goodIn_of _ (by decide +kernel)) ggX3_valueOf_X3_placeFrom
set_option maxRecDepth 20000 in
theorem ggX3_valueOf_X3_entryAt : GoodIn wsX3_valueOf wsX3_entryAt := goodIn_r _ [10, 6, 11, 12, 13, 14, 80, 81] (by decide +kernel) (by decide +kernel)
set_option maxRecDepth 20000 in
theorem gX3_valueOf_X3_entryAt : GoodIn wsX3_valueOf (wsV RX3 25 RX3 yX3_entryAt wsX3_entryAt) := goodIn_app (goodIn_of _ (by decide +kernel)) ggX3_valueOf_X3_entryAt
set_option maxRecDepth 20000 in
theorem ggX3_valueOf_J0_equals_9ea2d : GoodIn wsX3_valueOf wsJ0_equals_9ea2d := goodIn_r _ [73, 74, 31, 32, 26, 75, 76, 43, 77, 82, 83, 84, 85] (by decide +kernel) (by decide +kernel)
set_option maxRecDepth 20000 in
theorem gX3_valueOf_J0_equals_9ea2d : GoodIn wsX3_valueOf (wsV RX3 41 RJ0 yJ0_equals_9ea2d wsJ0_equals_9ea2d) := goodIn_app (goodIn_of _ (by decide +kernel)) ggX3_valueOf_J0_equals_9ea2d
theorem dX3_valueOf_0 : decode cX3_valueOf 0 = .ok (.aload_n 0, 1) := by decide +kernel
theorem dX3_valueOf_1 : decode cX3_valueOf 1 = .ok (.aload_n 0, 1) := by decide +kernel
theorem dX3_valueOf_2 : decode cX3_valueOf 2 = .ok (.aload_n 1, 1) := by decide +kernel
theorem dX3_valueOf_3 : decode cX3_valueOf 3 = .ok (.invokevirtual 37, 3) := by decide +kernel
theorem dX3_valueOf_6 : decode cX3_valueOf 6 = .ok (.invokevirtual 25, 3) := by decide +kernel
theorem dX3_valueOf_9 : decode cX3_valueOf 9 = .ok (.astore_n 2, 1) := by decide +kernel
theorem dX3_valueOf_10 : decode cX3_valueOf 10 = .ok (.aload_n 2, 1) := by decide +kernel
theorem dX3_valueOf_11 : decode cX3_valueOf 11 = .ok (.ifnull 21, 3) := by decide +kernel
theorem dX3_valueOf_14 : decode cX3_valueOf 14 = .ok (.aload_n 2, 1) := by decide +kernel
theorem dX3_valueOf_15 : decode cX3_valueOf 15 = .ok (.getfield 29, 3) := by decide +kernel
theorem dX3_valueOf_18 : decode cX3_valueOf 18 = .ok (.aload_n 1, 1) := by decide +kernel
theorem dX3_valueOf_19 : decode cX3_valueOf 19 = .ok (.invokevirtual 41, 3) := by decide +kernel
theorem dX3_valueOf_22 : decode cX3_valueOf 22 = .ok (.ifCond .eq 10, 3) := by decide +kernel
theorem dX3_valueOf_25 : decode cX3_valueOf 25 = .ok (.aload_n 2, 1) := by decide +kernel
theorem dX3_valueOf_26 : decode cX3_valueOf 26 = .ok (.getfield 47, 3) := by decide +kernel
theorem dX3_valueOf_29 : decode cX3_valueOf 29 = .ok (.goto 4, 3) := by decide +kernel
theorem dX3_valueOf_32 : decode cX3_valueOf 32 = .ok (.aconst_null, 1) := by decide +kernel
theorem dX3_valueOf_33 : decode cX3_valueOf 33 = .ok (.areturn, 1) := by decide +kernel
set_option maxRecDepth 20000 in
theorem ggX3_put_X3_placeFrom : GoodIn wsX3_put wsX3_placeFrom := goodIn_r _ [10, 1, 11, 12, 13, 9, 14, 2, 15, 16, 17, 18, 19, 20, 21, 22, 23, 24, 25, 26, 27, 28, 29, 30, 31, 32, 33, 34, 35, 36, 37, 38, 39, 40, 41, 42, 43, 44, 45, 46, 47, 48, 49, 50, 51, 52, 53, 54, 55, 56, 57, 58, 59, 60, 61, 62, 63, 64, 65, 66, 67, 68, 69, 70, 71, 72, 91, 92, 89, 90, 93, 94, 95, 96] (by decide +kernel) (by decide +kernel)
set_option maxRecDepth 20000 in
theorem gX3_put_X3_placeFrom : GoodIn wsX3_put (wsV RX3 37 RX3 yX3_placeFrom wsX3_placeFrom) := goodIn_app (goodIn_of _ (by decide +kernel)) ggX3_put_X3_placeFrom
set_option maxRecDepth 20000 in
theorem ggX3_put_X3_entryAt : GoodIn wsX3_put wsX3_entryAt := goodIn_r _ [14, 1, 2, 15, 16, 17, 91, 92] (by decide +kernel) (by decide +kernel)
set_option maxRecDepth 20000 in
theorem gX3_put_X3_entryAt : GoodIn wsX3_put (wsV RX3 25 RX3 yX3_entryAt wsX3_entryAt) := goodIn_app (goodIn_of _ (by decide +kernel)) ggX3_put_X3_entryAt
set_option maxRecDepth 20000 in
theorem ggX3_put_J0_equals_9ea2d : GoodIn wsX3_put wsJ0_equals_9ea2d := goodIn_r _ [76, 77, 34, 35, 29, 78, 79, 46, 80, 93, 94, 95, 96] (by decide +kernel) (by decide +kernel)
set_option maxRecDepth 20000 in
theorem gX3_put_J0_equals_9ea2d : GoodIn wsX3_put (wsV RX3 41 RJ0 yJ0_equals_9ea2d wsJ0_equals_9ea2d) := goodIn_app (goodIn_of _ (by decide +kernel)) ggX3_put_J0_equals_9ea2d
set_option maxRecDepth 20000 in
theorem ggX3_put_X0_init : GoodIn wsX3_put wsX0_init := goodIn_r _ [83, 84, 85, 86, 87, 88, 89, 90] (by decide +kernel) (by decide +kernel)
set_option maxRecDepth 20000 in
theorem gX3_put_X0_init : GoodIn wsX3_put (wsX0_init) := ggX3_put_X0_init
theorem dX3_put_0 : decode cX3_put 0 = .ok (.aload_n 0, 1) := by decide +kernel
theorem dX3_put_1 : decode cX3_put 1 = .ok (.aload_n 1, 1) := by decide +kernel
theorem dX3_put_2 : decode cX3_put 2 = .ok (.invokevirtual 37, 3) := by decide +kernel
theorem dX3_put_5 : decode cX3_put 5 = .ok (.istore_n 3, 1) := by decide +kernel
theorem dX3_put_6 : decode cX3_put 6 = .ok (.aload_n 0, 1) := by decide +kernel
theorem dX3_put_7 : decode cX3_put 7 = .ok (.iload_n 3, 1) := by decide +kernel
theorem dX3_put_8 : decode cX3_put 8 = .ok (.invokevirtual 25, 3) := by decide +kernel
theorem dX3_put_11 : decode cX3_put 11 = .ok (.astore 4, 2) := by decide +kernel
theorem dX3_put_13 : decode cX3_put 13 = .ok (.aload 4, 2) := by decide +kernel
theorem dX3_put_15 : decode cX3_put 15 = .ok (.ifnull 15, 3) := by decide +kernel
theorem dX3_put_18 : decode cX3_put 18 = .ok (.aload 4, 2) := by decide +kernel
theorem dX3_put_20 : decode cX3_put 20 = .ok (.getfield 29, 3) := by decide +kernel
theorem dX3_put_23 : decode cX3_put 23 = .ok (.aload_n 1, 1) := by decide +kernel
theorem dX3_put_24 : decode cX3_put 24 = .ok (.invokevirtual 41, 3) := by decide +kernel
theorem dX3_put_27 : decode cX3_put 27 = .ok (.ifCond .ne 58, 3) := by decide +kernel
theorem dX3_put_30 : decode cX3_put 30 = .ok (.aload_n 0, 1) := by decide +kernel
theorem dX3_put_31 : decode cX3_put 31 = .ok (.getfield 17, 3) := by decide +kernel
theorem dX3_put_34 : decode cX3_put 34 = .ok (.bipush 40, 2) := by decide +kernel
theorem dX3_put_36 : decode cX3_put 36 = .ok (.if_icmp .lt 5, 3) := by decide +kernel
theorem dX3_put_39 : decode cX3_put 39 = .ok (.iconst 0, 1) := by decide +kernel
theorem dX3_put_40 : decode cX3_put 40 = .ok (.ireturn, 1) := by decide +kernel
theorem dX3_put_41 : decode cX3_put 41 = .ok (.aload_n 0, 1) := by decide +kernel
theorem dX3_put_42 : decode cX3_put 42 = .ok (.getfield 17, 3) := by decide +kernel
theorem dX3_put_45 : decode cX3_put 45 = .ok (.istore 5, 2) := by decide +kernel
theorem dX3_put_47 : decode cX3_put 47 = .ok (.iload 5, 2) := by decide +kernel
theorem dX3_put_49 : decode cX3_put 49 = .ok (.iload_n 3, 1) := by decide +kernel
theorem dX3_put_50 : decode cX3_put 50 = .ok (.if_icmp .le 25, 3) := by decide +kernel
theorem dX3_put_53 : decode cX3_put 53 = .ok (.aload_n 0, 1) := by decide +kernel
theorem dX3_put_54 : decode cX3_put 54 = .ok (.getfield 11, 3) := by decide +kernel
theorem dX3_put_57 : decode cX3_put 57 = .ok (.iload 5, 2) := by decide +kernel
theorem dX3_put_59 : decode cX3_put 59 = .ok (.aload_n 0, 1) := by decide +kernel
theorem dX3_put_60 : decode cX3_put 60 = .ok (.getfield 11, 3) := by decide +kernel
theorem dX3_put_63 : decode cX3_put 63 = .ok (.iload 5, 2) := by decide +kernel
theorem dX3_put_65 : decode cX3_put 65 = .ok (.iconst 1, 1) := by decide +kernel
theorem dX3_put_66 : decode cX3_put 66 = .ok (.isub, 1) := by decide +kernel
theorem dX3_put_67 : decode cX3_put 67 = .ok (.aaload, 1) := by decide +kernel
theorem dX3_put_68 : decode cX3_put 68 = .ok (.aastore, 1) := by decide +kernel
theorem dX3_put_69 : decode cX3_put 69 = .ok (.iinc 5 (-1), 3) := by decide +kernel
theorem dX3_put_72 : decode cX3_put 72 = .ok (.goto (-25), 3) := by decide +kernel
theorem dX3_put_75 : decode cX3_put 75 = .ok (.aload_n 0, 1) := by decide +kernel
theorem dX3_put_76 : decode cX3_put 76 = .ok (.dup, 1) := by decide +kernel
theorem dX3_put_77 : decode cX3_put 77 = .ok (.getfield 17, 3) := by decide +kernel
theorem dX3_put_80 : decode cX3_put 80 = .ok (.iconst 1, 1) := by decide +kernel
theorem dX3_put_81 : decode cX3_put 81 = .ok (.iadd, 1) := by decide +kernel
theorem dX3_put_82 : decode cX3_put 82 = .ok (.putfield 17, 3) := by decide +kernel
theorem dX3_put_85 : decode cX3_put 85 = .ok (.aload_n 0, 1) := by decide +kernel
theorem dX3_put_86 : decode cX3_put 86 = .ok (.getfield 11, 3) := by decide +kernel
theorem dX3_put_89 : decode cX3_put 89 = .ok (.iload_n 3, 1) := by decide +kernel
theorem dX3_put_90 : decode cX3_put 90 = .ok (.new 9, 3) := by decide +kernel
theorem dX3_put_93 : decode cX3_put 93 = .ok (.dup, 1) := by decide +kernel
theorem dX3_put_94 : decode cX3_put 94 = .ok (.aload_n 1, 1) := by decide +kernel
theorem dX3_put_95 : decode cX3_put 95 = .ok (.aload_n 2, 1) := by decide +kernel
theorem dX3_put_96 : decode cX3_put 96 = .ok (.invokespecial 50, 3) := by decide +kernel
theorem dX3_put_99 : decode cX3_put 99 = .ok (.aastore, 1) := by decide +kernel
theorem dX3_put_100 : decode cX3_put 100 = .ok (.iconst 1, 1) := by decide +kernel
theorem dX3_put_101 : decode cX3_put 101 = .ok (.ireturn, 1) := by decide +kernel
theorem dX3_removeAll_0 : decode cX3_removeAll 0 = .ok (.aload_n 0, 1) := by decide +kernel
theorem dX3_removeAll_1 : decode cX3_removeAll 1 = .ok (.iconst 0, 1) := by decide +kernel
theorem dX3_removeAll_2 : decode cX3_removeAll 2 = .ok (.putfield 17, 3) := by decide +kernel
theorem dX3_removeAll_5 : decode cX3_removeAll 5 = .ok (.return_, 1) := by decide +kernel
theorem dX3_takeAll_0 : decode cX3_takeAll 0 = .ok (.iconst 0, 1) := by decide +kernel
theorem dX3_takeAll_1 : decode cX3_takeAll 1 = .ok (.istore_n 2, 1) := by decide +kernel
theorem dX3_takeAll_2 : decode cX3_takeAll 2 = .ok (.iload_n 2, 1) := by decide +kernel
theorem dX3_takeAll_3 : decode cX3_takeAll 3 = .ok (.aload_n 1, 1) := by decide +kernel
theorem dX3_takeAll_4 : decode cX3_takeAll 4 = .ok (.getfield 17, 3) := by decide +kernel
theorem dX3_takeAll_7 : decode cX3_takeAll 7 = .ok (.if_icmp .ge 21, 3) := by decide +kernel
theorem dX3_takeAll_10 : decode cX3_takeAll 10 = .ok (.aload_n 0, 1) := by decide +kernel
theorem dX3_takeAll_11 : decode cX3_takeAll 11 = .ok (.getfield 11, 3) := by decide +kernel
theorem dX3_takeAll_14 : decode cX3_takeAll 14 = .ok (.iload_n 2, 1) := by decide +kernel
theorem dX3_takeAll_15 : decode cX3_takeAll 15 = .ok (.aload_n 1, 1) := by decide +kernel
theorem dX3_takeAll_16 : decode cX3_takeAll 16 = .ok (.getfield 11, 3) := by decide +kernel
theorem dX3_takeAll_19 : decode cX3_takeAll 19 = .ok (.iload_n 2, 1) := by decide +kernel
theorem dX3_takeAll_20 : decode cX3_takeAll 20 = .ok (.aaload, 1) := by decide +kernel
theorem dX3_takeAll_21 : decode cX3_takeAll 21 = .ok (.aastore, 1) := by decide +kernel
theorem dX3_takeAll_22 : decode cX3_takeAll 22 = .ok (.iinc 2 1, 3) := by decide +kernel
theorem dX3_takeAll_25 : decode cX3_takeAll 25 = .ok (.goto (-23), 3) := by decide +kernel
theorem dX3_takeAll_28 : decode cX3_takeAll 28 = .ok (.aload_n 0, 1) := by decide +kernel
theorem dX3_takeAll_29 : decode cX3_takeAll 29 = .ok (.aload_n 1, 1) := by decide +kernel
theorem dX3_takeAll_30 : decode cX3_takeAll 30 = .ok (.getfield 17, 3) := by decide +kernel
theorem dX3_takeAll_33 : decode cX3_takeAll 33 = .ok (.putfield 17, 3) := by decide +kernel
theorem dX3_takeAll_36 : decode cX3_takeAll 36 = .ok (.return_, 1) := by decide +kernel
set_option maxRecDepth 20000 in
theorem ggX3_hasEntriesOf_X3_entryAt : GoodIn wsX3_hasEntriesOf wsX3_entryAt := goodIn_r _ [6, 1, 7, 8, 9, 10, 24, 25] (by decide +kernel) (by decide +kernel)
set_option maxRecDepth 20000 in
theorem gX3_hasEntriesOf_X3_entryAt : GoodIn wsX3_hasEntriesOf (wsV RX3 25 RX3 yX3_entryAt wsX3_entryAt) := goodIn_app (goodIn_of _ (by decide +kernel)) ggX3_hasEntriesOf_X3_entryAt
set_option maxRecDepth 20000 in
theorem ggX3_hasEntriesOf_J0_equals_9ea2d : GoodIn wsX3_hasEntriesOf wsJ0_equals_9ea2d := goodIn_r _ [15, 16, 17, 18, 19, 20, 21, 22, 23, 28, 29, 30, 31] (by decide +kernel) (by decide +kernel)
set_option maxRecDepth 20000 in
theorem gX3_hasEntriesOf_J0_equals_9ea2d : GoodIn wsX3_hasEntriesOf (wsV RX3 41 RJ0 yJ0_equals_9ea2d wsJ0_equals_9ea2d) := goodIn_app (goodIn_of _ (by decide +kernel)) ggX3_hasEntriesOf_J0_equals_9ea2d
theorem dX3_hasEntriesOf_0 : decode cX3_hasEntriesOf 0 = .ok (.aload_n 0, 1) := by decide +kernel
theorem dX3_hasEntriesOf_1 : decode cX3_hasEntriesOf 1 = .ok (.getfield 17, 3) := by decide +kernel
theorem dX3_hasEntriesOf_4 : decode cX3_hasEntriesOf 4 = .ok (.aload_n 1, 1) := by decide +kernel
theorem dX3_hasEntriesOf_5 : decode cX3_hasEntriesOf 5 = .ok (.getfield 17, 3) := by decide +kernel
theorem dX3_hasEntriesOf_8 : decode cX3_hasEntriesOf 8 = .ok (.if_icmp .eq 5, 3) := by decide +kernel
theorem dX3_hasEntriesOf_11 : decode cX3_hasEntriesOf 11 = .ok (.iconst 0, 1) := by decide +kernel
theorem dX3_hasEntriesOf_12 : decode cX3_hasEntriesOf 12 = .ok (.ireturn, 1) := by decide +kernel
theorem dX3_hasEntriesOf_13 : decode cX3_hasEntriesOf 13 = .ok (.iconst 0, 1) := by decide +kernel
theorem dX3_hasEntriesOf_14 : decode cX3_hasEntriesOf 14 = .ok (.istore_n 2, 1) := by decide +kernel
theorem dX3_hasEntriesOf_15 : decode cX3_hasEntriesOf 15 = .ok (.iload_n 2, 1) := by decide +kernel
theorem dX3_hasEntriesOf_16 : decode cX3_hasEntriesOf 16 = .ok (.aload_n 0, 1) := by decide +kernel
theorem dX3_hasEntriesOf_17 : decode cX3_hasEntriesOf 17 = .ok (.getfield 17, 3) := by decide +kernel
theorem dX3_hasEntriesOf_20 : decode cX3_hasEntriesOf 20 = .ok (.if_icmp .ge 65, 3) := by decide +kernel
theorem dX3_hasEntriesOf_23 : decode cX3_hasEntriesOf 23 = .ok (.aload_n 0, 1) := by decide +kernel
theorem dX3_hasEntriesOf_24 : decode cX3_hasEntriesOf 24 = .ok (.iload_n 2, 1) := by decide +kernel
theorem dX3_hasEntriesOf_25 : decode cX3_hasEntriesOf 25 = .ok (.invokevirtual 25, 3) := by decide +kernel
theorem dX3_hasEntriesOf_28 : decode cX3_hasEntriesOf 28 = .ok (.astore_n 3, 1) := by decide +kernel
theorem dX3_hasEntriesOf_29 : decode cX3_hasEntriesOf 29 = .ok (.aload_n 1, 1) := by decide +kernel
theorem dX3_hasEntriesOf_30 : decode cX3_hasEntriesOf 30 = .ok (.iload_n 2, 1) := by decide +kernel
theorem dX3_hasEntriesOf_31 : decode cX3_hasEntriesOf 31 = .ok (.invokevirtual 25, 3) := by decide +kernel
theorem dX3_hasEntriesOf_34 : decode cX3_hasEntriesOf 34 = .ok (.astore 4, 2) := by decide +kernel
theorem dX3_hasEntriesOf_36 : decode cX3_hasEntriesOf 36 = .ok (.aload_n 3, 1) := by decide +kernel
theorem dX3_hasEntriesOf_37 : decode cX3_hasEntriesOf 37 = .ok (.ifnull 8, 3) := by decide +kernel
theorem dX3_hasEntriesOf_40 : decode cX3_hasEntriesOf 40 = .ok (.aload 4, 2) := by decide +kernel
theorem dX3_hasEntriesOf_42 : decode cX3_hasEntriesOf 42 = .ok (.ifnonnull 5, 3) := by decide +kernel
theorem dX3_hasEntriesOf_45 : decode cX3_hasEntriesOf 45 = .ok (.iconst 0, 1) := by decide +kernel
theorem dX3_hasEntriesOf_46 : decode cX3_hasEntriesOf 46 = .ok (.ireturn, 1) := by decide +kernel
theorem dX3_hasEntriesOf_47 : decode cX3_hasEntriesOf 47 = .ok (.aload_n 3, 1) := by decide +kernel
theorem dX3_hasEntriesOf_48 : decode cX3_hasEntriesOf 48 = .ok (.getfield 29, 3) := by decide +kernel
theorem dX3_hasEntriesOf_51 : decode cX3_hasEntriesOf 51 = .ok (.aload 4, 2) := by decide +kernel
theorem dX3_hasEntriesOf_53 : decode cX3_hasEntriesOf 53 = .ok (.getfield 29, 3) := by decide +kernel
theorem dX3_hasEntriesOf_56 : decode cX3_hasEntriesOf 56 = .ok (.invokevirtual 41, 3) := by decide +kernel
theorem dX3_hasEntriesOf_59 : decode cX3_hasEntriesOf 59 = .ok (.ifCond .eq 18, 3) := by decide +kernel
theorem dX3_hasEntriesOf_62 : decode cX3_hasEntriesOf 62 = .ok (.aload_n 3, 1) := by decide +kernel
theorem dX3_hasEntriesOf_63 : decode cX3_hasEntriesOf 63 = .ok (.getfield 47, 3) := by decide +kernel
theorem dX3_hasEntriesOf_66 : decode cX3_hasEntriesOf 66 = .ok (.aload 4, 2) := by decide +kernel
theorem dX3_hasEntriesOf_68 : decode cX3_hasEntriesOf 68 = .ok (.getfield 47, 3) := by decide +kernel
theorem dX3_hasEntriesOf_71 : decode cX3_hasEntriesOf 71 = .ok (.invokevirtual 41, 3) := by decide +kernel
theorem dX3_hasEntriesOf_74 : decode cX3_hasEntriesOf 74 = .ok (.ifCond .ne 5, 3) := by decide +kernel
theorem dX3_hasEntriesOf_77 : decode cX3_hasEntriesOf 77 = .ok (.iconst 0, 1) := by decide +kernel
theorem dX3_hasEntriesOf_78 : decode cX3_hasEntriesOf 78 = .ok (.ireturn, 1) := by decide +kernel
theorem dX3_hasEntriesOf_79 : decode cX3_hasEntriesOf 79 = .ok (.iinc 2 1, 3) := by decide +kernel
theorem dX3_hasEntriesOf_82 : decode cX3_hasEntriesOf 82 = .ok (.goto (-67), 3) := by decide +kernel
theorem dX3_hasEntriesOf_85 : decode cX3_hasEntriesOf 85 = .ok (.iconst 1, 1) := by decide +kernel
theorem dX3_hasEntriesOf_86 : decode cX3_hasEntriesOf 86 = .ok (.ireturn, 1) := by decide +kernel
set_option maxRecDepth 20000 in
theorem ggX3_digestNumber_X3_entryAt : GoodIn wsX3_digestNumber wsX3_entryAt := goodIn_r _ [6, 1, 7, 8, 9, 10, 63, 64] (by decide +kernel) (by decide +kernel)
set_option maxRecDepth 20000 in
theorem gX3_digestNumber_X3_entryAt : GoodIn wsX3_digestNumber (wsV RX3 25 RX3 yX3_entryAt wsX3_entryAt) := goodIn_app (goodIn_of _ (by decide +kernel)) ggX3_digestNumber_X3_entryAt
set_option maxRecDepth 20000 in
theorem ggX3_digestNumber_X3_digestOn : GoodIn wsX3_digestNumber wsX3_digestOn := goodIn_r _ [13, 14, 15, 16, 17, 18, 19, 20, 21, 22, 23, 24, 25, 26, 27, 28, 29, 30, 31, 32, 33, 34, 35, 36, 37, 38, 39, 40, 41, 42, 43, 44, 45, 46, 47, 48, 49, 50, 51, 52, 53, 54, 55, 56, 57, 58, 59, 60, 61, 62, 67, 68, 69, 70] (by decide +kernel) (by decide +kernel)
set_option maxRecDepth 20000 in
theorem gX3_digestNumber_X3_digestOn : GoodIn wsX3_digestNumber (va_wsS RX3 53 yX3_digestOn wsX3_digestOn) := goodIn_app (goodIn_of _ (by decide +kernel)) ggX3_digestNumber_X3_digestOn
theorem dX3_digestNumber_0 : decode cX3_digestNumber 0 = .ok (.bipush 7, 2) := by decide +kernel
theorem dX3_digestNumber_2 : decode cX3_digestNumber 2 = .ok (.istore_n 1, 1) := by decide +kernel
theorem dX3_digestNumber_3 : decode cX3_digestNumber 3 = .ok (.iconst 0, 1) := by decide +kernel
theorem dX3_digestNumber_4 : decode cX3_digestNumber 4 = .ok (.istore_n 2, 1) := by decide +kernel
theorem dX3_digestNumber_5 : decode cX3_digestNumber 5 = .ok (.iload_n 2, 1) := by decide +kernel
theorem dX3_digestNumber_6 : decode cX3_digestNumber 6 = .ok (.aload_n 0, 1) := by decide +kernel
theorem dX3_digestNumber_7 : decode cX3_digestNumber 7 = .ok (.getfield 17, 3) := by decide +kernel
theorem dX3_digestNumber_10 : decode cX3_digestNumber 10 = .ok (.if_icmp .ge 43, 3) := by decide +kernel
theorem dX3_digestNumber_13 : decode cX3_digestNumber 13 = .ok (.aload_n 0, 1) := by decide +kernel
theorem dX3_digestNumber_14 : decode cX3_digestNumber 14 = .ok (.iload_n 2, 1) := by decide +kernel
theorem dX3_digestNumber_15 : decode cX3_digestNumber 15 = .ok (.invokevirtual 25, 3) := by decide +kernel
theorem dX3_digestNumber_18 : decode cX3_digestNumber 18 = .ok (.astore_n 3, 1) := by decide +kernel
theorem dX3_digestNumber_19 : decode cX3_digestNumber 19 = .ok (.aload_n 3, 1) := by decide +kernel
theorem dX3_digestNumber_20 : decode cX3_digestNumber 20 = .ok (.ifnull 27, 3) := by decide +kernel
theorem dX3_digestNumber_23 : decode cX3_digestNumber 23 = .ok (.iload_n 1, 1) := by decide +kernel
theorem dX3_digestNumber_24 : decode cX3_digestNumber 24 = .ok (.aload_n 3, 1) := by decide +kernel
theorem dX3_digestNumber_25 : decode cX3_digestNumber 25 = .ok (.getfield 29, 3) := by decide +kernel
theorem dX3_digestNumber_28 : decode cX3_digestNumber 28 = .ok (.sipush 256, 3) := by decide +kernel
theorem dX3_digestNumber_31 : decode cX3_digestNumber 31 = .ok (.invokestatic 53, 3) := by decide +kernel
theorem dX3_digestNumber_34 : decode cX3_digestNumber 34 = .ok (.istore_n 1, 1) := by decide +kernel
theorem dX3_digestNumber_35 : decode cX3_digestNumber 35 = .ok (.iload_n 1, 1) := by decide +kernel
theorem dX3_digestNumber_36 : decode cX3_digestNumber 36 = .ok (.aload_n 3, 1) := by decide +kernel
theorem dX3_digestNumber_37 : decode cX3_digestNumber 37 = .ok (.getfield 47, 3) := by decide +kernel
theorem dX3_digestNumber_40 : decode cX3_digestNumber 40 = .ok (.sipush 257, 3) := by decide +kernel
theorem dX3_digestNumber_43 : decode cX3_digestNumber 43 = .ok (.invokestatic 53, 3) := by decide +kernel
theorem dX3_digestNumber_46 : decode cX3_digestNumber 46 = .ok (.istore_n 1, 1) := by decide +kernel
theorem dX3_digestNumber_47 : decode cX3_digestNumber 47 = .ok (.iinc 2 1, 3) := by decide +kernel
theorem dX3_digestNumber_50 : decode cX3_digestNumber 50 = .ok (.goto (-45), 3) := by decide +kernel
theorem dX3_digestNumber_53 : decode cX3_digestNumber 53 = .ok (.iload_n 1, 1) := by decide +kernel
theorem dX3_digestNumber_54 : decode cX3_digestNumber 54 = .ok (.ireturn, 1) := by decide +kernel
set_option maxRecDepth 20000 in
theorem ggX3_digestOn_J0_length_8abf5 : GoodIn wsX3_digestOn wsJ0_length_8abf5 := goodIn_r _ [5, 6, 7, 8, 9, 4, 10, 11, 12, 50, 51, 52, 53] (by decide +kernel) (by decide +kernel)
set_option maxRecDepth 20000 in
theorem gX3_digestOn_J0_length_8abf5 : GoodIn wsX3_digestOn (wsV RX3 57 RJ0 yJ0_length_8abf5 wsJ0_length_8abf5) := goodIn_app (goodIn_of _ (by decide +kernel)) ggX3_digestOn_J0_length_8abf5
set_option maxRecDepth 20000 in
theorem ggX3_digestOn_J0_charAt_5068e : GoodIn wsX3_digestOn wsJ0_charAt_5068e := goodIn_r _ [16, 6, 17, 18, 19, 4, 20, 11, 12, 21, 22, 23, 24, 25, 26, 27, 28, 29, 30, 31, 32, 33, 34, 35, 36, 37, 38, 39, 40, 41, 42, 43, 44, 45, 46, 47, 48, 49, 50, 51, 52, 53] (by decide +kernel) (by decide +kernel)
set_option maxRecDepth 20000 in
theorem gX3_digestOn_J0_charAt_5068e : GoodIn wsX3_digestOn (wsV RX3 61 RJ0 yJ0_charAt_5068e wsJ0_charAt_5068e) := goodIn_app (goodIn_of _ (by decide +kernel)) ggX3_digestOn_J0_charAt_5068e
theorem dX3_digestOn_0 : decode cX3_digestOn 0 = .ok (.iload_n 0, 1) := by decide +kernel
theorem dX3_digestOn_1 : decode cX3_digestOn 1 = .ok (.istore_n 3, 1) := by decide +kernel
theorem dX3_digestOn_2 : decode cX3_digestOn 2 = .ok (.iconst 0, 1) := by decide +kernel
theorem dX3_digestOn_3 : decode cX3_digestOn 3 = .ok (.istore 4, 2) := by decide +kernel
theorem dX3_digestOn_5 : decode cX3_digestOn 5 = .ok (.iload 4, 2) := by decide +kernel
theorem dX3_digestOn_7 : decode cX3_digestOn 7 = .ok (.aload_n 1, 1) := by decide +kernel
theorem dX3_digestOn_8 : decode cX3_digestOn 8 = .ok (.invokevirtual 57, 3) := by decide +kernel
theorem dX3_digestOn_11 : decode cX3_digestOn 11 = .ok (.if_icmp .ge 21, 3) := by decide +kernel
theorem dX3_digestOn_14 : decode cX3_digestOn 14 = .ok (.bipush 31, 2) := by decide +kernel
theorem dX3_digestOn_16 : decode cX3_digestOn 16 = .ok (.iload_n 3, 1) := by decide +kernel
theorem dX3_digestOn_17 : decode cX3_digestOn 17 = .ok (.imul, 1) := by decide +kernel
theorem dX3_digestOn_18 : decode cX3_digestOn 18 = .ok (.aload_n 1, 1) := by decide +kernel
theorem dX3_digestOn_19 : decode cX3_digestOn 19 = .ok (.iload 4, 2) := by decide +kernel
theorem dX3_digestOn_21 : decode cX3_digestOn 21 = .ok (.invokevirtual 61, 3) := by decide +kernel
theorem dX3_digestOn_24 : decode cX3_digestOn 24 = .ok (.iadd, 1) := by decide +kernel
theorem dX3_digestOn_25 : decode cX3_digestOn 25 = .ok (.istore_n 3, 1) := by decide +kernel
theorem dX3_digestOn_26 : decode cX3_digestOn 26 = .ok (.iinc 4 1, 3) := by decide +kernel
theorem dX3_digestOn_29 : decode cX3_digestOn 29 = .ok (.goto (-24), 3) := by decide +kernel
theorem dX3_digestOn_32 : decode cX3_digestOn 32 = .ok (.bipush 31, 2) := by decide +kernel
theorem dX3_digestOn_34 : decode cX3_digestOn 34 = .ok (.iload_n 3, 1) := by decide +kernel
theorem dX3_digestOn_35 : decode cX3_digestOn 35 = .ok (.imul, 1) := by decide +kernel
theorem dX3_digestOn_36 : decode cX3_digestOn 36 = .ok (.iload_n 2, 1) := by decide +kernel
theorem dX3_digestOn_37 : decode cX3_digestOn 37 = .ok (.iadd, 1) := by decide +kernel
theorem dX3_digestOn_38 : decode cX3_digestOn 38 = .ok (.ireturn, 1) := by decide +kernel
set_option maxRecDepth 20000 in
theorem ggX3_writtenLength_X3_entryAt : GoodIn wsX3_writtenLength wsX3_entryAt := goodIn_r _ [6, 1, 7, 8, 9, 10, 69, 70] (by decide +kernel) (by decide +kernel)
set_option maxRecDepth 20000 in
theorem gX3_writtenLength_X3_entryAt : GoodIn wsX3_writtenLength (wsV RX3 25 RX3 yX3_entryAt wsX3_entryAt) := goodIn_app (goodIn_of _ (by decide +kernel)) ggX3_writtenLength_X3_entryAt
set_option maxRecDepth 20000 in
theorem ggX3_writtenLength_X1_escapedLength : GoodIn wsX3_writtenLength wsX1_escapedLength := goodIn_r _ [14, 15, 16, 17, 18, 19, 20, 21, 22, 23, 24, 25, 26, 27, 28, 29, 30, 31, 32, 33, 34, 35, 36, 37, 38, 39, 40, 41, 42, 43, 44, 45, 46, 47, 48, 49, 50, 51, 52, 53, 54, 55, 56, 57, 58, 59, 60, 61, 62, 63, 64, 65, 13, 66, 67, 9, 68, 73, 74, 75, 76] (by decide +kernel) (by decide +kernel)
set_option maxRecDepth 20000 in
theorem gX3_writtenLength_X1_escapedLength : GoodIn wsX3_writtenLength (va_wsS RX3 65 yX1_escapedLength wsX1_escapedLength) := goodIn_app (goodIn_of _ (by decide +kernel)) ggX3_writtenLength_X1_escapedLength
theorem dX3_writtenLength_0 : decode cX3_writtenLength 0 = .ok (.iconst 0, 1) := by decide +kernel
theorem dX3_writtenLength_1 : decode cX3_writtenLength 1 = .ok (.istore_n 1, 1) := by decide +kernel
theorem dX3_writtenLength_2 : decode cX3_writtenLength 2 = .ok (.iconst 0, 1) := by decide +kernel
theorem dX3_writtenLength_3 : decode cX3_writtenLength 3 = .ok (.istore_n 2, 1) := by decide +kernel
theorem dX3_writtenLength_4 : decode cX3_writtenLength 4 = .ok (.iload_n 2, 1) := by decide +kernel
theorem dX3_writtenLength_5 : decode cX3_writtenLength 5 = .ok (.aload_n 0, 1) := by decide +kernel
theorem dX3_writtenLength_6 : decode cX3_writtenLength 6 = .ok (.getfield 17, 3) := by decide +kernel
theorem dX3_writtenLength_9 : decode cX3_writtenLength 9 = .ok (.if_icmp .ge 43, 3) := by decide +kernel
theorem dX3_writtenLength_12 : decode cX3_writtenLength 12 = .ok (.aload_n 0, 1) := by decide +kernel
theorem dX3_writtenLength_13 : decode cX3_writtenLength 13 = .ok (.iload_n 2, 1) := by decide +kernel
theorem dX3_writtenLength_14 : decode cX3_writtenLength 14 = .ok (.invokevirtual 25, 3) := by decide +kernel
theorem dX3_writtenLength_17 : decode cX3_writtenLength 17 = .ok (.astore_n 3, 1) := by decide +kernel
theorem dX3_writtenLength_18 : decode cX3_writtenLength 18 = .ok (.aload_n 3, 1) := by decide +kernel
theorem dX3_writtenLength_19 : decode cX3_writtenLength 19 = .ok (.ifnull 27, 3) := by decide +kernel
theorem dX3_writtenLength_22 : decode cX3_writtenLength 22 = .ok (.iload_n 1, 1) := by decide +kernel
theorem dX3_writtenLength_23 : decode cX3_writtenLength 23 = .ok (.aload_n 3, 1) := by decide +kernel
theorem dX3_writtenLength_24 : decode cX3_writtenLength 24 = .ok (.getfield 29, 3) := by decide +kernel
theorem dX3_writtenLength_27 : decode cX3_writtenLength 27 = .ok (.invokestatic 65, 3) := by decide +kernel
theorem dX3_writtenLength_30 : decode cX3_writtenLength 30 = .ok (.iconst 1, 1) := by decide +kernel
theorem dX3_writtenLength_31 : decode cX3_writtenLength 31 = .ok (.iadd, 1) := by decide +kernel
theorem dX3_writtenLength_32 : decode cX3_writtenLength 32 = .ok (.iadd, 1) := by decide +kernel
theorem dX3_writtenLength_33 : decode cX3_writtenLength 33 = .ok (.istore_n 1, 1) := by decide +kernel
theorem dX3_writtenLength_34 : decode cX3_writtenLength 34 = .ok (.iload_n 1, 1) := by decide +kernel
theorem dX3_writtenLength_35 : decode cX3_writtenLength 35 = .ok (.aload_n 3, 1) := by decide +kernel
theorem dX3_writtenLength_36 : decode cX3_writtenLength 36 = .ok (.getfield 47, 3) := by decide +kernel
theorem dX3_writtenLength_39 : decode cX3_writtenLength 39 = .ok (.invokestatic 65, 3) := by decide +kernel
theorem dX3_writtenLength_42 : decode cX3_writtenLength 42 = .ok (.iconst 1, 1) := by decide +kernel
theorem dX3_writtenLength_43 : decode cX3_writtenLength 43 = .ok (.iadd, 1) := by decide +kernel
theorem dX3_writtenLength_44 : decode cX3_writtenLength 44 = .ok (.iadd, 1) := by decide +kernel
theorem dX3_writtenLength_45 : decode cX3_writtenLength 45 = .ok (.istore_n 1, 1) := by decide +kernel
theorem dX3_writtenLength_46 : decode cX3_writtenLength 46 = .ok (.iinc 2 1, 3) := by decide +kernel
theorem dX3_writtenLength_49 : decode cX3_writtenLength 49 = .ok (.goto (-45), 3) := by decide +kernel
theorem dX3_writtenLength_52 : decode cX3_writtenLength 52 = .ok (.iload_n 1, 1) := by decide +kernel
theorem dX3_writtenLength_53 : decode cX3_writtenLength 53 = .ok (.ireturn, 1) := by decide +kernel
set_option maxRecDepth 20000 in
theorem ggX3_writeOnto_X3_entryAt : GoodIn wsX3_writeOnto wsX3_entryAt := goodIn_r _ [6, 1, 7, 8, 9, 10, 167, 168] (by decide +kernel) (by decide +kernel)
set_option maxRecDepth 20000 in
theorem gX3_writeOnto_X3_entryAt : GoodIn wsX3_writeOnto (wsV RX3 25 RX3 yX3_entryAt wsX3_entryAt) := goodIn_app (goodIn_of _ (by decide +kernel)) ggX3_writeOnto_X3_entryAt
set_option maxRecDepth 20000 in
theorem ggX3_writeOnto_X1_escapeOnto : GoodIn wsX3_writeOnto wsX1_escapeOnto := goodIn_r _ [14, 15, 16, 17, 18, 19, 20, 21, 22, 23, 24, 25, 26, 27, 28, 29, 30, 31, 32, 33, 34, 35, 36, 37, 38, 39, 40, 41, 42, 43, 44, 45, 46, 47, 48, 49, 50, 51, 52, 53, 54, 55, 56, 57, 58, 59, 60, 61, 62, 63, 64, 65, 13, 66, 67, 68, 69, 70, 71, 72, 73, 74, 75, 76, 77, 78, 79, 80, 81, 82, 83, 84, 85, 86, 87, 88, 89, 90, 91, 92, 93, 94, 95, 96, 97, 98, 99, 100, 101, 102, 103, 104, 105, 106, 107, 108, 109, 110, 111, 112, 113, 114, 115, 116, 117, 118, 119, 120, 121, 122, 123, 124, 125, 126, 127, 128, 129, 130, 131, 132, 133, 134, 135, 136, 137, 138, 139, 140, 141, 142, 143, 144, 145, 146, 147, 148, 149, 150, 151, 152, 153, 154, 155, 156, 157, 158, 159, 160, 161, 162, 163, 164, 9, 165, 171, 172, 173, 174, 175, 176, 177, 178] (by decide +kernel) (by decide +kernel)
set_option maxRecDepth 20000 in
theorem gX3_writeOnto_X1_escapeOnto : GoodIn wsX3_writeOnto (va_wsS RX3 70 yX1_escapeOnto wsX1_escapeOnto) := goodIn_app (goodIn_of _ (by decide +kernel)) ggX3_writeOnto_X1_escapeOnto
set_option maxRecDepth 20000 in
theorem ggX3_writeOnto_J4_append_cf468 : GoodIn wsX3_writeOnto wsJ4_append_cf468 := goodIn_r _ [71, 72, 73, 74, 75, 76, 77, 78, 79, 80, 81, 82, 83, 84, 85, 86, 87, 88, 89, 90, 91, 92, 93, 94, 95, 96, 97, 98, 99, 100, 101, 102, 103, 104, 105, 106, 107, 108, 109, 110, 111, 112, 113, 114, 115, 116, 117, 118, 119, 120, 121, 122, 123, 124, 125, 126, 127, 128, 129, 37, 130, 131, 132, 133, 134, 135, 136, 137, 49, 138, 139, 140, 141, 142, 143, 144, 145, 146, 147, 148, 149, 150, 151, 54, 55, 56, 152, 153, 18, 154, 42, 155, 156, 45, 157, 158, 159, 160, 61, 62, 63, 161, 162, 163, 51, 52, 53, 57, 40, 41, 43, 44, 46, 175, 176, 177, 178] (by decide +kernel) (by decide +kernel)
set_option maxRecDepth 20000 in
theorem gX3_writeOnto_J4_append_cf468 : GoodIn wsX3_writeOnto (wsV RX3 74 RJ4 yJ4_append_cf468 wsJ4_append_cf468) := goodIn_app (goodIn_of _ (by decide +kernel)) ggX3_writeOnto_J4_append_cf468
theorem dX3_writeOnto_0 : decode cX3_writeOnto 0 = .ok (.iconst 0, 1) := by decide +kernel
theorem dX3_writeOnto_1 : decode cX3_writeOnto 1 = .ok (.istore_n 2, 1) := by decide +kernel
theorem dX3_writeOnto_2 : decode cX3_writeOnto 2 = .ok (.iload_n 2, 1) := by decide +kernel
theorem dX3_writeOnto_3 : decode cX3_writeOnto 3 = .ok (.aload_n 0, 1) := by decide +kernel
theorem dX3_writeOnto_4 : decode cX3_writeOnto 4 = .ok (.getfield 17, 3) := by decide +kernel
theorem dX3_writeOnto_7 : decode cX3_writeOnto 7 = .ok (.if_icmp .ge 49, 3) := by decide +kernel
theorem dX3_writeOnto_10 : decode cX3_writeOnto 10 = .ok (.aload_n 0, 1) := by decide +kernel
theorem dX3_writeOnto_11 : decode cX3_writeOnto 11 = .ok (.iload_n 2, 1) := by decide +kernel
theorem dX3_writeOnto_12 : decode cX3_writeOnto 12 = .ok (.invokevirtual 25, 3) := by decide +kernel
theorem dX3_writeOnto_15 : decode cX3_writeOnto 15 = .ok (.astore_n 3, 1) := by decide +kernel
theorem dX3_writeOnto_16 : decode cX3_writeOnto 16 = .ok (.aload_n 3, 1) := by decide +kernel
theorem dX3_writeOnto_17 : decode cX3_writeOnto 17 = .ok (.ifnull 33, 3) := by decide +kernel
theorem dX3_writeOnto_20 : decode cX3_writeOnto 20 = .ok (.aload_n 1, 1) := by decide +kernel
theorem dX3_writeOnto_21 : decode cX3_writeOnto 21 = .ok (.aload_n 3, 1) := by decide +kernel
theorem dX3_writeOnto_22 : decode cX3_writeOnto 22 = .ok (.getfield 29, 3) := by decide +kernel
theorem dX3_writeOnto_25 : decode cX3_writeOnto 25 = .ok (.invokestatic 70, 3) := by decide +kernel
theorem dX3_writeOnto_28 : decode cX3_writeOnto 28 = .ok (.aload_n 1, 1) := by decide +kernel
theorem dX3_writeOnto_29 : decode cX3_writeOnto 29 = .ok (.bipush 61, 2) := by decide +kernel
theorem dX3_writeOnto_31 : decode cX3_writeOnto 31 = .ok (.invokevirtual 74, 3) := by decide +kernel
theorem dX3_writeOnto_34 : decode cX3_writeOnto 34 = .ok (.pop, 1) := by decide +kernel
theorem dX3_writeOnto_35 : decode cX3_writeOnto 35 = .ok (.aload_n 1, 1) := by decide +kernel
theorem dX3_writeOnto_36 : decode cX3_writeOnto 36 = .ok (.aload_n 3, 1) := by decide +kernel
theorem dX3_writeOnto_37 : decode cX3_writeOnto 37 = .ok (.getfield 47, 3) := by decide +kernel
theorem dX3_writeOnto_40 : decode cX3_writeOnto 40 = .ok (.invokestatic 70, 3) := by decide +kernel
theorem dX3_writeOnto_43 : decode cX3_writeOnto 43 = .ok (.aload_n 1, 1) := by decide +kernel
theorem dX3_writeOnto_44 : decode cX3_writeOnto 44 = .ok (.bipush 10, 2) := by decide +kernel
theorem dX3_writeOnto_46 : decode cX3_writeOnto 46 = .ok (.invokevirtual 74, 3) := by decide +kernel
theorem dX3_writeOnto_49 : decode cX3_writeOnto 49 = .ok (.pop, 1) := by decide +kernel
theorem dX3_writeOnto_50 : decode cX3_writeOnto 50 = .ok (.iinc 2 1, 3) := by decide +kernel
theorem dX3_writeOnto_53 : decode cX3_writeOnto 53 = .ok (.goto (-51), 3) := by decide +kernel
theorem dX3_writeOnto_56 : decode cX3_writeOnto 56 = .ok (.return_, 1) := by decide +kernel
set_option maxRecDepth 20000 in
theorem ggX4_init_X3_init : GoodIn wsX4_init wsX3_init := goodIn_r _ [9, 10, 2, 3, 11, 12, 14, 15] (by decide +kernel) (by decide +kernel)
set_option maxRecDepth 20000 in
theorem gX4_init_X3_init_n17 : GoodIn wsX4_init (wsX3_init) := ggX4_init_X3_init
theorem dX4_init_0 : decode cX4_init 0 = .ok (.aload_n 0, 1) := by decide +kernel
theorem dX4_init_1 : decode cX4_init 1 = .ok (.invokespecial 3, 3) := by decide +kernel
theorem dX4_init_4 : decode cX4_init 4 = .ok (.aload_n 0, 1) := by decide +kernel
theorem dX4_init_5 : decode cX4_init 5 = .ok (.iconst 4, 1) := by decide +kernel
theorem dX4_init_6 : decode cX4_init 6 = .ok (.anewarray 9, 3) := by decide +kernel
theorem dX4_init_9 : decode cX4_init 9 = .ok (.putfield 11, 3) := by decide +kernel
theorem dX4_init_12 : decode cX4_init 12 = .ok (.iconst 0, 1) := by decide +kernel
theorem dX4_init_13 : decode cX4_init 13 = .ok (.istore_n 1, 1) := by decide +kernel
theorem dX4_init_14 : decode cX4_init 14 = .ok (.iload_n 1, 1) := by decide +kernel
theorem dX4_init_15 : decode cX4_init 15 = .ok (.iconst 4, 1) := by decide +kernel
theorem dX4_init_16 : decode cX4_init 16 = .ok (.if_icmp .ge 22, 3) := by decide +kernel
theorem dX4_init_19 : decode cX4_init 19 = .ok (.aload_n 0, 1) := by decide +kernel
theorem dX4_init_20 : decode cX4_init 20 = .ok (.getfield 11, 3) := by decide +kernel
theorem dX4_init_23 : decode cX4_init 23 = .ok (.iload_n 1, 1) := by decide +kernel
theorem dX4_init_24 : decode cX4_init 24 = .ok (.new 9, 3) := by decide +kernel
theorem dX4_init_27 : decode cX4_init 27 = .ok (.dup, 1) := by decide +kernel
theorem dX4_init_28 : decode cX4_init 28 = .ok (.invokespecial 17, 3) := by decide +kernel
theorem dX4_init_31 : decode cX4_init 31 = .ok (.aastore, 1) := by decide +kernel
theorem dX4_init_32 : decode cX4_init 32 = .ok (.iinc 1 1, 3) := by decide +kernel
theorem dX4_init_35 : decode cX4_init 35 = .ok (.goto (-21), 3) := by decide +kernel
theorem dX4_init_38 : decode cX4_init 38 = .ok (.return_, 1) := by decide +kernel
set_option maxRecDepth 20000 in
theorem ggX4_layerAt_X9_isWithin : GoodIn wsX4_layerAt wsX9_isWithin := goodIn_r _ [4] (by decide +kernel) (by decide +kernel)
set_option maxRecDepth 20000 in
theorem gX4_layerAt_X9_isWithin_n18 : GoodIn wsX4_layerAt (wsX9_isWithin) := ggX4_layerAt_X9_isWithin
theorem dX4_layerAt_0 : decode cX4_layerAt 0 = .ok (.iload_n 1, 1) := by decide +kernel
theorem dX4_layerAt_1 : decode cX4_layerAt 1 = .ok (.iconst 4, 1) := by decide +kernel
theorem dX4_layerAt_2 : decode cX4_layerAt 2 = .ok (.invokestatic 18, 3) := by decide +kernel
theorem dX4_layerAt_5 : decode cX4_layerAt 5 = .ok (.ifCond .eq 12, 3) := by decide +kernel
theorem dX4_layerAt_8 : decode cX4_layerAt 8 = .ok (.aload_n 0, 1) := by decide +kernel
theorem dX4_layerAt_9 : decode cX4_layerAt 9 = .ok (.getfield 11, 3) := by decide +kernel
theorem dX4_layerAt_12 : decode cX4_layerAt 12 = .ok (.iload_n 1, 1) := by decide +kernel
theorem dX4_layerAt_13 : decode cX4_layerAt 13 = .ok (.aaload, 1) := by decide +kernel
theorem dX4_layerAt_14 : decode cX4_layerAt 14 = .ok (.goto 4, 3) := by decide +kernel
theorem dX4_layerAt_17 : decode cX4_layerAt 17 = .ok (.aconst_null, 1) := by decide +kernel
theorem dX4_layerAt_18 : decode cX4_layerAt 18 = .ok (.areturn, 1) := by decide +kernel
set_option maxRecDepth 20000 in
theorem ggX4_layerHaving_X4_layerAt : GoodIn wsX4_layerHaving wsX4_layerAt := goodIn_r _ [5, 6, 7, 8, 9, 88] (by decide +kernel) (by decide +kernel)
set_option maxRecDepth 20000 in
theorem gX4_layerHaving_X4_layerAt : GoodIn wsX4_layerHaving (wsV RX4 22 RX4 yX4_layerAt wsX4_layerAt) := goodIn_app (goodIn_of _ (by decide +kernel)) ggX4_layerHaving_X4_layerAt
set_option maxRecDepth 20000 in
theorem ggX4_layerHaving_X3_valueOf : GoodIn wsX4_layerHaving wsX3_valueOf := goodIn_r _ [14, 15, 16, 17, 13, 18, 19, 20, 21, 22, 23, 24, 7, 8, 9, 25, 26, 27, 28, 29, 30, 31, 32, 33, 34, 35, 36, 37, 38, 39, 40, 41, 42, 43, 44, 45, 46, 47, 48, 49, 50, 51, 52, 53, 54, 55, 56, 57, 58, 59, 60, 61, 62, 63, 64, 65, 66, 67, 68, 69, 70, 71, 72, 73, 74, 75, 76, 77, 78, 79, 80, 81, 82, 83, 84, 85, 86, 87, 89, 90, 91, 92, 93, 94, 95, 96] (by decide +kernel) (by decide +kernel)
set_option maxRecDepth 20000 in
theorem gX4_layerHaving_X3_valueOf : GoodIn wsX4_layerHaving (wsV RX4 26 RX3 yX3_valueOf wsX3_valueOf) := goodIn_app (goodIn_of _ (by decide +kernel)) ggX4_layerHaving_X3_valueOf
theorem dX4_layerHaving_0 : decode cX4_layerHaving 0 = .ok (.iload_n 1, 1) := by decide +kernel
theorem dX4_layerHaving_1 : decode cX4_layerHaving 1 = .ok (.istore_n 3, 1) := by decide +kernel
theorem dX4_layerHaving_2 : decode cX4_layerHaving 2 = .ok (.iload_n 3, 1) := by decide +kernel
theorem dX4_layerHaving_3 : decode cX4_layerHaving 3 = .ok (.ifCond .lt 32, 3) := by decide +kernel
theorem dX4_layerHaving_6 : decode cX4_layerHaving 6 = .ok (.aload_n 0, 1) := by decide +kernel
theorem dX4_layerHaving_7 : decode cX4_layerHaving 7 = .ok (.iload_n 3, 1) := by decide +kernel
theorem dX4_layerHaving_8 : decode cX4_layerHaving 8 = .ok (.invokevirtual 22, 3) := by decide +kernel
theorem dX4_layerHaving_11 : decode cX4_layerHaving 11 = .ok (.astore 4, 2) := by decide +kernel
theorem dX4_layerHaving_13 : decode cX4_layerHaving 13 = .ok (.aload 4, 2) := by decide +kernel
theorem dX4_layerHaving_15 : decode cX4_layerHaving 15 = .ok (.ifnull 14, 3) := by decide +kernel
theorem dX4_layerHaving_18 : decode cX4_layerHaving 18 = .ok (.aload 4, 2) := by decide +kernel
theorem dX4_layerHaving_20 : decode cX4_layerHaving 20 = .ok (.aload_n 2, 1) := by decide +kernel
theorem dX4_layerHaving_21 : decode cX4_layerHaving 21 = .ok (.invokevirtual 26, 3) := by decide +kernel
theorem dX4_layerHaving_24 : decode cX4_layerHaving 24 = .ok (.ifnull 5, 3) := by decide +kernel
theorem dX4_layerHaving_27 : decode cX4_layerHaving 27 = .ok (.iload_n 3, 1) := by decide +kernel
theorem dX4_layerHaving_28 : decode cX4_layerHaving 28 = .ok (.ireturn, 1) := by decide +kernel
theorem dX4_layerHaving_29 : decode cX4_layerHaving 29 = .ok (.iinc 3 (-1), 3) := by decide +kernel
theorem dX4_layerHaving_32 : decode cX4_layerHaving 32 = .ok (.goto (-30), 3) := by decide +kernel
theorem dX4_layerHaving_35 : decode cX4_layerHaving 35 = .ok (.bipush (-5), 2) := by decide +kernel
theorem dX4_layerHaving_37 : decode cX4_layerHaving 37 = .ok (.ireturn, 1) := by decide +kernel
set_option maxRecDepth 20000 in
theorem ggX4_lookUp_X4_layerHaving : GoodIn wsX4_lookUp wsX4_layerHaving := goodIn_r _ [5, 6, 7, 8, 4, 9, 10, 11, 12, 13, 14, 15, 16, 17, 18, 19, 20, 21, 22, 23, 24, 25, 26, 27, 28, 29, 30, 31, 32, 33, 34, 35, 36, 37, 38, 39, 40, 41, 42, 43, 44, 45, 46, 47, 48, 49, 50, 51, 52, 53, 54, 55, 56, 57, 58, 59, 60, 61, 62, 63, 64, 65, 66, 67, 68, 69, 70, 71, 72, 73, 74, 75, 76, 77, 78, 79, 80, 81, 82, 83, 84, 85, 86, 87, 88, 89, 90, 91, 92, 93, 94, 95, 96, 97, 98, 99, 100] (by decide +kernel) (by decide +kernel)
set_option maxRecDepth 20000 in
theorem gX4_lookUp_X4_layerHaving : GoodIn wsX4_lookUp (wsV RX4 30 RX4 yX4_layerHaving wsX4_layerHaving) := goodIn_app (goodIn_of _ (by decide +kernel)) ggX4_lookUp_X4_layerHaving
set_option maxRecDepth 20000 in
theorem ggX4_lookUp_X4_layerAt : GoodIn wsX4_lookUp wsX4_layerAt := goodIn_r _ [9, 10, 11, 12, 13, 92] (by decide +kernel) (by decide +kernel)
set_option maxRecDepth 20000 in
theorem gX4_lookUp_X4_layerAt : GoodIn wsX4_lookUp (wsV RX4 22 RX4 yX4_layerAt wsX4_layerAt) := goodIn_app (goodIn_of _ (by decide +kernel)) ggX4_lookUp_X4_layerAt
set_option maxRecDepth 20000 in
theorem ggX4_lookUp_X3_valueOf : GoodIn wsX4_lookUp wsX3_valueOf := goodIn_r _ [18, 19, 20, 21, 17, 22, 23, 24, 25, 26, 27, 28, 11, 12, 13, 29, 30, 31, 32, 33, 34, 35, 36, 37, 38, 39, 40, 41, 42, 43, 44, 45, 46, 47, 48, 49, 50, 51, 52, 53, 54, 55, 56, 57, 58, 59, 60, 61, 62, 63, 64, 65, 66, 67, 68, 69, 70, 71, 72, 73, 74, 75, 76, 77, 78, 79, 80, 81, 82, 83, 84, 85, 86, 87, 88, 89, 90, 91, 93, 94, 95, 96, 97, 98, 99, 100] (by decide +kernel) (by decide +kernel)
set_option maxRecDepth 20000 in
theorem gX4_lookUp_X3_valueOf : GoodIn wsX4_lookUp (wsV RX4 26 RX3 yX3_valueOf wsX3_valueOf) := goodIn_app (goodIn_of _ (by decide +kernel)) ggX4_lookUp_X3_valueOf
theorem dX4_lookUp_0 : decode cX4_lookUp 0 = .ok (.aload_n 0, 1) := by decide +kernel
theorem dX4_lookUp_1 : decode cX4_lookUp 1 = .ok (.aload_n 0, 1) := by decide +kernel
theorem dX4_lookUp_2 : decode cX4_lookUp 2 = .ok (.iload_n 1, 1) := by decide +kernel
theorem dX4_lookUp_3 : decode cX4_lookUp 3 = .ok (.aload_n 2, 1) := by decide +kernel
theorem dX4_lookUp_4 : decode cX4_lookUp 4 = .ok (.invokevirtual 30, 3) := by decide +kernel
theorem dX4_lookUp_7 : decode cX4_lookUp 7 = .ok (.invokevirtual 22, 3) := by decide +kernel
theorem dX4_lookUp_10 : decode cX4_lookUp 10 = .ok (.astore_n 3, 1) := by decide +kernel
theorem dX4_lookUp_11 : decode cX4_lookUp 11 = .ok (.aload_n 3, 1) := by decide +kernel
theorem dX4_lookUp_12 : decode cX4_lookUp 12 = .ok (.ifnonnull 7, 3) := by decide +kernel
theorem dX4_lookUp_15 : decode cX4_lookUp 15 = .ok (.aconst_null, 1) := by decide +kernel
theorem dX4_lookUp_16 : decode cX4_lookUp 16 = .ok (.goto 8, 3) := by decide +kernel
theorem dX4_lookUp_19 : decode cX4_lookUp 19 = .ok (.aload_n 3, 1) := by decide +kernel
theorem dX4_lookUp_20 : decode cX4_lookUp 20 = .ok (.aload_n 2, 1) := by decide +kernel
theorem dX4_lookUp_21 : decode cX4_lookUp 21 = .ok (.invokevirtual 26, 3) := by decide +kernel
theorem dX4_lookUp_24 : decode cX4_lookUp 24 = .ok (.areturn, 1) := by decide +kernel
theorem dX5_init_0 : decode cX5_init 0 = .ok (.aload_n 0, 1) := by decide +kernel
theorem dX5_init_1 : decode cX5_init 1 = .ok (.invokespecial 3, 3) := by decide +kernel
theorem dX5_init_4 : decode cX5_init 4 = .ok (.aload_n 0, 1) := by decide +kernel
theorem dX5_init_5 : decode cX5_init 5 = .ok (.iconst 4, 1) := by decide +kernel
theorem dX5_init_6 : decode cX5_init 6 = .ok (.newarray .int, 2) := by decide +kernel
theorem dX5_init_8 : decode cX5_init 8 = .ok (.putfield 9, 3) := by decide +kernel
theorem dX5_init_11 : decode cX5_init 11 = .ok (.aload_n 0, 1) := by decide +kernel
theorem dX5_init_12 : decode cX5_init 12 = .ok (.aload_n 1, 1) := by decide +kernel
theorem dX5_init_13 : decode cX5_init 13 = .ok (.putfield 15, 3) := by decide +kernel
theorem dX5_init_16 : decode cX5_init 16 = .ok (.aload_n 0, 1) := by decide +kernel
theorem dX5_init_17 : decode cX5_init 17 = .ok (.iload_n 2, 1) := by decide +kernel
theorem dX5_init_18 : decode cX5_init 18 = .ok (.iconst 3, 1) := by decide +kernel
theorem dX5_init_19 : decode cX5_init 19 = .ok (.invokestatic 19, 3) := by decide +kernel
theorem dX5_init_22 : decode cX5_init 22 = .ok (.putfield 25, 3) := by decide +kernel
theorem dX5_init_25 : decode cX5_init 25 = .ok (.return_, 1) := by decide +kernel
set_option maxRecDepth 20000 in
theorem ggX5_nextName_X5_keyAtCursor : GoodIn wsX5_nextName wsX5_keyAtCursor := goodIn_r _ [6, 7, 8, 9, 10, 11, 12, 13, 14, 15, 16, 17, 18, 19, 20, 21, 22, 23, 24, 25, 26, 27, 28, 96, 97, 98, 99, 100, 101, 102, 103] (by decide +kernel) (by decide +kernel)
set_option maxRecDepth 20000 in
theorem gX5_nextName_X5_keyAtCursor : GoodIn wsX5_nextName (wsV RX5 29 RX5 yX5_keyAtCursor wsX5_keyAtCursor) := goodIn_app (goodIn_of _ (by decide +kernel)) ggX5_nextName_X5_keyAtCursor
set_option maxRecDepth 20000 in
theorem ggX5_nextName_X9_compareTexts : GoodIn wsX5_nextName wsX9_compareTexts := goodIn_r _ [30, 31, 32, 33, 34, 35, 36, 37, 38, 39, 40, 41, 42, 43, 44, 45, 46, 47, 48, 49, 50, 51, 52, 53, 54, 55, 56, 57, 58, 59, 60, 61, 62, 63, 64, 65, 66, 67, 68, 69, 70, 71, 72, 73, 74, 75, 76, 77, 78, 79, 80, 81, 82, 83, 104, 105, 106, 107] (by decide +kernel) (by decide +kernel)
set_option maxRecDepth 20000 in
theorem gX5_nextName_X9_compareTexts_n33 : GoodIn wsX5_nextName (wsX9_compareTexts) := ggX5_nextName_X9_compareTexts
set_option maxRecDepth 20000 in
theorem ggX5_nextName_X5_stepOver : GoodIn wsX5_nextName wsX5_stepOver := goodIn_r _ [87, 1, 8, 2, 3, 4, 5, 6, 7, 9, 10, 11, 12, 13, 14, 15, 16, 17, 18, 19, 20, 21, 22, 23, 24, 25, 26, 27, 28, 88, 89, 90, 38, 91, 92, 45, 46, 40, 93, 94, 57, 95, 96, 97, 98, 99, 100, 101, 102, 103, 104, 105, 106, 107] (by decide +kernel) (by decide +kernel)
set_option maxRecDepth 20000 in
theorem gX5_nextName_X5_stepOver : GoodIn wsX5_nextName (wsV RX5 37 RX5 yX5_stepOver wsX5_stepOver) := goodIn_app (goodIn_of _ (by decide +kernel)) ggX5_nextName_X5_stepOver
theorem dX5_nextName_0 : decode cX5_nextName 0 = .ok (.aconst_null, 1) := by decide +kernel
theorem dX5_nextName_1 : decode cX5_nextName 1 = .ok (.astore_n 1, 1) := by decide +kernel
theorem dX5_nextName_2 : decode cX5_nextName 2 = .ok (.iconst 0, 1) := by decide +kernel
theorem dX5_nextName_3 : decode cX5_nextName 3 = .ok (.istore_n 2, 1) := by decide +kernel
theorem dX5_nextName_4 : decode cX5_nextName 4 = .ok (.iload_n 2, 1) := by decide +kernel
theorem dX5_nextName_5 : decode cX5_nextName 5 = .ok (.aload_n 0, 1) := by decide +kernel
theorem dX5_nextName_6 : decode cX5_nextName 6 = .ok (.getfield 25, 3) := by decide +kernel
theorem dX5_nextName_9 : decode cX5_nextName 9 = .ok (.if_icmp .gt 33, 3) := by decide +kernel
theorem dX5_nextName_12 : decode cX5_nextName 12 = .ok (.aload_n 0, 1) := by decide +kernel
theorem dX5_nextName_13 : decode cX5_nextName 13 = .ok (.iload_n 2, 1) := by decide +kernel
theorem dX5_nextName_14 : decode cX5_nextName 14 = .ok (.invokevirtual 29, 3) := by decide +kernel
theorem dX5_nextName_17 : decode cX5_nextName 17 = .ok (.astore_n 3, 1) := by decide +kernel
theorem dX5_nextName_18 : decode cX5_nextName 18 = .ok (.aload_n 3, 1) := by decide +kernel
theorem dX5_nextName_19 : decode cX5_nextName 19 = .ok (.ifnull 17, 3) := by decide +kernel
theorem dX5_nextName_22 : decode cX5_nextName 22 = .ok (.aload_n 1, 1) := by decide +kernel
theorem dX5_nextName_23 : decode cX5_nextName 23 = .ok (.ifnull 11, 3) := by decide +kernel
theorem dX5_nextName_26 : decode cX5_nextName 26 = .ok (.aload_n 3, 1) := by decide +kernel
theorem dX5_nextName_27 : decode cX5_nextName 27 = .ok (.aload_n 1, 1) := by decide +kernel
theorem dX5_nextName_28 : decode cX5_nextName 28 = .ok (.invokestatic 33, 3) := by decide +kernel
theorem dX5_nextName_31 : decode cX5_nextName 31 = .ok (.ifCond .ge 5, 3) := by decide +kernel
theorem dX5_nextName_34 : decode cX5_nextName 34 = .ok (.aload_n 3, 1) := by decide +kernel
theorem dX5_nextName_35 : decode cX5_nextName 35 = .ok (.astore_n 1, 1) := by decide +kernel
theorem dX5_nextName_36 : decode cX5_nextName 36 = .ok (.iinc 2 1, 3) := by decide +kernel
theorem dX5_nextName_39 : decode cX5_nextName 39 = .ok (.goto (-35), 3) := by decide +kernel
theorem dX5_nextName_42 : decode cX5_nextName 42 = .ok (.aload_n 1, 1) := by decide +kernel
theorem dX5_nextName_43 : decode cX5_nextName 43 = .ok (.ifnull 8, 3) := by decide +kernel
theorem dX5_nextName_46 : decode cX5_nextName 46 = .ok (.aload_n 0, 1) := by decide +kernel
theorem dX5_nextName_47 : decode cX5_nextName 47 = .ok (.aload_n 1, 1) := by decide +kernel
theorem dX5_nextName_48 : decode cX5_nextName 48 = .ok (.invokevirtual 37, 3) := by decide +kernel
theorem dX5_nextName_51 : decode cX5_nextName 51 = .ok (.aload_n 1, 1) := by decide +kernel
theorem dX5_nextName_52 : decode cX5_nextName 52 = .ok (.areturn, 1) := by decide +kernel
set_option maxRecDepth 20000 in
theorem ggX5_stepOver_X5_keyAtCursor : GoodIn wsX5_stepOver wsX5_keyAtCursor := goodIn_r _ [7, 8, 2, 9, 10, 11, 12, 13, 14, 15, 16, 17, 18, 19, 20, 21, 22, 23, 24, 25, 26, 27, 28, 42, 43, 44, 45, 46, 47, 48, 49] (by decide +kernel) (by decide +kernel)
set_option maxRecDepth 20000 in
theorem gX5_stepOver_X5_keyAtCursor : GoodIn wsX5_stepOver (wsV RX5 29 RX5 yX5_keyAtCursor wsX5_keyAtCursor) := goodIn_app (goodIn_of _ (by decide +kernel)) ggX5_stepOver_X5_keyAtCursor
set_option maxRecDepth 20000 in
theorem ggX5_stepOver_J0_equals_9ea2d : GoodIn wsX5_stepOver wsJ0_equals_9ea2d := goodIn_r _ [33, 34, 35, 36, 37, 38, 39, 40, 41, 50, 51, 52, 53] (by decide +kernel) (by decide +kernel)
set_option maxRecDepth 20000 in
theorem gX5_stepOver_J0_equals_9ea2d : GoodIn wsX5_stepOver (wsV RX5 41 RJ0 yJ0_equals_9ea2d wsJ0_equals_9ea2d) := goodIn_app (goodIn_of _ (by decide +kernel)) ggX5_stepOver_J0_equals_9ea2d
theorem dX5_stepOver_0 : decode cX5_stepOver 0 = .ok (.iconst 0, 1) := by decide +kernel
theorem dX5_stepOver_1 : decode cX5_stepOver 1 = .ok (.istore_n 2, 1) := by decide +kernel
theorem dX5_stepOver_2 : decode cX5_stepOver 2 = .ok (.iload_n 2, 1) := by decide +kernel
theorem dX5_stepOver_3 : decode cX5_stepOver 3 = .ok (.aload_n 0, 1) := by decide +kernel
theorem dX5_stepOver_4 : decode cX5_stepOver 4 = .ok (.getfield 25, 3) := by decide +kernel
theorem dX5_stepOver_7 : decode cX5_stepOver 7 = .ok (.if_icmp .gt 37, 3) := by decide +kernel
theorem dX5_stepOver_10 : decode cX5_stepOver 10 = .ok (.aload_n 0, 1) := by decide +kernel
theorem dX5_stepOver_11 : decode cX5_stepOver 11 = .ok (.iload_n 2, 1) := by decide +kernel
theorem dX5_stepOver_12 : decode cX5_stepOver 12 = .ok (.invokevirtual 29, 3) := by decide +kernel
theorem dX5_stepOver_15 : decode cX5_stepOver 15 = .ok (.astore_n 3, 1) := by decide +kernel
theorem dX5_stepOver_16 : decode cX5_stepOver 16 = .ok (.aload_n 3, 1) := by decide +kernel
theorem dX5_stepOver_17 : decode cX5_stepOver 17 = .ok (.ifnull 21, 3) := by decide +kernel
theorem dX5_stepOver_20 : decode cX5_stepOver 20 = .ok (.aload_n 3, 1) := by decide +kernel
theorem dX5_stepOver_21 : decode cX5_stepOver 21 = .ok (.aload_n 1, 1) := by decide +kernel
theorem dX5_stepOver_22 : decode cX5_stepOver 22 = .ok (.invokevirtual 41, 3) := by decide +kernel
theorem dX5_stepOver_25 : decode cX5_stepOver 25 = .ok (.ifCond .eq 13, 3) := by decide +kernel
theorem dX5_stepOver_28 : decode cX5_stepOver 28 = .ok (.aload_n 0, 1) := by decide +kernel
theorem dX5_stepOver_29 : decode cX5_stepOver 29 = .ok (.getfield 9, 3) := by decide +kernel
theorem dX5_stepOver_32 : decode cX5_stepOver 32 = .ok (.iload_n 2, 1) := by decide +kernel
theorem dX5_stepOver_33 : decode cX5_stepOver 33 = .ok (.dup2, 1) := by decide +kernel
theorem dX5_stepOver_34 : decode cX5_stepOver 34 = .ok (.iaload, 1) := by decide +kernel
theorem dX5_stepOver_35 : decode cX5_stepOver 35 = .ok (.iconst 1, 1) := by decide +kernel
theorem dX5_stepOver_36 : decode cX5_stepOver 36 = .ok (.iadd, 1) := by decide +kernel
theorem dX5_stepOver_37 : decode cX5_stepOver 37 = .ok (.iastore, 1) := by decide +kernel
theorem dX5_stepOver_38 : decode cX5_stepOver 38 = .ok (.iinc 2 1, 3) := by decide +kernel
theorem dX5_stepOver_41 : decode cX5_stepOver 41 = .ok (.goto (-39), 3) := by decide +kernel
theorem dX5_stepOver_44 : decode cX5_stepOver 44 = .ok (.return_, 1) := by decide +kernel
set_option maxRecDepth 20000 in
theorem ggX5_keyAtCursor_X4_layerAt : GoodIn wsX5_keyAtCursor wsX4_layerAt := goodIn_r _ [7, 8, 9, 10, 11, 26] (by decide +kernel) (by decide +kernel)
set_option maxRecDepth 20000 in
theorem gX5_keyAtCursor_X4_layerAt : GoodIn wsX5_keyAtCursor (wsV RX5 47 RX4 yX4_layerAt wsX4_layerAt) := goodIn_app (goodIn_of _ (by decide +kernel)) ggX5_keyAtCursor_X4_layerAt
set_option maxRecDepth 20000 in
theorem ggX5_keyAtCursor_X3_keyAt : GoodIn wsX5_keyAtCursor wsX3_keyAt := goodIn_r _ [16, 17, 18, 19, 15, 20, 21, 22, 9, 10, 11, 27, 28, 29, 30] (by decide +kernel) (by decide +kernel)
set_option maxRecDepth 20000 in
theorem gX5_keyAtCursor_X3_keyAt : GoodIn wsX5_keyAtCursor (wsV RX5 53 RX3 yX3_keyAt wsX3_keyAt) := goodIn_app (goodIn_of _ (by decide +kernel)) ggX5_keyAtCursor_X3_keyAt
theorem dX5_keyAtCursor_0 : decode cX5_keyAtCursor 0 = .ok (.aload_n 0, 1) := by decide +kernel
theorem dX5_keyAtCursor_1 : decode cX5_keyAtCursor 1 = .ok (.getfield 15, 3) := by decide +kernel
theorem dX5_keyAtCursor_4 : decode cX5_keyAtCursor 4 = .ok (.iload_n 1, 1) := by decide +kernel
theorem dX5_keyAtCursor_5 : decode cX5_keyAtCursor 5 = .ok (.invokevirtual 47, 3) := by decide +kernel
theorem dX5_keyAtCursor_8 : decode cX5_keyAtCursor 8 = .ok (.astore_n 2, 1) := by decide +kernel
theorem dX5_keyAtCursor_9 : decode cX5_keyAtCursor 9 = .ok (.aload_n 2, 1) := by decide +kernel
theorem dX5_keyAtCursor_10 : decode cX5_keyAtCursor 10 = .ok (.ifnonnull 7, 3) := by decide +kernel
theorem dX5_keyAtCursor_13 : decode cX5_keyAtCursor 13 = .ok (.aconst_null, 1) := by decide +kernel
theorem dX5_keyAtCursor_14 : decode cX5_keyAtCursor 14 = .ok (.goto 13, 3) := by decide +kernel
theorem dX5_keyAtCursor_17 : decode cX5_keyAtCursor 17 = .ok (.aload_n 2, 1) := by decide +kernel
theorem dX5_keyAtCursor_18 : decode cX5_keyAtCursor 18 = .ok (.aload_n 0, 1) := by decide +kernel
theorem dX5_keyAtCursor_19 : decode cX5_keyAtCursor 19 = .ok (.getfield 9, 3) := by decide +kernel
theorem dX5_keyAtCursor_22 : decode cX5_keyAtCursor 22 = .ok (.iload_n 1, 1) := by decide +kernel
theorem dX5_keyAtCursor_23 : decode cX5_keyAtCursor 23 = .ok (.iaload, 1) := by decide +kernel
theorem dX5_keyAtCursor_24 : decode cX5_keyAtCursor 24 = .ok (.invokevirtual 53, 3) := by decide +kernel
theorem dX5_keyAtCursor_27 : decode cX5_keyAtCursor 27 = .ok (.areturn, 1) := by decide +kernel
theorem dX6_init_0 : decode cX6_init 0 = .ok (.aload_n 0, 1) := by decide +kernel
theorem dX6_init_1 : decode cX6_init 1 = .ok (.invokespecial 1, 3) := by decide +kernel
theorem dX6_init_4 : decode cX6_init 4 = .ok (.return_, 1) := by decide +kernel
set_option maxRecDepth 20000 in
theorem ggX7_init_J4_init_da8c8 : GoodIn wsX7_init wsJ4_init_da8c8 := goodIn_r _ [13, 14, 15, 16, 17, 18, 2, 3, 19, 20, 21, 22, 23, 24, 25, 26, 27, 28, 29, 30, 31, 32, 33, 34] (by decide +kernel) (by decide +kernel)
set_option maxRecDepth 20000 in
theorem gX7_init_J4_init_da8c8 : GoodIn wsX7_init (wsJ4_init_da8c8) := ggX7_init_J4_init_da8c8
theorem dX7_init_0 : decode cX7_init 0 = .ok (.aload_n 0, 1) := by decide +kernel
theorem dX7_init_1 : decode cX7_init 1 = .ok (.invokespecial 3, 3) := by decide +kernel
theorem dX7_init_4 : decode cX7_init 4 = .ok (.aload_n 0, 1) := by decide +kernel
theorem dX7_init_5 : decode cX7_init 5 = .ok (.new 9, 3) := by decide +kernel
theorem dX7_init_8 : decode cX7_init 8 = .ok (.dup, 1) := by decide +kernel
theorem dX7_init_9 : decode cX7_init 9 = .ok (.invokespecial 11, 3) := by decide +kernel
theorem dX7_init_12 : decode cX7_init 12 = .ok (.putfield 12, 3) := by decide +kernel
theorem dX7_init_15 : decode cX7_init 15 = .ok (.aload_n 0, 1) := by decide +kernel
theorem dX7_init_16 : decode cX7_init 16 = .ok (.sipush 300, 3) := by decide +kernel
theorem dX7_init_19 : decode cX7_init 19 = .ok (.newarray .int, 2) := by decide +kernel
theorem dX7_init_21 : decode cX7_init 21 = .ok (.putfield 18, 3) := by decide +kernel
theorem dX7_init_24 : decode cX7_init 24 = .ok (.aload_n 0, 1) := by decide +kernel
theorem dX7_init_25 : decode cX7_init 25 = .ok (.new 9, 3) := by decide +kernel
theorem dX7_init_28 : decode cX7_init 28 = .ok (.dup, 1) := by decide +kernel
theorem dX7_init_29 : decode cX7_init 29 = .ok (.invokespecial 11, 3) := by decide +kernel
theorem dX7_init_32 : decode cX7_init 32 = .ok (.putfield 22, 3) := by decide +kernel
theorem dX7_init_35 : decode cX7_init 35 = .ok (.return_, 1) := by decide +kernel
theorem dX7_rewind_0 : decode cX7_rewind 0 = .ok (.aload_n 0, 1) := by decide +kernel
theorem dX7_rewind_1 : decode cX7_rewind 1 = .ok (.iconst 0, 1) := by decide +kernel
theorem dX7_rewind_2 : decode cX7_rewind 2 = .ok (.putfield 25, 3) := by decide +kernel
theorem dX7_rewind_5 : decode cX7_rewind 5 = .ok (.aload_n 0, 1) := by decide +kernel
theorem dX7_rewind_6 : decode cX7_rewind 6 = .ok (.iconst 0, 1) := by decide +kernel
theorem dX7_rewind_7 : decode cX7_rewind 7 = .ok (.putfield 29, 3) := by decide +kernel
theorem dX7_rewind_10 : decode cX7_rewind 10 = .ok (.return_, 1) := by decide +kernel
set_option maxRecDepth 20000 in
theorem ggX7_readEntry_J4_length_8abf5 : GoodIn wsX7_readEntry wsJ4_length_8abf5 := goodIn_r _ [8, 9, 10, 11, 12, 13, 14, 15, 107, 108, 109, 110] (by decide +kernel) (by decide +kernel)
set_option maxRecDepth 20000 in
theorem gX7_readEntry_J4_length_8abf5 : GoodIn wsX7_readEntry (wsV RX7 32 RJ4 yJ4_length_8abf5 wsJ4_length_8abf5) := goodIn_app (goodIn_of _ (by decide +kernel)) ggX7_readEntry_J4_length_8abf5
set_option maxRecDepth 20000 in
theorem ggX7_readEntry_X7_readEntryLines : GoodIn wsX7_readEntry wsX7_readEntryLines := goodIn_r _ [20, 2, 3, 21, 22, 23, 19, 24, 4, 5, 6, 7, 8, 9, 10, 11, 12, 13, 14, 15, 25, 26, 27, 28, 29, 30, 31, 32, 33, 34, 35, 36, 37, 38, 39, 40, 41, 42, 43, 44, 45, 46, 47, 48, 49, 50, 51, 52, 53, 54, 55, 56, 57, 58, 59, 60, 61, 62, 63, 64, 65, 66, 67, 68, 69, 70, 71, 72, 73, 74, 75, 76, 1, 77, 100, 101, 102, 103, 104, 105, 106, 107, 108, 109, 110] (by decide +kernel) (by decide +kernel)
set_option maxRecDepth 20000 in
theorem gX7_readEntry_X7_readEntryLines : GoodIn wsX7_readEntry (wsV RX7 36 RX7 yX7_readEntryLines wsX7_readEntryLines) := goodIn_app (goodIn_of _ (by decide +kernel)) ggX7_readEntry_X7_readEntryLines
set_option maxRecDepth 20000 in
theorem ggX7_readEntry_X7_splitEntry : GoodIn wsX7_readEntry wsX7_splitEntry := goodIn_r _ [81, 1, 82, 40, 41, 42, 83, 84, 85, 86, 87, 19, 88, 89, 90, 91, 92, 77, 25, 26, 27, 28, 3, 4, 5, 6, 7, 8, 9, 10, 11, 12, 13, 14, 15, 29, 30, 31, 32, 33, 34, 35, 36, 37, 38, 39, 43, 44, 45, 46, 47, 48, 49, 50, 51, 52, 53, 54, 55, 56, 57, 58, 59, 60, 61, 93, 94, 95, 66, 67, 68, 96, 97, 98, 99, 100, 101, 102, 103, 104, 105, 106, 107, 108, 109, 110] (by decide +kernel) (by decide +kernel)
set_option maxRecDepth 20000 in
theorem gX7_readEntry_X7_splitEntry : GoodIn wsX7_readEntry (wsV RX7 39 RX7 yX7_splitEntry wsX7_splitEntry) := goodIn_app (goodIn_of _ (by decide +kernel)) ggX7_readEntry_X7_splitEntry
theorem dX7_readEntry_0 : decode cX7_readEntry 0 = .ok (.aload_n 0, 1) := by decide +kernel
theorem dX7_readEntry_1 : decode cX7_readEntry 1 = .ok (.iconst 0, 1) := by decide +kernel
theorem dX7_readEntry_2 : decode cX7_readEntry 2 = .ok (.putfield 29, 3) := by decide +kernel
theorem dX7_readEntry_5 : decode cX7_readEntry 5 = .ok (.iconst 0, 1) := by decide +kernel
theorem dX7_readEntry_6 : decode cX7_readEntry 6 = .ok (.istore_n 1, 1) := by decide +kernel
theorem dX7_readEntry_7 : decode cX7_readEntry 7 = .ok (.iload_n 1, 1) := by decide +kernel
theorem dX7_readEntry_8 : decode cX7_readEntry 8 = .ok (.sipush 300, 3) := by decide +kernel
theorem dX7_readEntry_11 : decode cX7_readEntry 11 = .ok (.if_icmp .gt 34, 3) := by decide +kernel
theorem dX7_readEntry_14 : decode cX7_readEntry 14 = .ok (.aload_n 0, 1) := by decide +kernel
theorem dX7_readEntry_15 : decode cX7_readEntry 15 = .ok (.getfield 29, 3) := by decide +kernel
theorem dX7_readEntry_18 : decode cX7_readEntry 18 = .ok (.ifCond .ne 27, 3) := by decide +kernel
theorem dX7_readEntry_21 : decode cX7_readEntry 21 = .ok (.aload_n 0, 1) := by decide +kernel
theorem dX7_readEntry_22 : decode cX7_readEntry 22 = .ok (.getfield 25, 3) := by decide +kernel
theorem dX7_readEntry_25 : decode cX7_readEntry 25 = .ok (.aload_n 0, 1) := by decide +kernel
theorem dX7_readEntry_26 : decode cX7_readEntry 26 = .ok (.getfield 12, 3) := by decide +kernel
theorem dX7_readEntry_29 : decode cX7_readEntry 29 = .ok (.invokevirtual 32, 3) := by decide +kernel
theorem dX7_readEntry_32 : decode cX7_readEntry 32 = .ok (.if_icmp .ge 13, 3) := by decide +kernel
theorem dX7_readEntry_35 : decode cX7_readEntry 35 = .ok (.aload_n 0, 1) := by decide +kernel
theorem dX7_readEntry_36 : decode cX7_readEntry 36 = .ok (.invokevirtual 36, 3) := by decide +kernel
theorem dX7_readEntry_39 : decode cX7_readEntry 39 = .ok (.iinc 1 1, 3) := by decide +kernel
theorem dX7_readEntry_42 : decode cX7_readEntry 42 = .ok (.goto (-35), 3) := by decide +kernel
theorem dX7_readEntry_45 : decode cX7_readEntry 45 = .ok (.aload_n 0, 1) := by decide +kernel
theorem dX7_readEntry_46 : decode cX7_readEntry 46 = .ok (.invokevirtual 39, 3) := by decide +kernel
theorem dX7_readEntry_49 : decode cX7_readEntry 49 = .ok (.aload_n 0, 1) := by decide +kernel
theorem dX7_readEntry_50 : decode cX7_readEntry 50 = .ok (.getfield 29, 3) := by decide +kernel
theorem dX7_readEntry_53 : decode cX7_readEntry 53 = .ok (.ifCond .le 7, 3) := by decide +kernel
theorem dX7_readEntry_56 : decode cX7_readEntry 56 = .ok (.iconst 1, 1) := by decide +kernel
theorem dX7_readEntry_57 : decode cX7_readEntry 57 = .ok (.goto 4, 3) := by decide +kernel
theorem dX7_readEntry_60 : decode cX7_readEntry 60 = .ok (.iconst 0, 1) := by decide +kernel
theorem dX7_readEntry_61 : decode cX7_readEntry 61 = .ok (.ireturn, 1) := by decide +kernel
set_option maxRecDepth 20000 in
theorem ggX7_keyText_X7_unescape : GoodIn wsX7_keyText wsX7_unescape := goodIn_r _ [7, 2, 8, 9, 10, 11, 12, 13, 14, 15, 16, 17, 18, 19, 20, 21, 22, 23, 24, 25, 26, 27, 28, 29, 30, 31, 32, 33, 34, 35, 36, 37, 38, 39, 40, 41, 42, 43, 44, 45, 46, 47, 48, 49, 50, 51, 52, 53, 54, 55, 56, 57, 58, 59, 60, 61, 62, 63, 64, 65, 66, 67, 68, 69, 70, 71, 72, 73, 74, 75, 76, 77, 78, 79, 80, 81, 82, 83, 84, 85, 86, 87, 6, 88, 89, 90, 91, 92, 93, 94, 95, 96, 97, 98, 99, 100, 101, 102, 103, 104, 105, 106, 107, 108, 109, 110, 111, 112, 113, 114, 115, 116, 117, 118, 119, 120, 121, 122, 123, 124, 125, 126, 127, 128, 129, 130, 131, 132, 133, 134, 135, 136, 137, 138, 139, 140, 141, 142, 143, 144, 145, 146, 147, 148, 149, 150, 151, 152, 153, 154, 155, 156, 157, 158, 159, 160, 161, 162, 163, 164, 165, 166, 167, 168, 169, 170, 171, 172, 173, 174, 175, 176, 177, 178, 179, 180, 181, 182, 183, 184, 185, 186, 187, 188, 189, 190, 191, 192, 193, 242, 243, 244, 245, 246, 247, 248, 249, 250, 251, 252] (by decide +kernel) (by decide +kernel)
set_option maxRecDepth 20000 in
theorem gX7_keyText_X7_unescape : GoodIn wsX7_keyText (wsV RX7 45 RX7 yX7_unescape wsX7_unescape) := goodIn_app (goodIn_of _ (by decide +kernel)) ggX7_keyText_X7_unescape
set_option maxRecDepth 20000 in
theorem ggX7_keyText_J4_toString_0e30d : GoodIn wsX7_keyText wsJ4_toString_0e30d := goodIn_r _ [197, 198, 199, 119, 200, 201, 202, 203, 204, 205, 206, 207, 208, 209, 210, 211, 212, 213, 214, 215, 216, 17, 217, 20, 218, 105, 219, 220, 101, 11, 103, 104, 15, 106, 107, 19, 221, 65, 66, 67, 68, 69, 27, 222, 223, 48, 224, 50, 51, 52, 53, 54, 55, 225, 226, 227, 56, 57, 58, 40, 59, 60, 61, 62, 63, 228, 229, 230, 231, 232, 82, 233, 234, 235, 236, 164, 165, 166, 132, 133, 134, 167, 168, 169, 121, 170, 171, 124, 172, 237, 127, 128, 129, 130, 131, 154, 155, 156, 157, 238, 239, 240, 241, 253, 254, 255, 256, 249, 250, 251, 252] (by decide +kernel) (by decide +kernel)
set_option maxRecDepth 20000 in
theorem gX7_keyText_J4_toString_0e30d : GoodIn wsX7_keyText (wsV RX7 49 RJ4 yJ4_toString_0e30d wsJ4_toString_0e30d) := goodIn_app (goodIn_of _ (by decide +kernel)) ggX7_keyText_J4_toString_0e30d
theorem dX7_keyText_0 : decode cX7_keyText 0 = .ok (.aload_n 0, 1) := by decide +kernel
theorem dX7_keyText_1 : decode cX7_keyText 1 = .ok (.iconst 0, 1) := by decide +kernel
theorem dX7_keyText_2 : decode cX7_keyText 2 = .ok (.aload_n 0, 1) := by decide +kernel
theorem dX7_keyText_3 : decode cX7_keyText 3 = .ok (.getfield 42, 3) := by decide +kernel
theorem dX7_keyText_6 : decode cX7_keyText 6 = .ok (.invokevirtual 45, 3) := by decide +kernel
theorem dX7_keyText_9 : decode cX7_keyText 9 = .ok (.pop, 1) := by decide +kernel
theorem dX7_keyText_10 : decode cX7_keyText 10 = .ok (.aload_n 0, 1) := by decide +kernel
theorem dX7_keyText_11 : decode cX7_keyText 11 = .ok (.getfield 22, 3) := by decide +kernel
theorem dX7_keyText_14 : decode cX7_keyText 14 = .ok (.invokevirtual 49, 3) := by decide +kernel
theorem dX7_keyText_17 : decode cX7_keyText 17 = .ok (.areturn, 1) := by decide +kernel
set_option maxRecDepth 20000 in
theorem ggX7_valueText_X7_unescape : GoodIn wsX7_valueText wsX7_unescape := goodIn_r _ [8, 3, 9, 10, 11, 12, 13, 14, 15, 16, 17, 18, 19, 20, 21, 22, 23, 24, 25, 26, 27, 28, 29, 30, 31, 32, 33, 34, 35, 36, 37, 38, 39, 40, 41, 42, 43, 44, 45, 46, 47, 48, 49, 50, 51, 52, 53, 54, 55, 56, 57, 58, 59, 60, 61, 62, 63, 64, 65, 66, 67, 68, 69, 70, 71, 72, 73, 74, 75, 76, 77, 78, 79, 80, 81, 82, 83, 84, 85, 86, 87, 88, 7, 89, 90, 91, 92, 93, 2, 94, 95, 96, 97, 98, 99, 100, 101, 102, 103, 104, 105, 106, 107, 108, 109, 110, 111, 112, 113, 114, 115, 116, 117, 118, 119, 120, 121, 122, 123, 124, 125, 126, 127, 128, 129, 130, 131, 132, 133, 134, 135, 136, 137, 138, 139, 140, 141, 142, 143, 144, 145, 146, 147, 148, 149, 150, 151, 152, 153, 154, 155, 156, 157, 158, 159, 160, 161, 162, 163, 164, 165, 166, 167, 168, 169, 170, 171, 172, 173, 174, 175, 176, 177, 178, 179, 180, 181, 182, 183, 184, 185, 186, 187, 188, 189, 190, 191, 192, 193, 242, 243, 244, 245, 246, 247, 248, 249, 250, 251, 252] (by decide +kernel) (by decide +kernel)
set_option maxRecDepth 20000 in
theorem gX7_valueText_X7_unescape : GoodIn wsX7_valueText (wsV RX7 45 RX7 yX7_unescape wsX7_unescape) := goodIn_app (goodIn_of _ (by decide +kernel)) ggX7_valueText_X7_unescape
set_option maxRecDepth 20000 in
theorem ggX7_valueText_J4_toString_0e30d : GoodIn wsX7_valueText wsJ4_toString_0e30d := goodIn_r _ [197, 198, 199, 119, 200, 201, 202, 203, 204, 205, 206, 207, 208, 209, 210, 211, 212, 213, 214, 215, 216, 18, 217, 21, 218, 105, 219, 220, 101, 12, 103, 104, 16, 106, 107, 20, 221, 66, 67, 68, 69, 70, 28, 222, 223, 49, 224, 51, 52, 53, 54, 55, 56, 225, 226, 227, 57, 58, 59, 41, 60, 61, 62, 63, 64, 228, 229, 230, 231, 232, 83, 233, 234, 235, 236, 164, 165, 166, 132, 133, 134, 167, 168, 169, 121, 170, 171, 124, 172, 237, 127, 128, 129, 130, 131, 154, 155, 156, 157, 238, 239, 240, 241, 253, 254, 255, 256, 249, 250, 251, 252] (by decide +kernel) (by decide +kernel)
set_option maxRecDepth 20000 in
theorem gX7_valueText_J4_toString_0e30d : GoodIn wsX7_valueText (wsV RX7 49 RJ4 yJ4_toString_0e30d wsJ4_toString_0e30d) := goodIn_app (goodIn_of _ (by decide +kernel)) ggX7_valueText_J4_toString_0e30d
theorem dX7_valueText_0 : decode cX7_valueText 0 = .ok (.aload_n 0, 1) := by decide +kernel
theorem dX7_valueText_1 : decode cX7_valueText 1 = .ok (.aload_n 0, 1) := by decide +kernel
theorem dX7_valueText_2 : decode cX7_valueText 2 = .ok (.getfield 53, 3) := by decide +kernel
theorem dX7_valueText_5 : decode cX7_valueText 5 = .ok (.aload_n 0, 1) := by decide +kernel
theorem dX7_valueText_6 : decode cX7_valueText 6 = .ok (.getfield 29, 3) := by decide +kernel
theorem dX7_valueText_9 : decode cX7_valueText 9 = .ok (.invokevirtual 45, 3) := by decide +kernel
theorem dX7_valueText_12 : decode cX7_valueText 12 = .ok (.pop, 1) := by decide +kernel
theorem dX7_valueText_13 : decode cX7_valueText 13 = .ok (.aload_n 0, 1) := by decide +kernel
theorem dX7_valueText_14 : decode cX7_valueText 14 = .ok (.getfield 22, 3) := by decide +kernel
theorem dX7_valueText_17 : decode cX7_valueText 17 = .ok (.invokevirtual 49, 3) := by decide +kernel
theorem dX7_valueText_20 : decode cX7_valueText 20 = .ok (.areturn, 1) := by decide +kernel
set_option maxRecDepth 20000 in
theorem ggX7_brokenPlace_X7_unescape : GoodIn wsX7_brokenPlace wsX7_unescape := goodIn_r _ [8, 9, 10, 11, 12, 13, 14, 15, 16, 17, 18, 19, 20, 21, 22, 23, 24, 25, 26, 27, 28, 29, 30, 31, 32, 33, 34, 35, 36, 37, 38, 39, 40, 41, 42, 43, 44, 45, 46, 47, 48, 49, 50, 51, 52, 53, 54, 55, 56, 57, 58, 59, 60, 61, 62, 63, 64, 65, 66, 67, 68, 69, 70, 71, 72, 73, 74, 75, 76, 77, 78, 79, 80, 81, 82, 83, 84, 85, 86, 87, 88, 89, 7, 90, 91, 92, 93, 94, 3, 95, 96, 97, 98, 99, 100, 101, 102, 103, 104, 105, 106, 107, 108, 109, 110, 111, 112, 113, 114, 115, 116, 117, 118, 119, 120, 121, 122, 123, 124, 125, 126, 127, 128, 129, 130, 131, 132, 133, 134, 135, 136, 137, 138, 139, 140, 141, 142, 143, 144, 145, 146, 147, 148, 149, 150, 151, 152, 153, 154, 155, 156, 157, 158, 159, 160, 161, 162, 163, 164, 165, 166, 167, 168, 169, 170, 171, 172, 173, 174, 175, 176, 177, 178, 179, 180, 181, 182, 183, 184, 185, 186, 187, 188, 189, 190, 191, 192, 193, 194, 195, 196, 197, 198, 199, 200, 201, 202, 203, 204, 205] (by decide +kernel) (by decide +kernel)
set_option maxRecDepth 20000 in
theorem gX7_brokenPlace_X7_unescape : GoodIn wsX7_brokenPlace (wsV RX7 45 RX7 yX7_unescape wsX7_unescape) := goodIn_app (goodIn_of _ (by decide +kernel)) ggX7_brokenPlace_X7_unescape
theorem dX7_brokenPlace_0 : decode cX7_brokenPlace 0 = .ok (.aload_n 0, 1) := by decide +kernel
theorem dX7_brokenPlace_1 : decode cX7_brokenPlace 1 = .ok (.iconst 0, 1) := by decide +kernel
theorem dX7_brokenPlace_2 : decode cX7_brokenPlace 2 = .ok (.aload_n 0, 1) := by decide +kernel
theorem dX7_brokenPlace_3 : decode cX7_brokenPlace 3 = .ok (.getfield 42, 3) := by decide +kernel
theorem dX7_brokenPlace_6 : decode cX7_brokenPlace 6 = .ok (.invokevirtual 45, 3) := by decide +kernel
theorem dX7_brokenPlace_9 : decode cX7_brokenPlace 9 = .ok (.istore_n 1, 1) := by decide +kernel
theorem dX7_brokenPlace_10 : decode cX7_brokenPlace 10 = .ok (.iload_n 1, 1) := by decide +kernel
theorem dX7_brokenPlace_11 : decode cX7_brokenPlace 11 = .ok (.bipush (-5), 2) := by decide +kernel
theorem dX7_brokenPlace_13 : decode cX7_brokenPlace 13 = .ok (.if_icmp .eq 7, 3) := by decide +kernel
theorem dX7_brokenPlace_16 : decode cX7_brokenPlace 16 = .ok (.iload_n 1, 1) := by decide +kernel
theorem dX7_brokenPlace_17 : decode cX7_brokenPlace 17 = .ok (.goto 15, 3) := by decide +kernel
theorem dX7_brokenPlace_20 : decode cX7_brokenPlace 20 = .ok (.aload_n 0, 1) := by decide +kernel
theorem dX7_brokenPlace_21 : decode cX7_brokenPlace 21 = .ok (.aload_n 0, 1) := by decide +kernel
theorem dX7_brokenPlace_22 : decode cX7_brokenPlace 22 = .ok (.getfield 53, 3) := by decide +kernel
theorem dX7_brokenPlace_25 : decode cX7_brokenPlace 25 = .ok (.aload_n 0, 1) := by decide +kernel
theorem dX7_brokenPlace_26 : decode cX7_brokenPlace 26 = .ok (.getfield 29, 3) := by decide +kernel
theorem dX7_brokenPlace_29 : decode cX7_brokenPlace 29 = .ok (.invokevirtual 45, 3) := by decide +kernel
theorem dX7_brokenPlace_32 : decode cX7_brokenPlace 32 = .ok (.ireturn, 1) := by decide +kernel
set_option maxRecDepth 20000 in
theorem ggX7_readEntryLines_X7_lineEnd : GoodIn wsX7_readEntryLines wsX7_lineEnd := goodIn_r _ [7, 1, 2, 8, 9, 10, 11, 12, 13, 14, 15, 16, 17, 18, 19, 20, 21, 22, 6, 23, 24, 25, 26, 27, 28, 29, 30, 31, 32, 33, 34, 35, 36, 37, 38, 39, 40, 41, 42, 43, 44, 45, 46, 47, 48, 49, 50, 51, 52, 53, 54, 55, 56, 74, 75, 76, 77, 78, 79, 80, 81, 82, 83, 84] (by decide +kernel) (by decide +kernel)
set_option maxRecDepth 20000 in
theorem gX7_readEntryLines_X7_lineEnd : GoodIn wsX7_readEntryLines (wsV RX7 56 RX7 yX7_lineEnd wsX7_lineEnd) := goodIn_app (goodIn_of _ (by decide +kernel)) ggX7_readEntryLines_X7_lineEnd
set_option maxRecDepth 20000 in
theorem ggX7_readEntryLines_X7_skipBlanks : GoodIn wsX7_readEntryLines wsX7_skipBlanks := goodIn_r _ [60, 1, 20, 21, 22, 6, 23, 2, 8, 9, 10, 11, 12, 13, 14, 15, 16, 17, 18, 19, 24, 25, 26, 27, 28, 29, 30, 31, 32, 33, 34, 35, 36, 37, 38, 39, 40, 41, 42, 43, 44, 45, 46, 47, 48, 49, 50, 51, 52, 53, 54, 55, 56, 61, 62, 63, 74, 75, 76, 77, 78, 79, 80, 81, 82, 83, 84] (by decide +kernel) (by decide +kernel)
set_option maxRecDepth 20000 in
theorem gX7_readEntryLines_X7_skipBlanks : GoodIn wsX7_readEntryLines (wsV RX7 59 RX7 yX7_skipBlanks wsX7_skipBlanks) := goodIn_app (goodIn_of _ (by decide +kernel)) ggX7_readEntryLines_X7_skipBlanks
set_option maxRecDepth 20000 in
theorem ggX7_readEntryLines_X7_tapeSign : GoodIn wsX7_readEntryLines wsX7_tapeSign := goodIn_r _ [23, 2, 8, 9, 10, 11, 12, 13, 14, 15, 16, 17, 18, 19, 24, 25, 26, 27, 28, 29, 30, 31, 32, 33, 34, 35, 36, 37, 38, 39, 40, 41, 42, 43, 44, 45, 46, 47, 48, 49, 50, 51, 52, 53, 54, 55, 56, 74, 75, 76, 77, 78, 79, 80, 81, 82, 83, 84] (by decide +kernel) (by decide +kernel)
set_option maxRecDepth 20000 in
theorem gX7_readEntryLines_X7_tapeSign : GoodIn wsX7_readEntryLines (wsV RX7 63 RX7 yX7_tapeSign wsX7_tapeSign) := goodIn_app (goodIn_of _ (by decide +kernel)) ggX7_readEntryLines_X7_tapeSign
set_option maxRecDepth 20000 in
theorem ggX7_readEntryLines_X7_behindLineEnd : GoodIn wsX7_readEntryLines wsX7_behindLineEnd := goodIn_r _ [67, 20, 21, 22, 6, 23, 2, 8, 9, 10, 11, 12, 13, 14, 15, 16, 17, 18, 19, 24, 25, 26, 27, 28, 29, 30, 31, 32, 33, 34, 35, 36, 37, 38, 39, 40, 41, 42, 43, 44, 45, 46, 47, 48, 49, 50, 51, 52, 53, 54, 55, 56, 74, 75, 76, 77, 78, 79, 80, 81, 82, 83, 84] (by decide +kernel) (by decide +kernel)
set_option maxRecDepth 20000 in
theorem gX7_readEntryLines_X7_behindLineEnd : GoodIn wsX7_readEntryLines (wsV RX7 66 RX7 yX7_behindLineEnd wsX7_behindLineEnd) := goodIn_app (goodIn_of _ (by decide +kernel)) ggX7_readEntryLines_X7_behindLineEnd
set_option maxRecDepth 20000 in
theorem ggX7_readEntryLines_X7_takeLine : GoodIn wsX7_readEntryLines wsX7_takeLine := goodIn_r _ [71, 72, 73, 20, 21, 22, 6, 23, 2, 8, 9, 10, 11, 12, 13, 14, 15, 16, 17, 18, 19, 24, 25, 26, 27, 28, 29, 30, 31, 32, 33, 34, 35, 36, 37, 38, 39, 40, 41, 42, 43, 44, 45, 46, 47, 48, 49, 50, 51, 52, 53, 54, 55, 56, 74, 75, 76, 77, 78, 79, 80, 81, 82, 83, 84] (by decide +kernel) (by decide +kernel)
set_option maxRecDepth 20000 in
theorem gX7_readEntryLines_X7_takeLine : GoodIn wsX7_readEntryLines (wsV RX7 69 RX7 yX7_takeLine wsX7_takeLine) := goodIn_app (goodIn_of _ (by decide +kernel)) ggX7_readEntryLines_X7_takeLine
set_option maxRecDepth 20000 in
theorem ggX7_readEntryLines_J4_length_8abf5 : GoodIn wsX7_readEntryLines wsJ4_length_8abf5 := goodIn_r _ [12, 13, 14, 15, 16, 17, 18, 19, 81, 82, 83, 84] (by decide +kernel) (by decide +kernel)
set_option maxRecDepth 20000 in
theorem gX7_readEntryLines_J4_length_8abf5 : GoodIn wsX7_readEntryLines (wsV RX7 32 RJ4 yJ4_length_8abf5 wsJ4_length_8abf5) := goodIn_app (goodIn_of _ (by decide +kernel)) ggX7_readEntryLines_J4_length_8abf5
theorem dX7_readEntryLines_0 : decode cX7_readEntryLines 0 = .ok (.aload_n 0, 1) := by decide +kernel
theorem dX7_readEntryLines_1 : decode cX7_readEntryLines 1 = .ok (.invokevirtual 56, 3) := by decide +kernel
theorem dX7_readEntryLines_4 : decode cX7_readEntryLines 4 = .ok (.istore_n 1, 1) := by decide +kernel
theorem dX7_readEntryLines_5 : decode cX7_readEntryLines 5 = .ok (.aload_n 0, 1) := by decide +kernel
theorem dX7_readEntryLines_6 : decode cX7_readEntryLines 6 = .ok (.iload_n 1, 1) := by decide +kernel
theorem dX7_readEntryLines_7 : decode cX7_readEntryLines 7 = .ok (.invokevirtual 59, 3) := by decide +kernel
theorem dX7_readEntryLines_10 : decode cX7_readEntryLines 10 = .ok (.istore_n 2, 1) := by decide +kernel
theorem dX7_readEntryLines_11 : decode cX7_readEntryLines 11 = .ok (.iload_n 2, 1) := by decide +kernel
theorem dX7_readEntryLines_12 : decode cX7_readEntryLines 12 = .ok (.iload_n 1, 1) := by decide +kernel
theorem dX7_readEntryLines_13 : decode cX7_readEntryLines 13 = .ok (.if_icmp .ge 33, 3) := by decide +kernel
theorem dX7_readEntryLines_16 : decode cX7_readEntryLines 16 = .ok (.aload_n 0, 1) := by decide +kernel
theorem dX7_readEntryLines_17 : decode cX7_readEntryLines 17 = .ok (.iload_n 2, 1) := by decide +kernel
theorem dX7_readEntryLines_18 : decode cX7_readEntryLines 18 = .ok (.invokevirtual 63, 3) := by decide +kernel
theorem dX7_readEntryLines_21 : decode cX7_readEntryLines 21 = .ok (.bipush 35, 2) := by decide +kernel
theorem dX7_readEntryLines_23 : decode cX7_readEntryLines 23 = .ok (.if_icmp .eq 13, 3) := by decide +kernel
theorem dX7_readEntryLines_26 : decode cX7_readEntryLines 26 = .ok (.aload_n 0, 1) := by decide +kernel
theorem dX7_readEntryLines_27 : decode cX7_readEntryLines 27 = .ok (.iload_n 2, 1) := by decide +kernel
theorem dX7_readEntryLines_28 : decode cX7_readEntryLines 28 = .ok (.invokevirtual 63, 3) := by decide +kernel
theorem dX7_readEntryLines_31 : decode cX7_readEntryLines 31 = .ok (.bipush 33, 2) := by decide +kernel
theorem dX7_readEntryLines_33 : decode cX7_readEntryLines 33 = .ok (.if_icmp .ne 13, 3) := by decide +kernel
theorem dX7_readEntryLines_36 : decode cX7_readEntryLines 36 = .ok (.aload_n 0, 1) := by decide +kernel
theorem dX7_readEntryLines_37 : decode cX7_readEntryLines 37 = .ok (.aload_n 0, 1) := by decide +kernel
theorem dX7_readEntryLines_38 : decode cX7_readEntryLines 38 = .ok (.iload_n 1, 1) := by decide +kernel
theorem dX7_readEntryLines_39 : decode cX7_readEntryLines 39 = .ok (.invokevirtual 66, 3) := by decide +kernel
theorem dX7_readEntryLines_42 : decode cX7_readEntryLines 42 = .ok (.putfield 25, 3) := by decide +kernel
theorem dX7_readEntryLines_45 : decode cX7_readEntryLines 45 = .ok (.return_, 1) := by decide +kernel
theorem dX7_readEntryLines_46 : decode cX7_readEntryLines 46 = .ok (.aload_n 0, 1) := by decide +kernel
theorem dX7_readEntryLines_47 : decode cX7_readEntryLines 47 = .ok (.iload_n 2, 1) := by decide +kernel
theorem dX7_readEntryLines_48 : decode cX7_readEntryLines 48 = .ok (.iload_n 1, 1) := by decide +kernel
theorem dX7_readEntryLines_49 : decode cX7_readEntryLines 49 = .ok (.invokevirtual 69, 3) := by decide +kernel
theorem dX7_readEntryLines_52 : decode cX7_readEntryLines 52 = .ok (.istore_n 3, 1) := by decide +kernel
theorem dX7_readEntryLines_53 : decode cX7_readEntryLines 53 = .ok (.aload_n 0, 1) := by decide +kernel
theorem dX7_readEntryLines_54 : decode cX7_readEntryLines 54 = .ok (.aload_n 0, 1) := by decide +kernel
theorem dX7_readEntryLines_55 : decode cX7_readEntryLines 55 = .ok (.iload_n 1, 1) := by decide +kernel
theorem dX7_readEntryLines_56 : decode cX7_readEntryLines 56 = .ok (.invokevirtual 66, 3) := by decide +kernel
theorem dX7_readEntryLines_59 : decode cX7_readEntryLines 59 = .ok (.putfield 25, 3) := by decide +kernel
theorem dX7_readEntryLines_62 : decode cX7_readEntryLines 62 = .ok (.iconst 0, 1) := by decide +kernel
theorem dX7_readEntryLines_63 : decode cX7_readEntryLines 63 = .ok (.istore 4, 2) := by decide +kernel
theorem dX7_readEntryLines_65 : decode cX7_readEntryLines 65 = .ok (.iload 4, 2) := by decide +kernel
theorem dX7_readEntryLines_67 : decode cX7_readEntryLines 67 = .ok (.sipush 300, 3) := by decide +kernel
theorem dX7_readEntryLines_70 : decode cX7_readEntryLines 70 = .ok (.if_icmp .gt 52, 3) := by decide +kernel
theorem dX7_readEntryLines_73 : decode cX7_readEntryLines 73 = .ok (.iload_n 3, 1) := by decide +kernel
theorem dX7_readEntryLines_74 : decode cX7_readEntryLines 74 = .ok (.ifCond .eq 48, 3) := by decide +kernel
theorem dX7_readEntryLines_77 : decode cX7_readEntryLines 77 = .ok (.aload_n 0, 1) := by decide +kernel
theorem dX7_readEntryLines_78 : decode cX7_readEntryLines 78 = .ok (.getfield 25, 3) := by decide +kernel
theorem dX7_readEntryLines_81 : decode cX7_readEntryLines 81 = .ok (.aload_n 0, 1) := by decide +kernel
theorem dX7_readEntryLines_82 : decode cX7_readEntryLines 82 = .ok (.getfield 12, 3) := by decide +kernel
theorem dX7_readEntryLines_85 : decode cX7_readEntryLines 85 = .ok (.invokevirtual 32, 3) := by decide +kernel
theorem dX7_readEntryLines_88 : decode cX7_readEntryLines 88 = .ok (.if_icmp .ge 34, 3) := by decide +kernel
theorem dX7_readEntryLines_91 : decode cX7_readEntryLines 91 = .ok (.aload_n 0, 1) := by decide +kernel
theorem dX7_readEntryLines_92 : decode cX7_readEntryLines 92 = .ok (.invokevirtual 56, 3) := by decide +kernel
theorem dX7_readEntryLines_95 : decode cX7_readEntryLines 95 = .ok (.istore_n 1, 1) := by decide +kernel
theorem dX7_readEntryLines_96 : decode cX7_readEntryLines 96 = .ok (.aload_n 0, 1) := by decide +kernel
theorem dX7_readEntryLines_97 : decode cX7_readEntryLines 97 = .ok (.aload_n 0, 1) := by decide +kernel
theorem dX7_readEntryLines_98 : decode cX7_readEntryLines 98 = .ok (.iload_n 1, 1) := by decide +kernel
theorem dX7_readEntryLines_99 : decode cX7_readEntryLines 99 = .ok (.invokevirtual 59, 3) := by decide +kernel
theorem dX7_readEntryLines_102 : decode cX7_readEntryLines 102 = .ok (.iload_n 1, 1) := by decide +kernel
theorem dX7_readEntryLines_103 : decode cX7_readEntryLines 103 = .ok (.invokevirtual 69, 3) := by decide +kernel
theorem dX7_readEntryLines_106 : decode cX7_readEntryLines 106 = .ok (.istore_n 3, 1) := by decide +kernel
theorem dX7_readEntryLines_107 : decode cX7_readEntryLines 107 = .ok (.aload_n 0, 1) := by decide +kernel
theorem dX7_readEntryLines_108 : decode cX7_readEntryLines 108 = .ok (.aload_n 0, 1) := by decide +kernel
theorem dX7_readEntryLines_109 : decode cX7_readEntryLines 109 = .ok (.iload_n 1, 1) := by decide +kernel
theorem dX7_readEntryLines_110 : decode cX7_readEntryLines 110 = .ok (.invokevirtual 66, 3) := by decide +kernel
theorem dX7_readEntryLines_113 : decode cX7_readEntryLines 113 = .ok (.putfield 25, 3) := by decide +kernel
theorem dX7_readEntryLines_116 : decode cX7_readEntryLines 116 = .ok (.iinc 4 1, 3) := by decide +kernel
theorem dX7_readEntryLines_119 : decode cX7_readEntryLines 119 = .ok (.goto (-54), 3) := by decide +kernel
theorem dX7_readEntryLines_122 : decode cX7_readEntryLines 122 = .ok (.return_, 1) := by decide +kernel
set_option maxRecDepth 20000 in
theorem ggX7_lineEnd_J4_length_8abf5 : GoodIn wsX7_lineEnd wsJ4_length_8abf5 := goodIn_r _ [7, 8, 9, 10, 11, 12, 13, 14, 60, 61, 62, 63] (by decide +kernel) (by decide +kernel)
set_option maxRecDepth 20000 in
theorem gX7_lineEnd_J4_length_8abf5 : GoodIn wsX7_lineEnd (wsV RX7 32 RJ4 yJ4_length_8abf5 wsJ4_length_8abf5) := goodIn_app (goodIn_of _ (by decide +kernel)) ggX7_lineEnd_J4_length_8abf5
set_option maxRecDepth 20000 in
theorem ggX7_lineEnd_X7_tapeSign : GoodIn wsX7_lineEnd wsX7_tapeSign := goodIn_r _ [19, 2, 3, 4, 5, 6, 7, 8, 9, 10, 11, 12, 13, 14, 20, 21, 22, 23, 24, 25, 26, 27, 28, 29, 30, 31, 32, 33, 34, 35, 36, 37, 38, 39, 40, 41, 42, 43, 44, 45, 46, 47, 48, 49, 50, 51, 52, 53, 54, 55, 56, 57, 58, 59, 60, 61, 62, 63] (by decide +kernel) (by decide +kernel)
set_option maxRecDepth 20000 in
theorem gX7_lineEnd_X7_tapeSign : GoodIn wsX7_lineEnd (wsV RX7 63 RX7 yX7_tapeSign wsX7_tapeSign) := goodIn_app (goodIn_of _ (by decide +kernel)) ggX7_lineEnd_X7_tapeSign
theorem dX7_lineEnd_0 : decode cX7_lineEnd 0 = .ok (.aload_n 0, 1) := by decide +kernel
theorem dX7_lineEnd_1 : decode cX7_lineEnd 1 = .ok (.getfield 25, 3) := by decide +kernel
theorem dX7_lineEnd_4 : decode cX7_lineEnd 4 = .ok (.istore_n 1, 1) := by decide +kernel
theorem dX7_lineEnd_5 : decode cX7_lineEnd 5 = .ok (.iload_n 1, 1) := by decide +kernel
theorem dX7_lineEnd_6 : decode cX7_lineEnd 6 = .ok (.aload_n 0, 1) := by decide +kernel
theorem dX7_lineEnd_7 : decode cX7_lineEnd 7 = .ok (.getfield 12, 3) := by decide +kernel
theorem dX7_lineEnd_10 : decode cX7_lineEnd 10 = .ok (.invokevirtual 32, 3) := by decide +kernel
theorem dX7_lineEnd_13 : decode cX7_lineEnd 13 = .ok (.if_icmp .ge 29, 3) := by decide +kernel
theorem dX7_lineEnd_16 : decode cX7_lineEnd 16 = .ok (.aload_n 0, 1) := by decide +kernel
theorem dX7_lineEnd_17 : decode cX7_lineEnd 17 = .ok (.iload_n 1, 1) := by decide +kernel
theorem dX7_lineEnd_18 : decode cX7_lineEnd 18 = .ok (.invokevirtual 63, 3) := by decide +kernel
theorem dX7_lineEnd_21 : decode cX7_lineEnd 21 = .ok (.bipush 10, 2) := by decide +kernel
theorem dX7_lineEnd_23 : decode cX7_lineEnd 23 = .ok (.if_icmp .eq 19, 3) := by decide +kernel
theorem dX7_lineEnd_26 : decode cX7_lineEnd 26 = .ok (.aload_n 0, 1) := by decide +kernel
theorem dX7_lineEnd_27 : decode cX7_lineEnd 27 = .ok (.iload_n 1, 1) := by decide +kernel
theorem dX7_lineEnd_28 : decode cX7_lineEnd 28 = .ok (.invokevirtual 63, 3) := by decide +kernel
theorem dX7_lineEnd_31 : decode cX7_lineEnd 31 = .ok (.bipush 13, 2) := by decide +kernel
theorem dX7_lineEnd_33 : decode cX7_lineEnd 33 = .ok (.if_icmp .eq 9, 3) := by decide +kernel
theorem dX7_lineEnd_36 : decode cX7_lineEnd 36 = .ok (.iinc 1 1, 3) := by decide +kernel
theorem dX7_lineEnd_39 : decode cX7_lineEnd 39 = .ok (.goto (-34), 3) := by decide +kernel
theorem dX7_lineEnd_42 : decode cX7_lineEnd 42 = .ok (.iload_n 1, 1) := by decide +kernel
theorem dX7_lineEnd_43 : decode cX7_lineEnd 43 = .ok (.ireturn, 1) := by decide +kernel
set_option maxRecDepth 20000 in
theorem ggX7_behindLineEnd_X7_tapeSign : GoodIn wsX7_behindLineEnd wsX7_tapeSign := goodIn_r _ [5, 6, 7, 8, 9, 10, 11, 12, 13, 14, 15, 16, 17, 18, 19, 20, 21, 22, 23, 24, 25, 26, 27, 28, 29, 30, 31, 32, 33, 34, 35, 36, 37, 38, 39, 40, 41, 42, 43, 44, 45, 46, 47, 48, 49, 50, 51, 52, 53, 54, 55, 56, 57, 58, 59, 60, 61, 62] (by decide +kernel) (by decide +kernel)
set_option maxRecDepth 20000 in
theorem gX7_behindLineEnd_X7_tapeSign : GoodIn wsX7_behindLineEnd (wsV RX7 63 RX7 yX7_tapeSign wsX7_tapeSign) := goodIn_app (goodIn_of _ (by decide +kernel)) ggX7_behindLineEnd_X7_tapeSign
theorem dX7_behindLineEnd_0 : decode cX7_behindLineEnd 0 = .ok (.aload_n 0, 1) := by decide +kernel
theorem dX7_behindLineEnd_1 : decode cX7_behindLineEnd 1 = .ok (.iload_n 1, 1) := by decide +kernel
theorem dX7_behindLineEnd_2 : decode cX7_behindLineEnd 2 = .ok (.invokevirtual 63, 3) := by decide +kernel
theorem dX7_behindLineEnd_5 : decode cX7_behindLineEnd 5 = .ok (.bipush 13, 2) := by decide +kernel
theorem dX7_behindLineEnd_7 : decode cX7_behindLineEnd 7 = .ok (.if_icmp .ne 19, 3) := by decide +kernel
theorem dX7_behindLineEnd_10 : decode cX7_behindLineEnd 10 = .ok (.aload_n 0, 1) := by decide +kernel
theorem dX7_behindLineEnd_11 : decode cX7_behindLineEnd 11 = .ok (.iload_n 1, 1) := by decide +kernel
theorem dX7_behindLineEnd_12 : decode cX7_behindLineEnd 12 = .ok (.iconst 1, 1) := by decide +kernel
theorem dX7_behindLineEnd_13 : decode cX7_behindLineEnd 13 = .ok (.iadd, 1) := by decide +kernel
theorem dX7_behindLineEnd_14 : decode cX7_behindLineEnd 14 = .ok (.invokevirtual 63, 3) := by decide +kernel
theorem dX7_behindLineEnd_17 : decode cX7_behindLineEnd 17 = .ok (.bipush 10, 2) := by decide +kernel
theorem dX7_behindLineEnd_19 : decode cX7_behindLineEnd 19 = .ok (.if_icmp .ne 7, 3) := by decide +kernel
theorem dX7_behindLineEnd_22 : decode cX7_behindLineEnd 22 = .ok (.iload_n 1, 1) := by decide +kernel
theorem dX7_behindLineEnd_23 : decode cX7_behindLineEnd 23 = .ok (.iconst 2, 1) := by decide +kernel
theorem dX7_behindLineEnd_24 : decode cX7_behindLineEnd 24 = .ok (.iadd, 1) := by decide +kernel
theorem dX7_behindLineEnd_25 : decode cX7_behindLineEnd 25 = .ok (.ireturn, 1) := by decide +kernel
theorem dX7_behindLineEnd_26 : decode cX7_behindLineEnd 26 = .ok (.iload_n 1, 1) := by decide +kernel
theorem dX7_behindLineEnd_27 : decode cX7_behindLineEnd 27 = .ok (.iconst 1, 1) := by decide +kernel
theorem dX7_behindLineEnd_28 : decode cX7_behindLineEnd 28 = .ok (.iadd, 1) := by decide +kernel
theorem dX7_behindLineEnd_29 : decode cX7_behindLineEnd 29 = .ok (.ireturn, 1) := by decide +kernel
set_option maxRecDepth 20000 in
theorem ggX7_skipBlanks_X7_tapeSign : GoodIn wsX7_skipBlanks wsX7_tapeSign := goodIn_r _ [6, 7, 8, 9, 10, 11, 12, 13, 14, 15, 16, 17, 18, 19, 20, 21, 22, 23, 24, 25, 26, 27, 28, 29, 30, 31, 32, 33, 34, 35, 36, 37, 38, 39, 40, 41, 42, 43, 44, 45, 46, 47, 48, 49, 50, 51, 52, 56, 57, 58, 59, 60, 61, 62, 63, 64, 65, 66] (by decide +kernel) (by decide +kernel)
set_option maxRecDepth 20000 in
theorem gX7_skipBlanks_X7_tapeSign : GoodIn wsX7_skipBlanks (wsV RX7 63 RX7 yX7_tapeSign wsX7_tapeSign) := goodIn_app (goodIn_of _ (by decide +kernel)) ggX7_skipBlanks_X7_tapeSign
set_option maxRecDepth 20000 in
theorem ggX7_skipBlanks_X9_isBlank : GoodIn wsX7_skipBlanks wsX9_isBlank := goodIn_r _ [55] (by decide +kernel) (by decide +kernel)
set_option maxRecDepth 20000 in
theorem gX7_skipBlanks_X9_isBlank_n73 : GoodIn wsX7_skipBlanks (wsX9_isBlank) := ggX7_skipBlanks_X9_isBlank
theorem dX7_skipBlanks_0 : decode cX7_skipBlanks 0 = .ok (.aload_n 0, 1) := by decide +kernel
theorem dX7_skipBlanks_1 : decode cX7_skipBlanks 1 = .ok (.getfield 25, 3) := by decide +kernel
theorem dX7_skipBlanks_4 : decode cX7_skipBlanks 4 = .ok (.istore_n 2, 1) := by decide +kernel
theorem dX7_skipBlanks_5 : decode cX7_skipBlanks 5 = .ok (.iload_n 2, 1) := by decide +kernel
theorem dX7_skipBlanks_6 : decode cX7_skipBlanks 6 = .ok (.iload_n 1, 1) := by decide +kernel
theorem dX7_skipBlanks_7 : decode cX7_skipBlanks 7 = .ok (.if_icmp .ge 20, 3) := by decide +kernel
theorem dX7_skipBlanks_10 : decode cX7_skipBlanks 10 = .ok (.aload_n 0, 1) := by decide +kernel
theorem dX7_skipBlanks_11 : decode cX7_skipBlanks 11 = .ok (.iload_n 2, 1) := by decide +kernel
theorem dX7_skipBlanks_12 : decode cX7_skipBlanks 12 = .ok (.invokevirtual 63, 3) := by decide +kernel
theorem dX7_skipBlanks_15 : decode cX7_skipBlanks 15 = .ok (.invokestatic 73, 3) := by decide +kernel
theorem dX7_skipBlanks_18 : decode cX7_skipBlanks 18 = .ok (.ifCond .eq 9, 3) := by decide +kernel
theorem dX7_skipBlanks_21 : decode cX7_skipBlanks 21 = .ok (.iinc 2 1, 3) := by decide +kernel
theorem dX7_skipBlanks_24 : decode cX7_skipBlanks 24 = .ok (.goto (-19), 3) := by decide +kernel
theorem dX7_skipBlanks_27 : decode cX7_skipBlanks 27 = .ok (.iload_n 2, 1) := by decide +kernel
theorem dX7_skipBlanks_28 : decode cX7_skipBlanks 28 = .ok (.ireturn, 1) := by decide +kernel
set_option maxRecDepth 20000 in
theorem ggX7_takeLine_X7_tapeSign : GoodIn wsX7_takeLine wsX7_tapeSign := goodIn_r _ [7, 8, 9, 10, 11, 12, 13, 14, 15, 16, 17, 18, 19, 20, 21, 22, 23, 24, 25, 26, 27, 28, 29, 30, 31, 32, 33, 34, 35, 36, 37, 38, 39, 40, 41, 42, 43, 44, 45, 46, 47, 48, 49, 50, 51, 52, 53, 54, 55, 56, 57, 58, 59, 60, 61, 62, 63, 64] (by decide +kernel) (by decide +kernel)
set_option maxRecDepth 20000 in
theorem gX7_takeLine_X7_tapeSign : GoodIn wsX7_takeLine (wsV RX7 63 RX7 yX7_tapeSign wsX7_tapeSign) := goodIn_app (goodIn_of _ (by decide +kernel)) ggX7_takeLine_X7_tapeSign
theorem dX7_takeLine_0 : decode cX7_takeLine 0 = .ok (.iconst 0, 1) := by decide +kernel
theorem dX7_takeLine_1 : decode cX7_takeLine 1 = .ok (.istore_n 3, 1) := by decide +kernel
theorem dX7_takeLine_2 : decode cX7_takeLine 2 = .ok (.iload_n 3, 1) := by decide +kernel
theorem dX7_takeLine_3 : decode cX7_takeLine 3 = .ok (.iload_n 2, 1) := by decide +kernel
theorem dX7_takeLine_4 : decode cX7_takeLine 4 = .ok (.iload_n 1, 1) := by decide +kernel
theorem dX7_takeLine_5 : decode cX7_takeLine 5 = .ok (.isub, 1) := by decide +kernel
theorem dX7_takeLine_6 : decode cX7_takeLine 6 = .ok (.if_icmp .ge 23, 3) := by decide +kernel
theorem dX7_takeLine_9 : decode cX7_takeLine 9 = .ok (.aload_n 0, 1) := by decide +kernel
theorem dX7_takeLine_10 : decode cX7_takeLine 10 = .ok (.iload_n 2, 1) := by decide +kernel
theorem dX7_takeLine_11 : decode cX7_takeLine 11 = .ok (.iconst 1, 1) := by decide +kernel
theorem dX7_takeLine_12 : decode cX7_takeLine 12 = .ok (.isub, 1) := by decide +kernel
theorem dX7_takeLine_13 : decode cX7_takeLine 13 = .ok (.iload_n 3, 1) := by decide +kernel
theorem dX7_takeLine_14 : decode cX7_takeLine 14 = .ok (.isub, 1) := by decide +kernel
theorem dX7_takeLine_15 : decode cX7_takeLine 15 = .ok (.invokevirtual 63, 3) := by decide +kernel
theorem dX7_takeLine_18 : decode cX7_takeLine 18 = .ok (.bipush 92, 2) := by decide +kernel
theorem dX7_takeLine_20 : decode cX7_takeLine 20 = .ok (.if_icmp .ne 9, 3) := by decide +kernel
theorem dX7_takeLine_23 : decode cX7_takeLine 23 = .ok (.iinc 3 1, 3) := by decide +kernel
theorem dX7_takeLine_26 : decode cX7_takeLine 26 = .ok (.goto (-24), 3) := by decide +kernel
theorem dX7_takeLine_29 : decode cX7_takeLine 29 = .ok (.iload_n 3, 1) := by decide +kernel
theorem dX7_takeLine_30 : decode cX7_takeLine 30 = .ok (.iconst 2, 1) := by decide +kernel
theorem dX7_takeLine_31 : decode cX7_takeLine 31 = .ok (.irem, 1) := by decide +kernel
theorem dX7_takeLine_32 : decode cX7_takeLine 32 = .ok (.iconst 1, 1) := by decide +kernel
theorem dX7_takeLine_33 : decode cX7_takeLine 33 = .ok (.if_icmp .ne 7, 3) := by decide +kernel
theorem dX7_takeLine_36 : decode cX7_takeLine 36 = .ok (.iconst 1, 1) := by decide +kernel
theorem dX7_takeLine_37 : decode cX7_takeLine 37 = .ok (.goto 4, 3) := by decide +kernel
theorem dX7_takeLine_40 : decode cX7_takeLine 40 = .ok (.iconst 0, 1) := by decide +kernel
theorem dX7_takeLine_41 : decode cX7_takeLine 41 = .ok (.istore 4, 2) := by decide +kernel
theorem dX7_takeLine_43 : decode cX7_takeLine 43 = .ok (.iload 4, 2) := by decide +kernel
theorem dX7_takeLine_45 : decode cX7_takeLine 45 = .ok (.ifCond .eq 9, 3) := by decide +kernel
theorem dX7_takeLine_48 : decode cX7_takeLine 48 = .ok (.iload_n 2, 1) := by decide +kernel
theorem dX7_takeLine_49 : decode cX7_takeLine 49 = .ok (.iconst 1, 1) := by decide +kernel
theorem dX7_takeLine_50 : decode cX7_takeLine 50 = .ok (.isub, 1) := by decide +kernel
theorem dX7_takeLine_51 : decode cX7_takeLine 51 = .ok (.goto 4, 3) := by decide +kernel
theorem dX7_takeLine_54 : decode cX7_takeLine 54 = .ok (.iload_n 2, 1) := by decide +kernel
theorem dX7_takeLine_55 : decode cX7_takeLine 55 = .ok (.istore 5, 2) := by decide +kernel
theorem dX7_takeLine_57 : decode cX7_takeLine 57 = .ok (.iload_n 1, 1) := by decide +kernel
theorem dX7_takeLine_58 : decode cX7_takeLine 58 = .ok (.istore 6, 2) := by decide +kernel
theorem dX7_takeLine_60 : decode cX7_takeLine 60 = .ok (.iload 6, 2) := by decide +kernel
theorem dX7_takeLine_62 : decode cX7_takeLine 62 = .ok (.iload 5, 2) := by decide +kernel
theorem dX7_takeLine_64 : decode cX7_takeLine 64 = .ok (.if_icmp .ge 40, 3) := by decide +kernel
theorem dX7_takeLine_67 : decode cX7_takeLine 67 = .ok (.aload_n 0, 1) := by decide +kernel
theorem dX7_takeLine_68 : decode cX7_takeLine 68 = .ok (.getfield 29, 3) := by decide +kernel
theorem dX7_takeLine_71 : decode cX7_takeLine 71 = .ok (.sipush 300, 3) := by decide +kernel
theorem dX7_takeLine_74 : decode cX7_takeLine 74 = .ok (.if_icmp .ge 30, 3) := by decide +kernel
theorem dX7_takeLine_77 : decode cX7_takeLine 77 = .ok (.aload_n 0, 1) := by decide +kernel
theorem dX7_takeLine_78 : decode cX7_takeLine 78 = .ok (.getfield 18, 3) := by decide +kernel
theorem dX7_takeLine_81 : decode cX7_takeLine 81 = .ok (.aload_n 0, 1) := by decide +kernel
theorem dX7_takeLine_82 : decode cX7_takeLine 82 = .ok (.getfield 29, 3) := by decide +kernel
theorem dX7_takeLine_85 : decode cX7_takeLine 85 = .ok (.iload 6, 2) := by decide +kernel
theorem dX7_takeLine_87 : decode cX7_takeLine 87 = .ok (.iastore, 1) := by decide +kernel
theorem dX7_takeLine_88 : decode cX7_takeLine 88 = .ok (.aload_n 0, 1) := by decide +kernel
theorem dX7_takeLine_89 : decode cX7_takeLine 89 = .ok (.dup, 1) := by decide +kernel
theorem dX7_takeLine_90 : decode cX7_takeLine 90 = .ok (.getfield 29, 3) := by decide +kernel
theorem dX7_takeLine_93 : decode cX7_takeLine 93 = .ok (.iconst 1, 1) := by decide +kernel
theorem dX7_takeLine_94 : decode cX7_takeLine 94 = .ok (.iadd, 1) := by decide +kernel
theorem dX7_takeLine_95 : decode cX7_takeLine 95 = .ok (.putfield 29, 3) := by decide +kernel
theorem dX7_takeLine_98 : decode cX7_takeLine 98 = .ok (.iinc 6 1, 3) := by decide +kernel
theorem dX7_takeLine_101 : decode cX7_takeLine 101 = .ok (.goto (-41), 3) := by decide +kernel
theorem dX7_takeLine_104 : decode cX7_takeLine 104 = .ok (.iload 4, 2) := by decide +kernel
theorem dX7_takeLine_106 : decode cX7_takeLine 106 = .ok (.ireturn, 1) := by decide +kernel
set_option maxRecDepth 20000 in
theorem ggX7_splitEntry_X7_entrySign : GoodIn wsX7_splitEntry wsX7_entrySign := goodIn_r _ [12, 13, 14, 15, 11, 16, 1, 17, 18, 19, 20, 21, 22, 23, 24, 25, 26, 27, 28, 29, 30, 31, 32, 33, 34, 35, 36, 37, 38, 39, 40, 41, 42, 43, 44, 45, 3, 4, 5, 46, 47, 48, 49, 50, 51, 52, 53, 54, 55, 56, 57, 58, 59, 60, 61, 62, 63, 64, 75, 76, 77, 78, 79, 80, 81, 82, 83, 84, 85] (by decide +kernel) (by decide +kernel)
set_option maxRecDepth 20000 in
theorem gX7_splitEntry_X7_entrySign : GoodIn wsX7_splitEntry (wsV RX7 77 RX7 yX7_entrySign wsX7_entrySign) := goodIn_app (goodIn_of _ (by decide +kernel)) ggX7_splitEntry_X7_entrySign
set_option maxRecDepth 20000 in
theorem ggX7_splitEntry_X7_endsKey : GoodIn wsX7_splitEntry wsX7_endsKey := goodIn_r _ [67, 68, 69, 70] (by decide +kernel) (by decide +kernel)
set_option maxRecDepth 20000 in
theorem gX7_splitEntry_X7_endsKey : GoodIn wsX7_splitEntry (va_wsS RX7 80 yX7_endsKey wsX7_endsKey) := goodIn_app (goodIn_of _ (by decide +kernel)) ggX7_splitEntry_X7_endsKey
set_option maxRecDepth 20000 in
theorem ggX7_splitEntry_X7_skipEntryBlanks : GoodIn wsX7_splitEntry wsX7_skipEntryBlanks := goodIn_r _ [74, 1, 8, 9, 10, 11, 12, 13, 14, 15, 16, 17, 18, 19, 20, 21, 22, 23, 24, 25, 26, 27, 28, 29, 30, 31, 32, 33, 34, 35, 36, 37, 38, 39, 40, 41, 42, 43, 44, 45, 3, 4, 5, 46, 47, 48, 49, 50, 51, 52, 53, 54, 55, 56, 57, 58, 59, 60, 61, 62, 63, 64, 68, 69, 70, 75, 76, 77, 78, 79, 80, 81, 82, 83, 84, 85] (by decide +kernel) (by decide +kernel)
set_option maxRecDepth 20000 in
theorem gX7_splitEntry_X7_skipEntryBlanks : GoodIn wsX7_splitEntry (wsV RX7 88 RX7 yX7_skipEntryBlanks wsX7_skipEntryBlanks) := goodIn_app (goodIn_of _ (by decide +kernel)) ggX7_splitEntry_X7_skipEntryBlanks
theorem dX7_splitEntry_0 : decode cX7_splitEntry 0 = .ok (.iconst 0, 1) := by decide +kernel
theorem dX7_splitEntry_1 : decode cX7_splitEntry 1 = .ok (.istore_n 1, 1) := by decide +kernel
theorem dX7_splitEntry_2 : decode cX7_splitEntry 2 = .ok (.iload_n 1, 1) := by decide +kernel
theorem dX7_splitEntry_3 : decode cX7_splitEntry 3 = .ok (.aload_n 0, 1) := by decide +kernel
theorem dX7_splitEntry_4 : decode cX7_splitEntry 4 = .ok (.getfield 29, 3) := by decide +kernel
theorem dX7_splitEntry_7 : decode cX7_splitEntry 7 = .ok (.if_icmp .ge 35, 3) := by decide +kernel
theorem dX7_splitEntry_10 : decode cX7_splitEntry 10 = .ok (.aload_n 0, 1) := by decide +kernel
theorem dX7_splitEntry_11 : decode cX7_splitEntry 11 = .ok (.iload_n 1, 1) := by decide +kernel
theorem dX7_splitEntry_12 : decode cX7_splitEntry 12 = .ok (.invokevirtual 77, 3) := by decide +kernel
theorem dX7_splitEntry_15 : decode cX7_splitEntry 15 = .ok (.invokestatic 80, 3) := by decide +kernel
theorem dX7_splitEntry_18 : decode cX7_splitEntry 18 = .ok (.ifCond .ne 24, 3) := by decide +kernel
theorem dX7_splitEntry_21 : decode cX7_splitEntry 21 = .ok (.iload_n 1, 1) := by decide +kernel
theorem dX7_splitEntry_22 : decode cX7_splitEntry 22 = .ok (.aload_n 0, 1) := by decide +kernel
theorem dX7_splitEntry_23 : decode cX7_splitEntry 23 = .ok (.iload_n 1, 1) := by decide +kernel
theorem dX7_splitEntry_24 : decode cX7_splitEntry 24 = .ok (.invokevirtual 77, 3) := by decide +kernel
theorem dX7_splitEntry_27 : decode cX7_splitEntry 27 = .ok (.bipush 92, 2) := by decide +kernel
theorem dX7_splitEntry_29 : decode cX7_splitEntry 29 = .ok (.if_icmp .ne 7, 3) := by decide +kernel
theorem dX7_splitEntry_32 : decode cX7_splitEntry 32 = .ok (.iconst 2, 1) := by decide +kernel
theorem dX7_splitEntry_33 : decode cX7_splitEntry 33 = .ok (.goto 4, 3) := by decide +kernel
theorem dX7_splitEntry_36 : decode cX7_splitEntry 36 = .ok (.iconst 1, 1) := by decide +kernel
theorem dX7_splitEntry_37 : decode cX7_splitEntry 37 = .ok (.iadd, 1) := by decide +kernel
theorem dX7_splitEntry_38 : decode cX7_splitEntry 38 = .ok (.istore_n 1, 1) := by decide +kernel
theorem dX7_splitEntry_39 : decode cX7_splitEntry 39 = .ok (.goto (-37), 3) := by decide +kernel
theorem dX7_splitEntry_42 : decode cX7_splitEntry 42 = .ok (.aload_n 0, 1) := by decide +kernel
theorem dX7_splitEntry_43 : decode cX7_splitEntry 43 = .ok (.iload_n 1, 1) := by decide +kernel
theorem dX7_splitEntry_44 : decode cX7_splitEntry 44 = .ok (.aload_n 0, 1) := by decide +kernel
theorem dX7_splitEntry_45 : decode cX7_splitEntry 45 = .ok (.getfield 29, 3) := by decide +kernel
theorem dX7_splitEntry_48 : decode cX7_splitEntry 48 = .ok (.invokestatic 83, 3) := by decide +kernel
theorem dX7_splitEntry_51 : decode cX7_splitEntry 51 = .ok (.putfield 42, 3) := by decide +kernel
theorem dX7_splitEntry_54 : decode cX7_splitEntry 54 = .ok (.aload_n 0, 1) := by decide +kernel
theorem dX7_splitEntry_55 : decode cX7_splitEntry 55 = .ok (.aload_n 0, 1) := by decide +kernel
theorem dX7_splitEntry_56 : decode cX7_splitEntry 56 = .ok (.getfield 42, 3) := by decide +kernel
theorem dX7_splitEntry_59 : decode cX7_splitEntry 59 = .ok (.invokevirtual 88, 3) := by decide +kernel
theorem dX7_splitEntry_62 : decode cX7_splitEntry 62 = .ok (.istore_n 1, 1) := by decide +kernel
theorem dX7_splitEntry_63 : decode cX7_splitEntry 63 = .ok (.aload_n 0, 1) := by decide +kernel
theorem dX7_splitEntry_64 : decode cX7_splitEntry 64 = .ok (.iload_n 1, 1) := by decide +kernel
theorem dX7_splitEntry_65 : decode cX7_splitEntry 65 = .ok (.invokevirtual 77, 3) := by decide +kernel
theorem dX7_splitEntry_68 : decode cX7_splitEntry 68 = .ok (.bipush 61, 2) := by decide +kernel
theorem dX7_splitEntry_70 : decode cX7_splitEntry 70 = .ok (.if_icmp .eq 13, 3) := by decide +kernel
theorem dX7_splitEntry_73 : decode cX7_splitEntry 73 = .ok (.aload_n 0, 1) := by decide +kernel
theorem dX7_splitEntry_74 : decode cX7_splitEntry 74 = .ok (.iload_n 1, 1) := by decide +kernel
theorem dX7_splitEntry_75 : decode cX7_splitEntry 75 = .ok (.invokevirtual 77, 3) := by decide +kernel
theorem dX7_splitEntry_78 : decode cX7_splitEntry 78 = .ok (.bipush 58, 2) := by decide +kernel
theorem dX7_splitEntry_80 : decode cX7_splitEntry 80 = .ok (.if_icmp .ne 11, 3) := by decide +kernel
theorem dX7_splitEntry_83 : decode cX7_splitEntry 83 = .ok (.aload_n 0, 1) := by decide +kernel
theorem dX7_splitEntry_84 : decode cX7_splitEntry 84 = .ok (.iload_n 1, 1) := by decide +kernel
theorem dX7_splitEntry_85 : decode cX7_splitEntry 85 = .ok (.iconst 1, 1) := by decide +kernel
theorem dX7_splitEntry_86 : decode cX7_splitEntry 86 = .ok (.iadd, 1) := by decide +kernel
theorem dX7_splitEntry_87 : decode cX7_splitEntry 87 = .ok (.invokevirtual 88, 3) := by decide +kernel
theorem dX7_splitEntry_90 : decode cX7_splitEntry 90 = .ok (.istore_n 1, 1) := by decide +kernel
theorem dX7_splitEntry_91 : decode cX7_splitEntry 91 = .ok (.aload_n 0, 1) := by decide +kernel
theorem dX7_splitEntry_92 : decode cX7_splitEntry 92 = .ok (.iload_n 1, 1) := by decide +kernel
theorem dX7_splitEntry_93 : decode cX7_splitEntry 93 = .ok (.putfield 53, 3) := by decide +kernel
theorem dX7_splitEntry_96 : decode cX7_splitEntry 96 = .ok (.return_, 1) := by decide +kernel
set_option maxRecDepth 20000 in
theorem ggX7_skipEntryBlanks_X7_entrySign : GoodIn wsX7_skipEntryBlanks wsX7_entrySign := goodIn_r _ [6, 7, 8, 9, 5, 10, 1, 11, 12, 13, 14, 15, 16, 17, 18, 19, 20, 21, 22, 23, 24, 25, 26, 27, 28, 29, 30, 31, 32, 33, 34, 35, 36, 37, 38, 39, 40, 41, 42, 43, 44, 45, 46, 47, 48, 49, 50, 51, 52, 53, 54, 55, 56, 57, 58, 59, 60, 61, 65, 66, 67, 68, 69, 70, 71, 72, 73, 74, 75] (by decide +kernel) (by decide +kernel)
set_option maxRecDepth 20000 in
theorem gX7_skipEntryBlanks_X7_entrySign : GoodIn wsX7_skipEntryBlanks (wsV RX7 77 RX7 yX7_entrySign wsX7_entrySign) := goodIn_app (goodIn_of _ (by decide +kernel)) ggX7_skipEntryBlanks_X7_entrySign
set_option maxRecDepth 20000 in
theorem ggX7_skipEntryBlanks_X9_isBlank : GoodIn wsX7_skipEntryBlanks wsX9_isBlank := goodIn_r _ [64] (by decide +kernel) (by decide +kernel)
set_option maxRecDepth 20000 in
theorem gX7_skipEntryBlanks_X9_isBlank_n73 : GoodIn wsX7_skipEntryBlanks (wsX9_isBlank) := ggX7_skipEntryBlanks_X9_isBlank
theorem dX7_skipEntryBlanks_0 : decode cX7_skipEntryBlanks 0 = .ok (.iload_n 1, 1) := by decide +kernel
theorem dX7_skipEntryBlanks_1 : decode cX7_skipEntryBlanks 1 = .ok (.istore_n 2, 1) := by decide +kernel
theorem dX7_skipEntryBlanks_2 : decode cX7_skipEntryBlanks 2 = .ok (.iload_n 2, 1) := by decide +kernel
theorem dX7_skipEntryBlanks_3 : decode cX7_skipEntryBlanks 3 = .ok (.aload_n 0, 1) := by decide +kernel
theorem dX7_skipEntryBlanks_4 : decode cX7_skipEntryBlanks 4 = .ok (.getfield 29, 3) := by decide +kernel
theorem dX7_skipEntryBlanks_7 : decode cX7_skipEntryBlanks 7 = .ok (.if_icmp .ge 20, 3) := by decide +kernel
theorem dX7_skipEntryBlanks_10 : decode cX7_skipEntryBlanks 10 = .ok (.aload_n 0, 1) := by decide +kernel
theorem dX7_skipEntryBlanks_11 : decode cX7_skipEntryBlanks 11 = .ok (.iload_n 2, 1) := by decide +kernel
theorem dX7_skipEntryBlanks_12 : decode cX7_skipEntryBlanks 12 = .ok (.invokevirtual 77, 3) := by decide +kernel
theorem dX7_skipEntryBlanks_15 : decode cX7_skipEntryBlanks 15 = .ok (.invokestatic 73, 3) := by decide +kernel
theorem dX7_skipEntryBlanks_18 : decode cX7_skipEntryBlanks 18 = .ok (.ifCond .eq 9, 3) := by decide +kernel
theorem dX7_skipEntryBlanks_21 : decode cX7_skipEntryBlanks 21 = .ok (.iinc 2 1, 3) := by decide +kernel
theorem dX7_skipEntryBlanks_24 : decode cX7_skipEntryBlanks 24 = .ok (.goto (-22), 3) := by decide +kernel
theorem dX7_skipEntryBlanks_27 : decode cX7_skipEntryBlanks 27 = .ok (.iload_n 2, 1) := by decide +kernel
theorem dX7_skipEntryBlanks_28 : decode cX7_skipEntryBlanks 28 = .ok (.ireturn, 1) := by decide +kernel
set_option maxRecDepth 20000 in
theorem ggX7_unescape_J4_setLength_d00df : GoodIn wsX7_unescape wsJ4_setLength_d00df := goodIn_r _ [6, 7, 8, 9, 10, 11, 12, 13, 14, 15, 16, 17, 18, 19, 20, 21, 22, 23, 24, 25, 26, 27, 28, 29, 30, 31, 32, 33, 34, 35, 36, 37, 38, 39, 40, 41, 42, 43, 44, 45, 46, 47, 48, 49, 50, 51, 52, 53, 54, 55, 56, 57, 58, 59, 60, 61, 62, 63, 64, 65, 66, 67, 68, 69, 70, 71, 72, 73, 74, 75, 76, 77, 78, 196, 197, 198, 199] (by decide +kernel) (by decide +kernel)
set_option maxRecDepth 20000 in
theorem gX7_unescape_J4_setLength_d00df : GoodIn wsX7_unescape (wsV RX7 91 RJ4 yJ4_setLength_d00df wsJ4_setLength_d00df) := goodIn_app (goodIn_of _ (by decide +kernel)) ggX7_unescape_J4_setLength_d00df
set_option maxRecDepth 20000 in
theorem ggX7_unescape_X7_entrySign : GoodIn wsX7_unescape wsX7_entrySign := goodIn_r _ [83, 84, 85, 86, 82, 87, 88, 89, 90, 91, 92, 93, 94, 95, 96, 97, 5, 98, 99, 100, 9, 101, 11, 102, 13, 103, 104, 105, 106, 107, 108, 109, 110, 21, 14, 111, 52, 34, 53, 112, 113, 114, 115, 116, 117, 118, 119, 120, 121, 122, 76, 123, 124, 125, 126, 127, 128, 129, 189, 190, 191, 192, 193, 194, 195, 196, 197, 198, 199] (by decide +kernel) (by decide +kernel)
set_option maxRecDepth 20000 in
theorem gX7_unescape_X7_entrySign : GoodIn wsX7_unescape (wsV RX7 77 RX7 yX7_entrySign wsX7_entrySign) := goodIn_app (goodIn_of _ (by decide +kernel)) ggX7_unescape_X7_entrySign
set_option maxRecDepth 20000 in
theorem ggX7_unescape_J4_append_cf468 : GoodIn wsX7_unescape wsJ4_append_cf468 := goodIn_r _ [133, 134, 135, 9, 136, 11, 137, 13, 14, 16, 17, 18, 19, 20, 21, 22, 23, 24, 25, 26, 27, 28, 29, 30, 31, 32, 33, 34, 35, 36, 37, 38, 39, 40, 41, 42, 43, 44, 45, 46, 47, 48, 49, 50, 51, 52, 53, 54, 55, 56, 57, 58, 59, 60, 61, 62, 63, 138, 139, 66, 140, 141, 142, 143, 144, 145, 146, 147, 76, 148, 149, 150, 151, 152, 153, 154, 155, 156, 157, 158, 159, 160, 161, 127, 128, 129, 162, 163, 114, 164, 116, 165, 166, 119, 167, 168, 169, 170, 124, 125, 126, 171, 172, 173, 174, 175, 176, 177, 113, 115, 117, 118, 120, 196, 197, 198, 199] (by decide +kernel) (by decide +kernel)
set_option maxRecDepth 20000 in
theorem gX7_unescape_J4_append_cf468 : GoodIn wsX7_unescape (wsV RX7 95 RJ4 yJ4_append_cf468 wsJ4_append_cf468) := goodIn_app (goodIn_of _ (by decide +kernel)) ggX7_unescape_J4_append_cf468
set_option maxRecDepth 20000 in
theorem ggX7_unescape_X1_characterFor : GoodIn wsX7_unescape wsX1_characterFor := goodIn_r _ [181] (by decide +kernel) (by decide +kernel)
set_option maxRecDepth 20000 in
theorem gX7_unescape_X1_characterFor : GoodIn wsX7_unescape (va_wsS RX7 99 yX1_characterFor wsX1_characterFor) := goodIn_app (goodIn_of _ (by decide +kernel)) ggX7_unescape_X1_characterFor
set_option maxRecDepth 20000 in
theorem ggX7_unescape_X7_unicodeNumber : GoodIn wsX7_unescape wsX7_unicodeNumber := goodIn_r _ [185, 79, 80, 81, 82, 83, 84, 85, 86, 87, 88, 89, 90, 91, 92, 93, 94, 95, 96, 97, 5, 98, 99, 100, 9, 101, 11, 102, 13, 103, 104, 105, 106, 107, 108, 109, 110, 21, 14, 111, 52, 34, 53, 112, 113, 114, 115, 116, 117, 118, 119, 120, 121, 122, 76, 123, 124, 125, 126, 127, 128, 129, 186, 187, 180, 188, 189, 190, 191, 192, 193, 194, 195, 196, 197, 198, 199] (by decide +kernel) (by decide +kernel)
set_option maxRecDepth 20000 in
theorem gX7_unescape_X7_unicodeNumber : GoodIn wsX7_unescape (wsV RX7 105 RX7 yX7_unicodeNumber wsX7_unicodeNumber) := goodIn_app (goodIn_of _ (by decide +kernel)) ggX7_unescape_X7_unicodeNumber
set_option maxRecDepth 20000 in
theorem ggX7_unescape_X7_tapePlace : GoodIn wsX7_unescape wsX7_tapePlace := goodIn_r _ [87, 88, 89, 189, 190, 191, 192, 193, 194, 195] (by decide +kernel) (by decide +kernel)
set_option maxRecDepth 20000 in
theorem gX7_unescape_X7_tapePlace : GoodIn wsX7_unescape (wsV RX7 108 RX7 yX7_tapePlace wsX7_tapePlace) := goodIn_app (goodIn_of _ (by decide +kernel)) ggX7_unescape_X7_tapePlace
theorem dX7_unescape_0 : decode cX7_unescape 0 = .ok (.aload_n 0, 1) := by decide +kernel
theorem dX7_unescape_1 : decode cX7_unescape 1 = .ok (.getfield 22, 3) := by decide +kernel
theorem dX7_unescape_4 : decode cX7_unescape 4 = .ok (.iconst 0, 1) := by decide +kernel
theorem dX7_unescape_5 : decode cX7_unescape 5 = .ok (.invokevirtual 91, 3) := by decide +kernel
theorem dX7_unescape_8 : decode cX7_unescape 8 = .ok (.iload_n 1, 1) := by decide +kernel
theorem dX7_unescape_9 : decode cX7_unescape 9 = .ok (.istore_n 3, 1) := by decide +kernel
theorem dX7_unescape_10 : decode cX7_unescape 10 = .ok (.iload_n 3, 1) := by decide +kernel
theorem dX7_unescape_11 : decode cX7_unescape 11 = .ok (.iload_n 2, 1) := by decide +kernel
theorem dX7_unescape_12 : decode cX7_unescape 12 = .ok (.if_icmp .ge 117, 3) := by decide +kernel
theorem dX7_unescape_15 : decode cX7_unescape 15 = .ok (.aload_n 0, 1) := by decide +kernel
theorem dX7_unescape_16 : decode cX7_unescape 16 = .ok (.iload_n 3, 1) := by decide +kernel
theorem dX7_unescape_17 : decode cX7_unescape 17 = .ok (.invokevirtual 77, 3) := by decide +kernel
theorem dX7_unescape_20 : decode cX7_unescape 20 = .ok (.istore 4, 2) := by decide +kernel
theorem dX7_unescape_22 : decode cX7_unescape 22 = .ok (.iload 4, 2) := by decide +kernel
theorem dX7_unescape_24 : decode cX7_unescape 24 = .ok (.bipush 92, 2) := by decide +kernel
theorem dX7_unescape_26 : decode cX7_unescape 26 = .ok (.if_icmp .eq 20, 3) := by decide +kernel
theorem dX7_unescape_29 : decode cX7_unescape 29 = .ok (.aload_n 0, 1) := by decide +kernel
theorem dX7_unescape_30 : decode cX7_unescape 30 = .ok (.getfield 22, 3) := by decide +kernel
theorem dX7_unescape_33 : decode cX7_unescape 33 = .ok (.iload 4, 2) := by decide +kernel
theorem dX7_unescape_35 : decode cX7_unescape 35 = .ok (.i2c, 1) := by decide +kernel
theorem dX7_unescape_36 : decode cX7_unescape 36 = .ok (.invokevirtual 95, 3) := by decide +kernel
theorem dX7_unescape_39 : decode cX7_unescape 39 = .ok (.pop, 1) := by decide +kernel
theorem dX7_unescape_40 : decode cX7_unescape 40 = .ok (.iinc 3 1, 3) := by decide +kernel
theorem dX7_unescape_43 : decode cX7_unescape 43 = .ok (.goto 83, 3) := by decide +kernel
theorem dX7_unescape_46 : decode cX7_unescape 46 = .ok (.aload_n 0, 1) := by decide +kernel
theorem dX7_unescape_47 : decode cX7_unescape 47 = .ok (.iload_n 3, 1) := by decide +kernel
theorem dX7_unescape_48 : decode cX7_unescape 48 = .ok (.iconst 1, 1) := by decide +kernel
theorem dX7_unescape_49 : decode cX7_unescape 49 = .ok (.iadd, 1) := by decide +kernel
theorem dX7_unescape_50 : decode cX7_unescape 50 = .ok (.invokevirtual 77, 3) := by decide +kernel
theorem dX7_unescape_53 : decode cX7_unescape 53 = .ok (.bipush 117, 2) := by decide +kernel
theorem dX7_unescape_55 : decode cX7_unescape 55 = .ok (.if_icmp .eq 27, 3) := by decide +kernel
theorem dX7_unescape_58 : decode cX7_unescape 58 = .ok (.aload_n 0, 1) := by decide +kernel
theorem dX7_unescape_59 : decode cX7_unescape 59 = .ok (.getfield 22, 3) := by decide +kernel
theorem dX7_unescape_62 : decode cX7_unescape 62 = .ok (.aload_n 0, 1) := by decide +kernel
theorem dX7_unescape_63 : decode cX7_unescape 63 = .ok (.iload_n 3, 1) := by decide +kernel
theorem dX7_unescape_64 : decode cX7_unescape 64 = .ok (.iconst 1, 1) := by decide +kernel
theorem dX7_unescape_65 : decode cX7_unescape 65 = .ok (.iadd, 1) := by decide +kernel
theorem dX7_unescape_66 : decode cX7_unescape 66 = .ok (.invokevirtual 77, 3) := by decide +kernel
theorem dX7_unescape_69 : decode cX7_unescape 69 = .ok (.invokestatic 99, 3) := by decide +kernel
theorem dX7_unescape_72 : decode cX7_unescape 72 = .ok (.invokevirtual 95, 3) := by decide +kernel
theorem dX7_unescape_75 : decode cX7_unescape 75 = .ok (.pop, 1) := by decide +kernel
theorem dX7_unescape_76 : decode cX7_unescape 76 = .ok (.iinc 3 2, 3) := by decide +kernel
theorem dX7_unescape_79 : decode cX7_unescape 79 = .ok (.goto 47, 3) := by decide +kernel
theorem dX7_unescape_82 : decode cX7_unescape 82 = .ok (.aload_n 0, 1) := by decide +kernel
theorem dX7_unescape_83 : decode cX7_unescape 83 = .ok (.iload_n 3, 1) := by decide +kernel
theorem dX7_unescape_84 : decode cX7_unescape 84 = .ok (.iconst 2, 1) := by decide +kernel
theorem dX7_unescape_85 : decode cX7_unescape 85 = .ok (.iadd, 1) := by decide +kernel
theorem dX7_unescape_86 : decode cX7_unescape 86 = .ok (.iload_n 2, 1) := by decide +kernel
theorem dX7_unescape_87 : decode cX7_unescape 87 = .ok (.invokevirtual 105, 3) := by decide +kernel
theorem dX7_unescape_90 : decode cX7_unescape 90 = .ok (.istore 5, 2) := by decide +kernel
theorem dX7_unescape_92 : decode cX7_unescape 92 = .ok (.iload 5, 2) := by decide +kernel
theorem dX7_unescape_94 : decode cX7_unescape 94 = .ok (.iconst (-1), 1) := by decide +kernel
theorem dX7_unescape_95 : decode cX7_unescape 95 = .ok (.if_icmp .eq 11, 3) := by decide +kernel
theorem dX7_unescape_98 : decode cX7_unescape 98 = .ok (.iload 5, 2) := by decide +kernel
theorem dX7_unescape_100 : decode cX7_unescape 100 = .ok (.sipush 255, 3) := by decide +kernel
theorem dX7_unescape_103 : decode cX7_unescape 103 = .ok (.if_icmp .le 9, 3) := by decide +kernel
theorem dX7_unescape_106 : decode cX7_unescape 106 = .ok (.aload_n 0, 1) := by decide +kernel
theorem dX7_unescape_107 : decode cX7_unescape 107 = .ok (.iload_n 3, 1) := by decide +kernel
theorem dX7_unescape_108 : decode cX7_unescape 108 = .ok (.invokevirtual 108, 3) := by decide +kernel
theorem dX7_unescape_111 : decode cX7_unescape 111 = .ok (.ireturn, 1) := by decide +kernel
theorem dX7_unescape_112 : decode cX7_unescape 112 = .ok (.aload_n 0, 1) := by decide +kernel
theorem dX7_unescape_113 : decode cX7_unescape 113 = .ok (.getfield 22, 3) := by decide +kernel
theorem dX7_unescape_116 : decode cX7_unescape 116 = .ok (.iload 5, 2) := by decide +kernel
theorem dX7_unescape_118 : decode cX7_unescape 118 = .ok (.i2c, 1) := by decide +kernel
theorem dX7_unescape_119 : decode cX7_unescape 119 = .ok (.invokevirtual 95, 3) := by decide +kernel
theorem dX7_unescape_122 : decode cX7_unescape 122 = .ok (.pop, 1) := by decide +kernel
theorem dX7_unescape_123 : decode cX7_unescape 123 = .ok (.iinc 3 6, 3) := by decide +kernel
theorem dX7_unescape_126 : decode cX7_unescape 126 = .ok (.goto (-116), 3) := by decide +kernel
theorem dX7_unescape_129 : decode cX7_unescape 129 = .ok (.bipush (-5), 2) := by decide +kernel
theorem dX7_unescape_131 : decode cX7_unescape 131 = .ok (.ireturn, 1) := by decide +kernel
set_option maxRecDepth 20000 in
theorem ggX7_unicodeNumber_X7_entrySign : GoodIn wsX7_unicodeNumber wsX7_entrySign := goodIn_r _ [5, 6, 7, 8, 4, 9, 10, 11, 12, 13, 14, 15, 16, 17, 18, 19, 20, 21, 22, 23, 24, 25, 26, 27, 28, 29, 30, 31, 32, 33, 34, 35, 36, 37, 38, 39, 40, 41, 42, 43, 44, 45, 46, 47, 48, 49, 50, 51, 52, 53, 54, 55, 56, 57, 58, 59, 60, 61, 66, 67, 68, 69, 70, 71, 72, 73, 74, 75, 76] (by decide +kernel) (by decide +kernel)
set_option maxRecDepth 20000 in
theorem gX7_unicodeNumber_X7_entrySign : GoodIn wsX7_unicodeNumber (wsV RX7 77 RX7 yX7_entrySign wsX7_entrySign) := goodIn_app (goodIn_of _ (by decide +kernel)) ggX7_unicodeNumber_X7_entrySign
set_option maxRecDepth 20000 in
theorem ggX7_unicodeNumber_X1_digitNumber : GoodIn wsX7_unicodeNumber wsX1_digitNumber := goodIn_r _ [65] (by decide +kernel) (by decide +kernel)
set_option maxRecDepth 20000 in
theorem gX7_unicodeNumber_X1_digitNumber : GoodIn wsX7_unicodeNumber (va_wsS RX7 111 yX1_digitNumber wsX1_digitNumber) := goodIn_app (goodIn_of _ (by decide +kernel)) ggX7_unicodeNumber_X1_digitNumber
theorem dX7_unicodeNumber_0 : decode cX7_unicodeNumber 0 = .ok (.iload_n 1, 1) := by decide +kernel
theorem dX7_unicodeNumber_1 : decode cX7_unicodeNumber 1 = .ok (.iconst 4, 1) := by decide +kernel
theorem dX7_unicodeNumber_2 : decode cX7_unicodeNumber 2 = .ok (.iadd, 1) := by decide +kernel
theorem dX7_unicodeNumber_3 : decode cX7_unicodeNumber 3 = .ok (.iload_n 2, 1) := by decide +kernel
theorem dX7_unicodeNumber_4 : decode cX7_unicodeNumber 4 = .ok (.if_icmp .le 5, 3) := by decide +kernel
theorem dX7_unicodeNumber_7 : decode cX7_unicodeNumber 7 = .ok (.iconst (-1), 1) := by decide +kernel
theorem dX7_unicodeNumber_8 : decode cX7_unicodeNumber 8 = .ok (.ireturn, 1) := by decide +kernel
theorem dX7_unicodeNumber_9 : decode cX7_unicodeNumber 9 = .ok (.iconst 0, 1) := by decide +kernel
theorem dX7_unicodeNumber_10 : decode cX7_unicodeNumber 10 = .ok (.istore_n 3, 1) := by decide +kernel
theorem dX7_unicodeNumber_11 : decode cX7_unicodeNumber 11 = .ok (.iload_n 1, 1) := by decide +kernel
theorem dX7_unicodeNumber_12 : decode cX7_unicodeNumber 12 = .ok (.istore 4, 2) := by decide +kernel
theorem dX7_unicodeNumber_14 : decode cX7_unicodeNumber 14 = .ok (.iload 4, 2) := by decide +kernel
theorem dX7_unicodeNumber_16 : decode cX7_unicodeNumber 16 = .ok (.iload_n 1, 1) := by decide +kernel
theorem dX7_unicodeNumber_17 : decode cX7_unicodeNumber 17 = .ok (.iconst 4, 1) := by decide +kernel
theorem dX7_unicodeNumber_18 : decode cX7_unicodeNumber 18 = .ok (.iadd, 1) := by decide +kernel
theorem dX7_unicodeNumber_19 : decode cX7_unicodeNumber 19 = .ok (.if_icmp .ge 36, 3) := by decide +kernel
theorem dX7_unicodeNumber_22 : decode cX7_unicodeNumber 22 = .ok (.aload_n 0, 1) := by decide +kernel
theorem dX7_unicodeNumber_23 : decode cX7_unicodeNumber 23 = .ok (.iload 4, 2) := by decide +kernel
theorem dX7_unicodeNumber_25 : decode cX7_unicodeNumber 25 = .ok (.invokevirtual 77, 3) := by decide +kernel
theorem dX7_unicodeNumber_28 : decode cX7_unicodeNumber 28 = .ok (.invokestatic 111, 3) := by decide +kernel
theorem dX7_unicodeNumber_31 : decode cX7_unicodeNumber 31 = .ok (.istore 5, 2) := by decide +kernel
theorem dX7_unicodeNumber_33 : decode cX7_unicodeNumber 33 = .ok (.iload 5, 2) := by decide +kernel
theorem dX7_unicodeNumber_35 : decode cX7_unicodeNumber 35 = .ok (.iconst (-1), 1) := by decide +kernel
theorem dX7_unicodeNumber_36 : decode cX7_unicodeNumber 36 = .ok (.if_icmp .ne 5, 3) := by decide +kernel
theorem dX7_unicodeNumber_39 : decode cX7_unicodeNumber 39 = .ok (.iconst (-1), 1) := by decide +kernel
theorem dX7_unicodeNumber_40 : decode cX7_unicodeNumber 40 = .ok (.ireturn, 1) := by decide +kernel
theorem dX7_unicodeNumber_41 : decode cX7_unicodeNumber 41 = .ok (.bipush 16, 2) := by decide +kernel
theorem dX7_unicodeNumber_43 : decode cX7_unicodeNumber 43 = .ok (.iload_n 3, 1) := by decide +kernel
theorem dX7_unicodeNumber_44 : decode cX7_unicodeNumber 44 = .ok (.imul, 1) := by decide +kernel
theorem dX7_unicodeNumber_45 : decode cX7_unicodeNumber 45 = .ok (.iload 5, 2) := by decide +kernel
theorem dX7_unicodeNumber_47 : decode cX7_unicodeNumber 47 = .ok (.iadd, 1) := by decide +kernel
theorem dX7_unicodeNumber_48 : decode cX7_unicodeNumber 48 = .ok (.istore_n 3, 1) := by decide +kernel
theorem dX7_unicodeNumber_49 : decode cX7_unicodeNumber 49 = .ok (.iinc 4 1, 3) := by decide +kernel
theorem dX7_unicodeNumber_52 : decode cX7_unicodeNumber 52 = .ok (.goto (-38), 3) := by decide +kernel
theorem dX7_unicodeNumber_55 : decode cX7_unicodeNumber 55 = .ok (.iload_n 3, 1) := by decide +kernel
theorem dX7_unicodeNumber_56 : decode cX7_unicodeNumber 56 = .ok (.ireturn, 1) := by decide +kernel
set_option maxRecDepth 20000 in
theorem ggX7_endsKey_X9_isBlank : GoodIn wsX7_endsKey wsX9_isBlank := goodIn_r _ [3] (by decide +kernel) (by decide +kernel)
set_option maxRecDepth 20000 in
theorem gX7_endsKey_X9_isBlank_n73 : GoodIn wsX7_endsKey (wsX9_isBlank) := ggX7_endsKey_X9_isBlank
theorem dX7_endsKey_0 : decode cX7_endsKey 0 = .ok (.iload_n 0, 1) := by decide +kernel
theorem dX7_endsKey_1 : decode cX7_endsKey 1 = .ok (.bipush 61, 2) := by decide +kernel
theorem dX7_endsKey_3 : decode cX7_endsKey 3 = .ok (.if_icmp .eq 16, 3) := by decide +kernel
theorem dX7_endsKey_6 : decode cX7_endsKey 6 = .ok (.iload_n 0, 1) := by decide +kernel
theorem dX7_endsKey_7 : decode cX7_endsKey 7 = .ok (.bipush 58, 2) := by decide +kernel
theorem dX7_endsKey_9 : decode cX7_endsKey 9 = .ok (.if_icmp .eq 10, 3) := by decide +kernel
theorem dX7_endsKey_12 : decode cX7_endsKey 12 = .ok (.iload_n 0, 1) := by decide +kernel
theorem dX7_endsKey_13 : decode cX7_endsKey 13 = .ok (.invokestatic 73, 3) := by decide +kernel
theorem dX7_endsKey_16 : decode cX7_endsKey 16 = .ok (.ifCond .eq 7, 3) := by decide +kernel
theorem dX7_endsKey_19 : decode cX7_endsKey 19 = .ok (.iconst 1, 1) := by decide +kernel
theorem dX7_endsKey_20 : decode cX7_endsKey 20 = .ok (.goto 4, 3) := by decide +kernel
theorem dX7_endsKey_23 : decode cX7_endsKey 23 = .ok (.iconst 0, 1) := by decide +kernel
theorem dX7_endsKey_24 : decode cX7_endsKey 24 = .ok (.ireturn, 1) := by decide +kernel
set_option maxRecDepth 20000 in
theorem ggX7_entrySign_X7_tapePlace : GoodIn wsX7_entrySign wsX7_tapePlace := goodIn_r _ [5, 6, 7, 58, 59, 60, 61, 62, 63, 64] (by decide +kernel) (by decide +kernel)
set_option maxRecDepth 20000 in
theorem gX7_entrySign_X7_tapePlace : GoodIn wsX7_entrySign (wsV RX7 108 RX7 yX7_tapePlace wsX7_tapePlace) := goodIn_app (goodIn_of _ (by decide +kernel)) ggX7_entrySign_X7_tapePlace
set_option maxRecDepth 20000 in
theorem ggX7_entrySign_X7_tapeSign : GoodIn wsX7_entrySign wsX7_tapeSign := goodIn_r _ [11, 12, 13, 14, 15, 16, 17, 18, 19, 20, 21, 22, 23, 24, 25, 26, 27, 28, 29, 30, 31, 32, 33, 34, 35, 36, 37, 38, 39, 40, 41, 42, 43, 44, 45, 46, 47, 48, 49, 50, 51, 52, 53, 54, 55, 56, 57, 58, 59, 60, 61, 62, 63, 64, 65, 66, 67, 68] (by decide +kernel) (by decide +kernel)
set_option maxRecDepth 20000 in
theorem gX7_entrySign_X7_tapeSign : GoodIn wsX7_entrySign (wsV RX7 63 RX7 yX7_tapeSign wsX7_tapeSign) := goodIn_app (goodIn_of _ (by decide +kernel)) ggX7_entrySign_X7_tapeSign
theorem dX7_entrySign_0 : decode cX7_entrySign 0 = .ok (.aload_n 0, 1) := by decide +kernel
theorem dX7_entrySign_1 : decode cX7_entrySign 1 = .ok (.aload_n 0, 1) := by decide +kernel
theorem dX7_entrySign_2 : decode cX7_entrySign 2 = .ok (.iload_n 1, 1) := by decide +kernel
theorem dX7_entrySign_3 : decode cX7_entrySign 3 = .ok (.invokevirtual 108, 3) := by decide +kernel
theorem dX7_entrySign_6 : decode cX7_entrySign 6 = .ok (.invokevirtual 63, 3) := by decide +kernel
theorem dX7_entrySign_9 : decode cX7_entrySign 9 = .ok (.ireturn, 1) := by decide +kernel
theorem dX7_tapePlace_0 : decode cX7_tapePlace 0 = .ok (.iload_n 1, 1) := by decide +kernel
theorem dX7_tapePlace_1 : decode cX7_tapePlace 1 = .ok (.ifCond .lt 27, 3) := by decide +kernel
theorem dX7_tapePlace_4 : decode cX7_tapePlace 4 = .ok (.iload_n 1, 1) := by decide +kernel
theorem dX7_tapePlace_5 : decode cX7_tapePlace 5 = .ok (.aload_n 0, 1) := by decide +kernel
theorem dX7_tapePlace_6 : decode cX7_tapePlace 6 = .ok (.getfield 29, 3) := by decide +kernel
theorem dX7_tapePlace_9 : decode cX7_tapePlace 9 = .ok (.if_icmp .ge 19, 3) := by decide +kernel
theorem dX7_tapePlace_12 : decode cX7_tapePlace 12 = .ok (.iload_n 1, 1) := by decide +kernel
theorem dX7_tapePlace_13 : decode cX7_tapePlace 13 = .ok (.sipush 300, 3) := by decide +kernel
theorem dX7_tapePlace_16 : decode cX7_tapePlace 16 = .ok (.if_icmp .ge 12, 3) := by decide +kernel
theorem dX7_tapePlace_19 : decode cX7_tapePlace 19 = .ok (.aload_n 0, 1) := by decide +kernel
theorem dX7_tapePlace_20 : decode cX7_tapePlace 20 = .ok (.getfield 18, 3) := by decide +kernel
theorem dX7_tapePlace_23 : decode cX7_tapePlace 23 = .ok (.iload_n 1, 1) := by decide +kernel
theorem dX7_tapePlace_24 : decode cX7_tapePlace 24 = .ok (.iaload, 1) := by decide +kernel
theorem dX7_tapePlace_25 : decode cX7_tapePlace 25 = .ok (.goto 5, 3) := by decide +kernel
theorem dX7_tapePlace_28 : decode cX7_tapePlace 28 = .ok (.bipush (-5), 2) := by decide +kernel
theorem dX7_tapePlace_30 : decode cX7_tapePlace 30 = .ok (.ireturn, 1) := by decide +kernel
set_option maxRecDepth 20000 in
theorem ggX7_tapeSign_J4_length_8abf5 : GoodIn wsX7_tapeSign wsJ4_length_8abf5 := goodIn_r _ [6, 7, 8, 9, 10, 11, 12, 13, 54, 55, 56, 57] (by decide +kernel) (by decide +kernel)
set_option maxRecDepth 20000 in
theorem gX7_tapeSign_J4_length_8abf5 : GoodIn wsX7_tapeSign (wsV RX7 32 RJ4 yJ4_length_8abf5 wsJ4_length_8abf5) := goodIn_app (goodIn_of _ (by decide +kernel)) ggX7_tapeSign_J4_length_8abf5
set_option maxRecDepth 20000 in
theorem ggX7_tapeSign_J4_charAt_5068e : GoodIn wsX7_tapeSign wsJ4_charAt_5068e := goodIn_r _ [17, 18, 19, 9, 20, 11, 21, 22, 23, 13, 24, 25, 26, 27, 28, 29, 30, 31, 32, 33, 34, 35, 36, 37, 38, 39, 40, 41, 42, 43, 44, 45, 46, 54, 55, 56, 57] (by decide +kernel) (by decide +kernel)
set_option maxRecDepth 20000 in
theorem gX7_tapeSign_J4_charAt_5068e : GoodIn wsX7_tapeSign (wsV RX7 114 RJ4 yJ4_charAt_5068e wsJ4_charAt_5068e) := goodIn_app (goodIn_of _ (by decide +kernel)) ggX7_tapeSign_J4_charAt_5068e
theorem dX7_tapeSign_0 : decode cX7_tapeSign 0 = .ok (.iload_n 1, 1) := by decide +kernel
theorem dX7_tapeSign_1 : decode cX7_tapeSign 1 = .ok (.ifCond .lt 25, 3) := by decide +kernel
theorem dX7_tapeSign_4 : decode cX7_tapeSign 4 = .ok (.iload_n 1, 1) := by decide +kernel
theorem dX7_tapeSign_5 : decode cX7_tapeSign 5 = .ok (.aload_n 0, 1) := by decide +kernel
theorem dX7_tapeSign_6 : decode cX7_tapeSign 6 = .ok (.getfield 12, 3) := by decide +kernel
theorem dX7_tapeSign_9 : decode cX7_tapeSign 9 = .ok (.invokevirtual 32, 3) := by decide +kernel
theorem dX7_tapeSign_12 : decode cX7_tapeSign 12 = .ok (.if_icmp .ge 14, 3) := by decide +kernel
theorem dX7_tapeSign_15 : decode cX7_tapeSign 15 = .ok (.aload_n 0, 1) := by decide +kernel
theorem dX7_tapeSign_16 : decode cX7_tapeSign 16 = .ok (.getfield 12, 3) := by decide +kernel
theorem dX7_tapeSign_19 : decode cX7_tapeSign 19 = .ok (.iload_n 1, 1) := by decide +kernel
theorem dX7_tapeSign_20 : decode cX7_tapeSign 20 = .ok (.invokevirtual 114, 3) := by decide +kernel
theorem dX7_tapeSign_23 : decode cX7_tapeSign 23 = .ok (.goto 4, 3) := by decide +kernel
theorem dX7_tapeSign_26 : decode cX7_tapeSign 26 = .ok (.iconst (-1), 1) := by decide +kernel
theorem dX7_tapeSign_27 : decode cX7_tapeSign 27 = .ok (.ireturn, 1) := by decide +kernel
theorem dX8_init_0 : decode cX8_init 0 = .ok (.aload_n 0, 1) := by decide +kernel
theorem dX8_init_1 : decode cX8_init 1 = .ok (.invokespecial 1, 3) := by decide +kernel
theorem dX8_init_4 : decode cX8_init 4 = .ok (.aload_n 0, 1) := by decide +kernel
theorem dX8_init_5 : decode cX8_init 5 = .ok (.aload_n 1, 1) := by decide +kernel
theorem dX8_init_6 : decode cX8_init 6 = .ok (.putfield 7, 3) := by decide +kernel
theorem dX8_init_9 : decode cX8_init 9 = .ok (.aload_n 0, 1) := by decide +kernel
theorem dX8_init_10 : decode cX8_init 10 = .ok (.aload_n 2, 1) := by decide +kernel
theorem dX8_init_11 : decode cX8_init 11 = .ok (.putfield 13, 3) := by decide +kernel
theorem dX8_init_14 : decode cX8_init 14 = .ok (.aload_n 0, 1) := by decide +kernel
theorem dX8_init_15 : decode cX8_init 15 = .ok (.iload_n 3, 1) := by decide +kernel
theorem dX8_init_16 : decode cX8_init 16 = .ok (.putfield 16, 3) := by decide +kernel
theorem dX8_init_19 : decode cX8_init 19 = .ok (.return_, 1) := by decide +kernel
set_option maxRecDepth 20000 in
theorem ggX8_hasToken_X8_tokenStart : GoodIn wsX8_hasToken wsX8_tokenStart := goodIn_r _ [7, 8, 2, 9, 10, 11, 12, 13, 14, 15, 16, 17, 18, 19, 20, 21, 22, 23, 6, 24, 25, 26, 27, 28, 29, 30, 31, 32, 33, 34, 35, 36, 37, 38, 39, 40, 41, 42, 43, 44, 45, 46, 47, 48, 49, 50, 51, 52, 53, 54, 55, 56, 57, 58, 59, 60, 61, 62, 63, 64, 65, 66, 67, 68, 69, 70, 71, 72, 73, 74, 75, 76, 77, 78, 79, 80, 81, 82, 83, 84, 85, 86, 87, 88, 89, 90, 91, 92, 93, 94, 95, 96, 97, 98, 99, 100, 101, 102, 103, 104, 105, 106, 107, 108, 109, 110, 111, 112, 113, 114, 115, 116, 117, 118, 119, 120, 121, 122, 123, 124, 125, 126, 127, 128, 129, 130, 131, 132, 133, 134] (by decide +kernel) (by decide +kernel)
set_option maxRecDepth 20000 in
theorem gX8_hasToken_X8_tokenStart : GoodIn wsX8_hasToken (wsV RX8 24 RX8 yX8_tokenStart wsX8_tokenStart) := goodIn_app (goodIn_of _ (by decide +kernel)) ggX8_hasToken_X8_tokenStart
set_option maxRecDepth 20000 in
theorem ggX8_hasToken_J0_length_8abf5 : GoodIn wsX8_hasToken wsJ0_length_8abf5 := goodIn_r _ [13, 14, 15, 16, 17, 12, 18, 19, 20, 131, 132, 133, 134] (by decide +kernel) (by decide +kernel)
set_option maxRecDepth 20000 in
theorem gX8_hasToken_J0_length_8abf5 : GoodIn wsX8_hasToken (wsV RX8 28 RJ0 yJ0_length_8abf5 wsJ0_length_8abf5) := goodIn_app (goodIn_of _ (by decide +kernel)) ggX8_hasToken_J0_length_8abf5
theorem dX8_hasToken_0 : decode cX8_hasToken 0 = .ok (.aload_n 0, 1) := by decide +kernel
theorem dX8_hasToken_1 : decode cX8_hasToken 1 = .ok (.aload_n 0, 1) := by decide +kernel
theorem dX8_hasToken_2 : decode cX8_hasToken 2 = .ok (.getfield 20, 3) := by decide +kernel
theorem dX8_hasToken_5 : decode cX8_hasToken 5 = .ok (.invokevirtual 24, 3) := by decide +kernel
theorem dX8_hasToken_8 : decode cX8_hasToken 8 = .ok (.aload_n 0, 1) := by decide +kernel
theorem dX8_hasToken_9 : decode cX8_hasToken 9 = .ok (.getfield 7, 3) := by decide +kernel
theorem dX8_hasToken_12 : decode cX8_hasToken 12 = .ok (.invokevirtual 28, 3) := by decide +kernel
theorem dX8_hasToken_15 : decode cX8_hasToken 15 = .ok (.if_icmp .ge 7, 3) := by decide +kernel
theorem dX8_hasToken_18 : decode cX8_hasToken 18 = .ok (.iconst 1, 1) := by decide +kernel
theorem dX8_hasToken_19 : decode cX8_hasToken 19 = .ok (.goto 4, 3) := by decide +kernel
theorem dX8_hasToken_22 : decode cX8_hasToken 22 = .ok (.iconst 0, 1) := by decide +kernel
theorem dX8_hasToken_23 : decode cX8_hasToken 23 = .ok (.ireturn, 1) := by decide +kernel
set_option maxRecDepth 20000 in
theorem ggX8_tokensLeft_X8_tokenStart : GoodIn wsX8_tokensLeft wsX8_tokenStart := goodIn_r _ [7, 8, 2, 9, 10, 11, 12, 13, 14, 15, 16, 17, 18, 19, 20, 21, 22, 23, 6, 24, 25, 26, 27, 28, 29, 30, 31, 32, 33, 34, 35, 36, 37, 38, 39, 40, 41, 42, 43, 44, 45, 46, 47, 48, 49, 50, 51, 52, 53, 54, 55, 56, 57, 58, 59, 60, 61, 62, 63, 64, 65, 66, 67, 68, 69, 70, 71, 72, 73, 74, 75, 76, 77, 78, 79, 80, 81, 82, 83, 84, 85, 86, 87, 88, 89, 90, 91, 92, 93, 94, 95, 96, 97, 98, 99, 100, 101, 102, 103, 104, 105, 106, 107, 108, 109, 110, 111, 112, 113, 114, 115, 116, 117, 118, 119, 120, 121, 122, 123, 124, 125, 126, 131, 132, 133, 134, 135, 136, 137, 138] (by decide +kernel) (by decide +kernel)
set_option maxRecDepth 20000 in
theorem gX8_tokensLeft_X8_tokenStart : GoodIn wsX8_tokensLeft (wsV RX8 24 RX8 yX8_tokenStart wsX8_tokenStart) := goodIn_app (goodIn_of _ (by decide +kernel)) ggX8_tokensLeft_X8_tokenStart
set_option maxRecDepth 20000 in
theorem ggX8_tokensLeft_J0_length_8abf5 : GoodIn wsX8_tokensLeft wsJ0_length_8abf5 := goodIn_r _ [13, 14, 15, 16, 17, 12, 18, 19, 20, 135, 136, 137, 138] (by decide +kernel) (by decide +kernel)
set_option maxRecDepth 20000 in
theorem gX8_tokensLeft_J0_length_8abf5 : GoodIn wsX8_tokensLeft (wsV RX8 28 RJ0 yJ0_length_8abf5 wsJ0_length_8abf5) := goodIn_app (goodIn_of _ (by decide +kernel)) ggX8_tokensLeft_J0_length_8abf5
set_option maxRecDepth 20000 in
theorem ggX8_tokensLeft_X8_tokenEnd : GoodIn wsX8_tokensLeft wsX8_tokenEnd := goodIn_r _ [130, 8, 2, 9, 10, 11, 12, 13, 14, 15, 16, 17, 18, 19, 20, 21, 22, 23, 6, 24, 25, 26, 27, 28, 29, 30, 31, 32, 33, 34, 35, 36, 37, 38, 39, 40, 41, 42, 43, 44, 45, 46, 47, 48, 49, 50, 51, 52, 53, 54, 55, 56, 57, 58, 59, 60, 61, 62, 63, 64, 65, 66, 67, 68, 69, 70, 71, 72, 73, 74, 75, 76, 77, 78, 79, 80, 81, 82, 83, 84, 85, 86, 87, 88, 89, 90, 91, 92, 93, 94, 95, 96, 97, 98, 99, 100, 101, 102, 103, 104, 105, 106, 107, 108, 109, 110, 111, 112, 113, 114, 115, 116, 117, 118, 119, 120, 121, 122, 123, 124, 125, 126, 131, 132, 133, 134, 135, 136, 137, 138] (by decide +kernel) (by decide +kernel)
set_option maxRecDepth 20000 in
theorem gX8_tokensLeft_X8_tokenEnd : GoodIn wsX8_tokensLeft (wsV RX8 34 RX8 yX8_tokenEnd wsX8_tokenEnd) := goodIn_app (goodIn_of _ (by decide +kernel)) ggX8_tokensLeft_X8_tokenEnd
theorem dX8_tokensLeft_0 : decode cX8_tokensLeft 0 = .ok (.iconst 0, 1) := by decide +kernel
theorem dX8_tokensLeft_1 : decode cX8_tokensLeft 1 = .ok (.istore_n 1, 1) := by decide +kernel
theorem dX8_tokensLeft_2 : decode cX8_tokensLeft 2 = .ok (.aload_n 0, 1) := by decide +kernel
theorem dX8_tokensLeft_3 : decode cX8_tokensLeft 3 = .ok (.aload_n 0, 1) := by decide +kernel
theorem dX8_tokensLeft_4 : decode cX8_tokensLeft 4 = .ok (.getfield 20, 3) := by decide +kernel
theorem dX8_tokensLeft_7 : decode cX8_tokensLeft 7 = .ok (.invokevirtual 24, 3) := by decide +kernel
theorem dX8_tokensLeft_10 : decode cX8_tokensLeft 10 = .ok (.istore_n 2, 1) := by decide +kernel
theorem dX8_tokensLeft_11 : decode cX8_tokensLeft 11 = .ok (.iload_n 2, 1) := by decide +kernel
theorem dX8_tokensLeft_12 : decode cX8_tokensLeft 12 = .ok (.aload_n 0, 1) := by decide +kernel
theorem dX8_tokensLeft_13 : decode cX8_tokensLeft 13 = .ok (.getfield 7, 3) := by decide +kernel
theorem dX8_tokensLeft_16 : decode cX8_tokensLeft 16 = .ok (.invokevirtual 28, 3) := by decide +kernel
theorem dX8_tokensLeft_19 : decode cX8_tokensLeft 19 = .ok (.if_icmp .ge 30, 3) := by decide +kernel
theorem dX8_tokensLeft_22 : decode cX8_tokensLeft 22 = .ok (.iload_n 1, 1) := by decide +kernel
theorem dX8_tokensLeft_23 : decode cX8_tokensLeft 23 = .ok (.aload_n 0, 1) := by decide +kernel
theorem dX8_tokensLeft_24 : decode cX8_tokensLeft 24 = .ok (.getfield 7, 3) := by decide +kernel
theorem dX8_tokensLeft_27 : decode cX8_tokensLeft 27 = .ok (.invokevirtual 28, 3) := by decide +kernel
theorem dX8_tokensLeft_30 : decode cX8_tokensLeft 30 = .ok (.if_icmp .ge 19, 3) := by decide +kernel
theorem dX8_tokensLeft_33 : decode cX8_tokensLeft 33 = .ok (.iinc 1 1, 3) := by decide +kernel
theorem dX8_tokensLeft_36 : decode cX8_tokensLeft 36 = .ok (.aload_n 0, 1) := by decide +kernel
theorem dX8_tokensLeft_37 : decode cX8_tokensLeft 37 = .ok (.aload_n 0, 1) := by decide +kernel
theorem dX8_tokensLeft_38 : decode cX8_tokensLeft 38 = .ok (.iload_n 2, 1) := by decide +kernel
theorem dX8_tokensLeft_39 : decode cX8_tokensLeft 39 = .ok (.invokevirtual 34, 3) := by decide +kernel
theorem dX8_tokensLeft_42 : decode cX8_tokensLeft 42 = .ok (.invokevirtual 24, 3) := by decide +kernel
theorem dX8_tokensLeft_45 : decode cX8_tokensLeft 45 = .ok (.istore_n 2, 1) := by decide +kernel
theorem dX8_tokensLeft_46 : decode cX8_tokensLeft 46 = .ok (.goto (-35), 3) := by decide +kernel
theorem dX8_tokensLeft_49 : decode cX8_tokensLeft 49 = .ok (.iload_n 1, 1) := by decide +kernel
theorem dX8_tokensLeft_50 : decode cX8_tokensLeft 50 = .ok (.ireturn, 1) := by decide +kernel
set_option maxRecDepth 20000 in
theorem ggX8_takeToken_X8_tokenStart : GoodIn wsX8_takeToken wsX8_tokenStart := goodIn_r _ [7, 8, 2, 9, 10, 11, 12, 13, 14, 15, 16, 17, 18, 19, 20, 21, 22, 23, 6, 24, 25, 26, 27, 28, 29, 30, 31, 32, 33, 34, 35, 36, 37, 38, 39, 40, 41, 42, 43, 44, 45, 46, 47, 48, 49, 50, 51, 52, 53, 54, 55, 56, 57, 58, 59, 60, 61, 62, 63, 64, 65, 66, 67, 68, 69, 70, 71, 72, 73, 74, 75, 76, 77, 78, 79, 80, 81, 82, 83, 84, 85, 86, 87, 88, 89, 90, 91, 92, 93, 94, 95, 96, 97, 98, 99, 100, 101, 102, 103, 104, 105, 106, 107, 108, 109, 110, 111, 112, 113, 114, 115, 116, 117, 118, 119, 120, 121, 122, 123, 124, 125, 126, 198, 199, 200, 201, 202, 203, 204, 205] (by decide +kernel) (by decide +kernel)
set_option maxRecDepth 20000 in
theorem gX8_takeToken_X8_tokenStart : GoodIn wsX8_takeToken (wsV RX8 24 RX8 yX8_tokenStart wsX8_tokenStart) := goodIn_app (goodIn_of _ (by decide +kernel)) ggX8_takeToken_X8_tokenStart
set_option maxRecDepth 20000 in
theorem ggX8_takeToken_X8_tokenEnd : GoodIn wsX8_takeToken wsX8_tokenEnd := goodIn_r _ [130, 8, 2, 9, 10, 11, 12, 13, 14, 15, 16, 17, 18, 19, 20, 21, 22, 23, 6, 24, 25, 26, 27, 28, 29, 30, 31, 32, 33, 34, 35, 36, 37, 38, 39, 40, 41, 42, 43, 44, 45, 46, 47, 48, 49, 50, 51, 52, 53, 54, 55, 56, 57, 58, 59, 60, 61, 62, 63, 64, 65, 66, 67, 68, 69, 70, 71, 72, 73, 74, 75, 76, 77, 78, 79, 80, 81, 82, 83, 84, 85, 86, 87, 88, 89, 90, 91, 92, 93, 94, 95, 96, 97, 98, 99, 100, 101, 102, 103, 104, 105, 106, 107, 108, 109, 110, 111, 112, 113, 114, 115, 116, 117, 118, 119, 120, 121, 122, 123, 124, 125, 126, 198, 199, 200, 201, 202, 203, 204, 205] (by decide +kernel) (by decide +kernel)
set_option maxRecDepth 20000 in
theorem gX8_takeToken_X8_tokenEnd : GoodIn wsX8_takeToken (wsV RX8 34 RX8 yX8_tokenEnd wsX8_tokenEnd) := goodIn_app (goodIn_of _ (by decide +kernel)) ggX8_takeToken_X8_tokenEnd
set_option maxRecDepth 20000 in
theorem ggX8_takeToken_J0_substring_37a41 : GoodIn wsX8_takeToken wsJ0_substring_37a41 := goodIn_r _ [134, 14, 74, 10, 11, 12, 13, 15, 16, 17, 18, 19, 20, 135, 104, 105, 44, 106, 107, 47, 108, 33, 34, 35, 36, 136, 137, 39, 138, 139, 140, 141, 142, 143, 144, 145, 146, 147, 148, 149, 150, 151, 152, 153, 154, 155, 83, 80, 84, 156, 157, 158, 159, 160, 161, 162, 163, 164, 165, 166, 167, 168, 169, 170, 51, 171, 172, 173, 174, 175, 176, 177, 178, 179, 180, 181, 182, 56, 57, 58, 183, 184, 185, 186, 187, 188, 60, 61, 62, 63, 64, 65, 189, 190, 191, 192, 193, 194, 195, 196, 197, 202, 203, 204, 205] (by decide +kernel) (by decide +kernel)
set_option maxRecDepth 20000 in
theorem gX8_takeToken_J0_substring_37a41 : GoodIn wsX8_takeToken (wsV RX8 37 RJ0 yJ0_substring_37a41 wsJ0_substring_37a41) := goodIn_app (goodIn_of _ (by decide +kernel)) ggX8_takeToken_J0_substring_37a41
theorem dX8_takeToken_0 : decode cX8_takeToken 0 = .ok (.aload_n 0, 1) := by decide +kernel
theorem dX8_takeToken_1 : decode cX8_takeToken 1 = .ok (.aload_n 0, 1) := by decide +kernel
theorem dX8_takeToken_2 : decode cX8_takeToken 2 = .ok (.getfield 20, 3) := by decide +kernel
theorem dX8_takeToken_5 : decode cX8_takeToken 5 = .ok (.invokevirtual 24, 3) := by decide +kernel
theorem dX8_takeToken_8 : decode cX8_takeToken 8 = .ok (.istore_n 1, 1) := by decide +kernel
theorem dX8_takeToken_9 : decode cX8_takeToken 9 = .ok (.aload_n 0, 1) := by decide +kernel
theorem dX8_takeToken_10 : decode cX8_takeToken 10 = .ok (.aload_n 0, 1) := by decide +kernel
theorem dX8_takeToken_11 : decode cX8_takeToken 11 = .ok (.iload_n 1, 1) := by decide +kernel
theorem dX8_takeToken_12 : decode cX8_takeToken 12 = .ok (.invokevirtual 34, 3) := by decide +kernel
theorem dX8_takeToken_15 : decode cX8_takeToken 15 = .ok (.putfield 20, 3) := by decide +kernel
theorem dX8_takeToken_18 : decode cX8_takeToken 18 = .ok (.iload_n 1, 1) := by decide +kernel
theorem dX8_takeToken_19 : decode cX8_takeToken 19 = .ok (.aload_n 0, 1) := by decide +kernel
theorem dX8_takeToken_20 : decode cX8_takeToken 20 = .ok (.getfield 20, 3) := by decide +kernel
theorem dX8_takeToken_23 : decode cX8_takeToken 23 = .ok (.if_icmp .ge 18, 3) := by decide +kernel
theorem dX8_takeToken_26 : decode cX8_takeToken 26 = .ok (.aload_n 0, 1) := by decide +kernel
theorem dX8_takeToken_27 : decode cX8_takeToken 27 = .ok (.getfield 7, 3) := by decide +kernel
theorem dX8_takeToken_30 : decode cX8_takeToken 30 = .ok (.iload_n 1, 1) := by decide +kernel
theorem dX8_takeToken_31 : decode cX8_takeToken 31 = .ok (.aload_n 0, 1) := by decide +kernel
theorem dX8_takeToken_32 : decode cX8_takeToken 32 = .ok (.getfield 20, 3) := by decide +kernel
theorem dX8_takeToken_35 : decode cX8_takeToken 35 = .ok (.invokevirtual 37, 3) := by decide +kernel
theorem dX8_takeToken_38 : decode cX8_takeToken 38 = .ok (.goto 5, 3) := by decide +kernel
theorem dX8_takeToken_41 : decode cX8_takeToken 41 = .ok (.ldc 41, 2) := by decide +kernel
theorem dX8_takeToken_43 : decode cX8_takeToken 43 = .ok (.areturn, 1) := by decide +kernel
set_option maxRecDepth 20000 in
theorem ggX8_tokenStart_J0_length_8abf5 : GoodIn wsX8_tokenStart wsJ0_length_8abf5 := goodIn_r _ [7, 8, 9, 10, 11, 6, 12, 13, 14, 126, 127, 128, 129] (by decide +kernel) (by decide +kernel)
set_option maxRecDepth 20000 in
theorem gX8_tokenStart_J0_length_8abf5 : GoodIn wsX8_tokenStart (wsV RX8 28 RJ0 yJ0_length_8abf5 wsJ0_length_8abf5) := goodIn_app (goodIn_of _ (by decide +kernel)) ggX8_tokenStart_J0_length_8abf5
set_option maxRecDepth 20000 in
theorem ggX8_tokenStart_X8_isDelimiter : GoodIn wsX8_tokenStart wsX8_isDelimiter := goodIn_r _ [19, 2, 20, 3, 4, 5, 6, 7, 8, 9, 10, 11, 12, 13, 14, 21, 22, 23, 24, 25, 26, 27, 28, 29, 30, 31, 32, 33, 34, 35, 36, 37, 38, 39, 40, 41, 42, 43, 44, 45, 46, 47, 48, 49, 50, 51, 52, 53, 54, 55, 56, 57, 58, 59, 60, 61, 62, 63, 64, 65, 66, 67, 68, 69, 70, 71, 72, 73, 74, 75, 76, 77, 78, 79, 80, 81, 82, 83, 84, 85, 86, 87, 88, 89, 90, 91, 92, 93, 94, 95, 96, 97, 98, 99, 100, 101, 102, 103, 104, 105, 106, 107, 108, 109, 110, 111, 112, 113, 114, 115, 116, 117, 118, 119, 120, 121, 122, 123, 124, 125, 126, 127, 128, 129] (by decide +kernel) (by decide +kernel)
set_option maxRecDepth 20000 in
theorem gX8_tokenStart_X8_isDelimiter : GoodIn wsX8_tokenStart (wsV RX8 43 RX8 yX8_isDelimiter wsX8_isDelimiter) := goodIn_app (goodIn_of _ (by decide +kernel)) ggX8_tokenStart_X8_isDelimiter
theorem dX8_tokenStart_0 : decode cX8_tokenStart 0 = .ok (.iload_n 1, 1) := by decide +kernel
theorem dX8_tokenStart_1 : decode cX8_tokenStart 1 = .ok (.istore_n 2, 1) := by decide +kernel
theorem dX8_tokenStart_2 : decode cX8_tokenStart 2 = .ok (.aload_n 0, 1) := by decide +kernel
theorem dX8_tokenStart_3 : decode cX8_tokenStart 3 = .ok (.getfield 16, 3) := by decide +kernel
theorem dX8_tokenStart_6 : decode cX8_tokenStart 6 = .ok (.ifCond .ne 28, 3) := by decide +kernel
theorem dX8_tokenStart_9 : decode cX8_tokenStart 9 = .ok (.iload_n 2, 1) := by decide +kernel
theorem dX8_tokenStart_10 : decode cX8_tokenStart 10 = .ok (.aload_n 0, 1) := by decide +kernel
theorem dX8_tokenStart_11 : decode cX8_tokenStart 11 = .ok (.getfield 7, 3) := by decide +kernel
theorem dX8_tokenStart_14 : decode cX8_tokenStart 14 = .ok (.invokevirtual 28, 3) := by decide +kernel
theorem dX8_tokenStart_17 : decode cX8_tokenStart 17 = .ok (.if_icmp .ge 17, 3) := by decide +kernel
theorem dX8_tokenStart_20 : decode cX8_tokenStart 20 = .ok (.aload_n 0, 1) := by decide +kernel
theorem dX8_tokenStart_21 : decode cX8_tokenStart 21 = .ok (.iload_n 2, 1) := by decide +kernel
theorem dX8_tokenStart_22 : decode cX8_tokenStart 22 = .ok (.invokevirtual 43, 3) := by decide +kernel
theorem dX8_tokenStart_25 : decode cX8_tokenStart 25 = .ok (.ifCond .eq 9, 3) := by decide +kernel
theorem dX8_tokenStart_28 : decode cX8_tokenStart 28 = .ok (.iinc 2 1, 3) := by decide +kernel
theorem dX8_tokenStart_31 : decode cX8_tokenStart 31 = .ok (.goto (-29), 3) := by decide +kernel
theorem dX8_tokenStart_34 : decode cX8_tokenStart 34 = .ok (.iload_n 2, 1) := by decide +kernel
theorem dX8_tokenStart_35 : decode cX8_tokenStart 35 = .ok (.ireturn, 1) := by decide +kernel
set_option maxRecDepth 20000 in
theorem ggX8_tokenEnd_J0_length_8abf5 : GoodIn wsX8_tokenEnd wsJ0_length_8abf5 := goodIn_r _ [7, 8, 9, 10, 11, 6, 12, 13, 14, 126, 127, 128, 129] (by decide +kernel) (by decide +kernel)
set_option maxRecDepth 20000 in
theorem gX8_tokenEnd_J0_length_8abf5 : GoodIn wsX8_tokenEnd (wsV RX8 28 RJ0 yJ0_length_8abf5 wsJ0_length_8abf5) := goodIn_app (goodIn_of _ (by decide +kernel)) ggX8_tokenEnd_J0_length_8abf5
set_option maxRecDepth 20000 in
theorem ggX8_tokenEnd_X8_isDelimiter : GoodIn wsX8_tokenEnd wsX8_isDelimiter := goodIn_r _ [19, 2, 20, 3, 4, 5, 6, 7, 8, 9, 10, 11, 12, 13, 14, 21, 22, 23, 24, 25, 26, 27, 28, 29, 30, 31, 32, 33, 34, 35, 36, 37, 38, 39, 40, 41, 42, 43, 44, 45, 46, 47, 48, 49, 50, 51, 52, 53, 54, 55, 56, 57, 58, 59, 60, 61, 62, 63, 64, 65, 66, 67, 68, 69, 70, 71, 72, 73, 74, 75, 76, 77, 78, 79, 80, 81, 82, 83, 84, 85, 86, 87, 88, 89, 90, 91, 92, 93, 94, 95, 96, 97, 98, 99, 100, 101, 102, 103, 104, 105, 106, 107, 108, 109, 110, 111, 112, 113, 114, 115, 116, 117, 118, 119, 120, 121, 122, 123, 124, 125, 126, 127, 128, 129] (by decide +kernel) (by decide +kernel)
set_option maxRecDepth 20000 in
theorem gX8_tokenEnd_X8_isDelimiter : GoodIn wsX8_tokenEnd (wsV RX8 43 RX8 yX8_isDelimiter wsX8_isDelimiter) := goodIn_app (goodIn_of _ (by decide +kernel)) ggX8_tokenEnd_X8_isDelimiter
theorem dX8_tokenEnd_0 : decode cX8_tokenEnd 0 = .ok (.aload_n 0, 1) := by decide +kernel
theorem dX8_tokenEnd_1 : decode cX8_tokenEnd 1 = .ok (.getfield 16, 3) := by decide +kernel
theorem dX8_tokenEnd_4 : decode cX8_tokenEnd 4 = .ok (.ifCond .eq 26, 3) := by decide +kernel
theorem dX8_tokenEnd_7 : decode cX8_tokenEnd 7 = .ok (.iload_n 1, 1) := by decide +kernel
theorem dX8_tokenEnd_8 : decode cX8_tokenEnd 8 = .ok (.aload_n 0, 1) := by decide +kernel
theorem dX8_tokenEnd_9 : decode cX8_tokenEnd 9 = .ok (.getfield 7, 3) := by decide +kernel
theorem dX8_tokenEnd_12 : decode cX8_tokenEnd 12 = .ok (.invokevirtual 28, 3) := by decide +kernel
theorem dX8_tokenEnd_15 : decode cX8_tokenEnd 15 = .ok (.if_icmp .ge 15, 3) := by decide +kernel
theorem dX8_tokenEnd_18 : decode cX8_tokenEnd 18 = .ok (.aload_n 0, 1) := by decide +kernel
theorem dX8_tokenEnd_19 : decode cX8_tokenEnd 19 = .ok (.iload_n 1, 1) := by decide +kernel
theorem dX8_tokenEnd_20 : decode cX8_tokenEnd 20 = .ok (.invokevirtual 43, 3) := by decide +kernel
theorem dX8_tokenEnd_23 : decode cX8_tokenEnd 23 = .ok (.ifCond .eq 7, 3) := by decide +kernel
theorem dX8_tokenEnd_26 : decode cX8_tokenEnd 26 = .ok (.iload_n 1, 1) := by decide +kernel
theorem dX8_tokenEnd_27 : decode cX8_tokenEnd 27 = .ok (.iconst 1, 1) := by decide +kernel
theorem dX8_tokenEnd_28 : decode cX8_tokenEnd 28 = .ok (.iadd, 1) := by decide +kernel
theorem dX8_tokenEnd_29 : decode cX8_tokenEnd 29 = .ok (.ireturn, 1) := by decide +kernel
theorem dX8_tokenEnd_30 : decode cX8_tokenEnd 30 = .ok (.iload_n 1, 1) := by decide +kernel
theorem dX8_tokenEnd_31 : decode cX8_tokenEnd 31 = .ok (.istore_n 2, 1) := by decide +kernel
theorem dX8_tokenEnd_32 : decode cX8_tokenEnd 32 = .ok (.iload_n 2, 1) := by decide +kernel
theorem dX8_tokenEnd_33 : decode cX8_tokenEnd 33 = .ok (.aload_n 0, 1) := by decide +kernel
theorem dX8_tokenEnd_34 : decode cX8_tokenEnd 34 = .ok (.getfield 7, 3) := by decide +kernel
theorem dX8_tokenEnd_37 : decode cX8_tokenEnd 37 = .ok (.invokevirtual 28, 3) := by decide +kernel
theorem dX8_tokenEnd_40 : decode cX8_tokenEnd 40 = .ok (.if_icmp .ge 17, 3) := by decide +kernel
theorem dX8_tokenEnd_43 : decode cX8_tokenEnd 43 = .ok (.aload_n 0, 1) := by decide +kernel
theorem dX8_tokenEnd_44 : decode cX8_tokenEnd 44 = .ok (.iload_n 2, 1) := by decide +kernel
theorem dX8_tokenEnd_45 : decode cX8_tokenEnd 45 = .ok (.invokevirtual 43, 3) := by decide +kernel
theorem dX8_tokenEnd_48 : decode cX8_tokenEnd 48 = .ok (.ifCond .ne 9, 3) := by decide +kernel
theorem dX8_tokenEnd_51 : decode cX8_tokenEnd 51 = .ok (.iinc 2 1, 3) := by decide +kernel
theorem dX8_tokenEnd_54 : decode cX8_tokenEnd 54 = .ok (.goto (-22), 3) := by decide +kernel
theorem dX8_tokenEnd_57 : decode cX8_tokenEnd 57 = .ok (.iload_n 2, 1) := by decide +kernel
theorem dX8_tokenEnd_58 : decode cX8_tokenEnd 58 = .ok (.ireturn, 1) := by decide +kernel
set_option maxRecDepth 20000 in
theorem ggX8_isDelimiter_J0_length_8abf5 : GoodIn wsX8_isDelimiter wsJ0_length_8abf5 := goodIn_r _ [7, 8, 9, 10, 11, 6, 12, 13, 14, 120, 121, 122, 123] (by decide +kernel) (by decide +kernel)
set_option maxRecDepth 20000 in
theorem gX8_isDelimiter_J0_length_8abf5 : GoodIn wsX8_isDelimiter (wsV RX8 28 RJ0 yJ0_length_8abf5 wsJ0_length_8abf5) := goodIn_app (goodIn_of _ (by decide +kernel)) ggX8_isDelimiter_J0_length_8abf5
set_option maxRecDepth 20000 in
theorem ggX8_isDelimiter_X9_isWithin : GoodIn wsX8_isDelimiter wsX9_isWithin := goodIn_r _ [17] (by decide +kernel) (by decide +kernel)
set_option maxRecDepth 20000 in
theorem gX8_isDelimiter_X9_isWithin_n47 : GoodIn wsX8_isDelimiter (wsX9_isWithin) := ggX8_isDelimiter_X9_isWithin
set_option maxRecDepth 20000 in
theorem ggX8_isDelimiter_J0_charAt_5068e : GoodIn wsX8_isDelimiter wsJ0_charAt_5068e := goodIn_r _ [21, 8, 22, 23, 24, 6, 25, 13, 14, 26, 27, 28, 29, 30, 31, 32, 33, 34, 35, 36, 37, 38, 39, 40, 41, 42, 43, 44, 45, 46, 47, 48, 49, 50, 51, 52, 53, 54, 120, 121, 122, 123] (by decide +kernel) (by decide +kernel)
set_option maxRecDepth 20000 in
theorem gX8_isDelimiter_J0_charAt_5068e : GoodIn wsX8_isDelimiter (wsV RX8 53 RJ0 yJ0_charAt_5068e wsJ0_charAt_5068e) := goodIn_app (goodIn_of _ (by decide +kernel)) ggX8_isDelimiter_J0_charAt_5068e
set_option maxRecDepth 20000 in
theorem ggX8_isDelimiter_J0_indexOf_0f7a4 : GoodIn wsX8_isDelimiter wsJ0_indexOf_0f7a4 := goodIn_r _ [58, 59, 60, 61, 6, 62, 8, 22, 23, 24, 25, 13, 14, 63, 4, 5, 7, 9, 10, 11, 12, 64, 65, 28, 66, 67, 68, 69, 70, 71, 72, 73, 74, 75, 76, 77, 78, 79, 80, 81, 40, 82, 83, 84, 85, 86, 87, 88, 89, 90, 91, 45, 46, 47, 92, 93, 94, 33, 95, 96, 36, 97, 98, 99, 100, 49, 50, 51, 52, 53, 54, 101, 102, 103, 104, 105, 106, 107, 108, 109, 110, 111, 112, 113, 114, 115, 120, 121, 122, 123] (by decide +kernel) (by decide +kernel)
set_option maxRecDepth 20000 in
theorem gX8_isDelimiter_J0_indexOf_0f7a4 : GoodIn wsX8_isDelimiter (wsV RX8 57 RJ0 yJ0_indexOf_0f7a4 wsJ0_indexOf_0f7a4) := goodIn_app (goodIn_of _ (by decide +kernel)) ggX8_isDelimiter_J0_indexOf_0f7a4
theorem dX8_isDelimiter_0 : decode cX8_isDelimiter 0 = .ok (.iload_n 1, 1) := by decide +kernel
theorem dX8_isDelimiter_1 : decode cX8_isDelimiter 1 = .ok (.aload_n 0, 1) := by decide +kernel
theorem dX8_isDelimiter_2 : decode cX8_isDelimiter 2 = .ok (.getfield 7, 3) := by decide +kernel
theorem dX8_isDelimiter_5 : decode cX8_isDelimiter 5 = .ok (.invokevirtual 28, 3) := by decide +kernel
theorem dX8_isDelimiter_8 : decode cX8_isDelimiter 8 = .ok (.invokestatic 47, 3) := by decide +kernel
theorem dX8_isDelimiter_11 : decode cX8_isDelimiter 11 = .ok (.ifCond .eq 25, 3) := by decide +kernel
theorem dX8_isDelimiter_14 : decode cX8_isDelimiter 14 = .ok (.aload_n 0, 1) := by decide +kernel
theorem dX8_isDelimiter_15 : decode cX8_isDelimiter 15 = .ok (.getfield 13, 3) := by decide +kernel
theorem dX8_isDelimiter_18 : decode cX8_isDelimiter 18 = .ok (.aload_n 0, 1) := by decide +kernel
theorem dX8_isDelimiter_19 : decode cX8_isDelimiter 19 = .ok (.getfield 7, 3) := by decide +kernel
theorem dX8_isDelimiter_22 : decode cX8_isDelimiter 22 = .ok (.iload_n 1, 1) := by decide +kernel
theorem dX8_isDelimiter_23 : decode cX8_isDelimiter 23 = .ok (.invokevirtual 53, 3) := by decide +kernel
theorem dX8_isDelimiter_26 : decode cX8_isDelimiter 26 = .ok (.invokevirtual 57, 3) := by decide +kernel
theorem dX8_isDelimiter_29 : decode cX8_isDelimiter 29 = .ok (.ifCond .lt 7, 3) := by decide +kernel
theorem dX8_isDelimiter_32 : decode cX8_isDelimiter 32 = .ok (.iconst 1, 1) := by decide +kernel
theorem dX8_isDelimiter_33 : decode cX8_isDelimiter 33 = .ok (.goto 4, 3) := by decide +kernel
theorem dX8_isDelimiter_36 : decode cX8_isDelimiter 36 = .ok (.iconst 0, 1) := by decide +kernel
theorem dX8_isDelimiter_37 : decode cX8_isDelimiter 37 = .ok (.ireturn, 1) := by decide +kernel
set_option maxRecDepth 20000 in
theorem ggX9_init_X6_init : GoodIn wsX9_init wsX6_init := goodIn_r _ [28, 29, 2, 3] (by decide +kernel) (by decide +kernel)
set_option maxRecDepth 20000 in
theorem gX9_init_X6_init_n15 : GoodIn wsX9_init (wsX6_init) := ggX9_init_X6_init
set_option maxRecDepth 20000 in
theorem ggX9_init_X7_init : GoodIn wsX9_init wsX7_init := goodIn_r _ [31, 32, 2, 3, 33, 34, 35, 36, 37, 38, 39, 40, 41, 42, 43, 44, 45, 46, 47, 48, 49, 50, 51, 52, 53, 54, 55, 56, 57, 58, 59, 91, 92, 93, 94, 81, 82, 83, 84, 85, 86, 87] (by decide +kernel) (by decide +kernel)
set_option maxRecDepth 20000 in
theorem gX9_init_X7_init_n18 : GoodIn wsX9_init (wsX7_init) := ggX9_init_X7_init
set_option maxRecDepth 20000 in
theorem ggX9_init_X4_init : GoodIn wsX9_init wsX4_init := goodIn_r _ [62, 63, 2, 3, 64, 65, 17, 18, 66, 67, 68, 69, 70, 88, 89, 90] (by decide +kernel) (by decide +kernel)
set_option maxRecDepth 20000 in
theorem gX9_init_X4_init : GoodIn wsX9_init (wsX4_init) := ggX9_init_X4_init
set_option maxRecDepth 20000 in
theorem ggX9_init_X3_init : GoodIn wsX9_init wsX3_init := goodIn_r _ [67, 68, 2, 3, 69, 70, 89, 90] (by decide +kernel) (by decide +kernel)
set_option maxRecDepth 20000 in
theorem gX9_init_X3_init_n32 : GoodIn wsX9_init (wsX3_init) := ggX9_init_X3_init
theorem dX9_init_0 : decode cX9_init 0 = .ok (.aload_n 0, 1) := by decide +kernel
theorem dX9_init_1 : decode cX9_init 1 = .ok (.invokespecial 3, 3) := by decide +kernel
theorem dX9_init_4 : decode cX9_init 4 = .ok (.aload_n 0, 1) := by decide +kernel
theorem dX9_init_5 : decode cX9_init 5 = .ok (.bipush 6, 2) := by decide +kernel
theorem dX9_init_7 : decode cX9_init 7 = .ok (.anewarray 9, 3) := by decide +kernel
theorem dX9_init_10 : decode cX9_init 10 = .ok (.putfield 11, 3) := by decide +kernel
theorem dX9_init_13 : decode cX9_init 13 = .ok (.iconst 0, 1) := by decide +kernel
theorem dX9_init_14 : decode cX9_init 14 = .ok (.istore_n 1, 1) := by decide +kernel
theorem dX9_init_15 : decode cX9_init 15 = .ok (.iload_n 1, 1) := by decide +kernel
theorem dX9_init_16 : decode cX9_init 16 = .ok (.bipush 6, 2) := by decide +kernel
theorem dX9_init_18 : decode cX9_init 18 = .ok (.if_icmp .ge 22, 3) := by decide +kernel
theorem dX9_init_21 : decode cX9_init 21 = .ok (.aload_n 0, 1) := by decide +kernel
theorem dX9_init_22 : decode cX9_init 22 = .ok (.getfield 11, 3) := by decide +kernel
theorem dX9_init_25 : decode cX9_init 25 = .ok (.iload_n 1, 1) := by decide +kernel
theorem dX9_init_26 : decode cX9_init 26 = .ok (.new 9, 3) := by decide +kernel
theorem dX9_init_29 : decode cX9_init 29 = .ok (.dup, 1) := by decide +kernel
theorem dX9_init_30 : decode cX9_init 30 = .ok (.invokespecial 15, 3) := by decide +kernel
theorem dX9_init_33 : decode cX9_init 33 = .ok (.aastore, 1) := by decide +kernel
theorem dX9_init_34 : decode cX9_init 34 = .ok (.iinc 1 1, 3) := by decide +kernel
theorem dX9_init_37 : decode cX9_init 37 = .ok (.goto (-22), 3) := by decide +kernel
theorem dX9_init_40 : decode cX9_init 40 = .ok (.aload_n 0, 1) := by decide +kernel
theorem dX9_init_41 : decode cX9_init 41 = .ok (.new 16, 3) := by decide +kernel
theorem dX9_init_44 : decode cX9_init 44 = .ok (.dup, 1) := by decide +kernel
theorem dX9_init_45 : decode cX9_init 45 = .ok (.invokespecial 18, 3) := by decide +kernel
theorem dX9_init_48 : decode cX9_init 48 = .ok (.putfield 19, 3) := by decide +kernel
theorem dX9_init_51 : decode cX9_init 51 = .ok (.aload_n 0, 1) := by decide +kernel
theorem dX9_init_52 : decode cX9_init 52 = .ok (.new 23, 3) := by decide +kernel
theorem dX9_init_55 : decode cX9_init 55 = .ok (.dup, 1) := by decide +kernel
theorem dX9_init_56 : decode cX9_init 56 = .ok (.invokespecial 25, 3) := by decide +kernel
theorem dX9_init_59 : decode cX9_init 59 = .ok (.putfield 26, 3) := by decide +kernel
theorem dX9_init_62 : decode cX9_init 62 = .ok (.aload_n 0, 1) := by decide +kernel
theorem dX9_init_63 : decode cX9_init 63 = .ok (.new 30, 3) := by decide +kernel
theorem dX9_init_66 : decode cX9_init 66 = .ok (.dup, 1) := by decide +kernel
theorem dX9_init_67 : decode cX9_init 67 = .ok (.invokespecial 32, 3) := by decide +kernel
theorem dX9_init_70 : decode cX9_init 70 = .ok (.putfield 33, 3) := by decide +kernel
theorem dX9_init_73 : decode cX9_init 73 = .ok (.aload_n 0, 1) := by decide +kernel
theorem dX9_init_74 : decode cX9_init 74 = .ok (.iconst 2, 1) := by decide +kernel
theorem dX9_init_75 : decode cX9_init 75 = .ok (.anewarray 23, 3) := by decide +kernel
theorem dX9_init_78 : decode cX9_init 78 = .ok (.putfield 37, 3) := by decide +kernel
theorem dX9_init_81 : decode cX9_init 81 = .ok (.aload_n 0, 1) := by decide +kernel
theorem dX9_init_82 : decode cX9_init 82 = .ok (.iconst 2, 1) := by decide +kernel
theorem dX9_init_83 : decode cX9_init 83 = .ok (.anewarray 41, 3) := by decide +kernel
theorem dX9_init_86 : decode cX9_init 86 = .ok (.putfield 43, 3) := by decide +kernel
theorem dX9_init_89 : decode cX9_init 89 = .ok (.aload_n 0, 1) := by decide +kernel
theorem dX9_init_90 : decode cX9_init 90 = .ok (.iconst 3, 1) := by decide +kernel
theorem dX9_init_91 : decode cX9_init 91 = .ok (.anewarray 47, 3) := by decide +kernel
theorem dX9_init_94 : decode cX9_init 94 = .ok (.putfield 49, 3) := by decide +kernel
theorem dX9_init_97 : decode cX9_init 97 = .ok (.aload_n 0, 1) := by decide +kernel
theorem dX9_init_98 : decode cX9_init 98 = .ok (.iconst 0, 1) := by decide +kernel
theorem dX9_init_99 : decode cX9_init 99 = .ok (.putfield 53, 3) := by decide +kernel
theorem dX9_init_102 : decode cX9_init 102 = .ok (.aload_n 0, 1) := by decide +kernel
theorem dX9_init_103 : decode cX9_init 103 = .ok (.iconst 0, 1) := by decide +kernel
theorem dX9_init_104 : decode cX9_init 104 = .ok (.putfield 57, 3) := by decide +kernel
theorem dX9_init_107 : decode cX9_init 107 = .ok (.return_, 1) := by decide +kernel
set_option maxRecDepth 20000 in
theorem ggX9_erase_X9_slotAt : GoodIn wsX9_erase wsX9_slotAt := goodIn_r _ [5, 6, 7, 8, 4, 9, 26, 27, 28, 29, 30, 31, 32, 33, 34] (by decide +kernel) (by decide +kernel)
set_option maxRecDepth 20000 in
theorem gX9_erase_X9_slotAt : GoodIn wsX9_erase (wsV RX9 60 RX9 yX9_slotAt wsX9_slotAt) := goodIn_app (goodIn_of _ (by decide +kernel)) ggX9_erase_X9_slotAt
set_option maxRecDepth 20000 in
theorem ggX9_erase_X9_lengthOrNothing : GoodIn wsX9_erase wsX9_lengthOrNothing := goodIn_r _ [12, 13, 14, 15, 16, 17, 18, 19, 20, 21, 22, 23, 24, 35, 36, 37, 38] (by decide +kernel) (by decide +kernel)
set_option maxRecDepth 20000 in
theorem gX9_erase_X9_lengthOrNothing : GoodIn wsX9_erase (va_wsS RX9 68 yX9_lengthOrNothing wsX9_lengthOrNothing) := goodIn_app (goodIn_of _ (by decide +kernel)) ggX9_erase_X9_lengthOrNothing
theorem dX9_erase_0 : decode cX9_erase 0 = .ok (.aload_n 0, 1) := by decide +kernel
theorem dX9_erase_1 : decode cX9_erase 1 = .ok (.iload_n 1, 1) := by decide +kernel
theorem dX9_erase_2 : decode cX9_erase 2 = .ok (.invokevirtual 60, 3) := by decide +kernel
theorem dX9_erase_5 : decode cX9_erase 5 = .ok (.astore_n 2, 1) := by decide +kernel
theorem dX9_erase_6 : decode cX9_erase 6 = .ok (.aload_n 2, 1) := by decide +kernel
theorem dX9_erase_7 : decode cX9_erase 7 = .ok (.ifnonnull 5, 3) := by decide +kernel
theorem dX9_erase_10 : decode cX9_erase 10 = .ok (.iconst (-1), 1) := by decide +kernel
theorem dX9_erase_11 : decode cX9_erase 11 = .ok (.ireturn, 1) := by decide +kernel
theorem dX9_erase_12 : decode cX9_erase 12 = .ok (.aload_n 2, 1) := by decide +kernel
theorem dX9_erase_13 : decode cX9_erase 13 = .ok (.getfield 64, 3) := by decide +kernel
theorem dX9_erase_16 : decode cX9_erase 16 = .ok (.invokestatic 68, 3) := by decide +kernel
theorem dX9_erase_19 : decode cX9_erase 19 = .ok (.istore_n 3, 1) := by decide +kernel
theorem dX9_erase_20 : decode cX9_erase 20 = .ok (.aload_n 2, 1) := by decide +kernel
theorem dX9_erase_21 : decode cX9_erase 21 = .ok (.ldc 72, 2) := by decide +kernel
theorem dX9_erase_23 : decode cX9_erase 23 = .ok (.putfield 64, 3) := by decide +kernel
theorem dX9_erase_26 : decode cX9_erase 26 = .ok (.iload_n 3, 1) := by decide +kernel
theorem dX9_erase_27 : decode cX9_erase 27 = .ok (.ireturn, 1) := by decide +kernel
set_option maxRecDepth 20000 in
theorem ggX9_append_X9_slotAt : GoodIn wsX9_append wsX9_slotAt := goodIn_r _ [8, 9, 10, 11, 7, 12, 251, 252, 253, 254, 255, 256, 257, 258, 259] (by decide +kernel) (by decide +kernel)
set_option maxRecDepth 20000 in
theorem gX9_append_X9_slotAt : GoodIn wsX9_append (wsV RX9 60 RX9 yX9_slotAt wsX9_slotAt) := goodIn_app (goodIn_of _ (by decide +kernel)) ggX9_append_X9_slotAt
set_option maxRecDepth 20000 in
theorem ggX9_append_J0_length_8abf5 : GoodIn wsX9_append wsJ0_length_8abf5 := goodIn_r _ [17, 18, 19, 20, 21, 16, 22, 23, 24, 260, 261, 262, 263] (by decide +kernel) (by decide +kernel)
set_option maxRecDepth 20000 in
theorem gX9_append_J0_length_8abf5 : GoodIn wsX9_append (wsV RX9 74 RJ0 yJ0_length_8abf5 wsJ0_length_8abf5) := goodIn_app (goodIn_of _ (by decide +kernel)) ggX9_append_J0_length_8abf5
set_option maxRecDepth 20000 in
theorem ggX9_append_J4_init_da8c8 : GoodIn wsX9_append wsJ4_init_da8c8 := goodIn_r _ [27, 28, 29, 30, 31, 32, 33, 34, 35, 36, 37, 38, 39, 40, 41, 42, 43, 44, 45, 46, 247, 248, 249, 250] (by decide +kernel) (by decide +kernel)
set_option maxRecDepth 20000 in
theorem gX9_append_J4_init_da8c8 : GoodIn wsX9_append (wsJ4_init_da8c8) := ggX9_append_J4_init_da8c8
set_option maxRecDepth 20000 in
theorem ggX9_append_J4_append_15ec4 : GoodIn wsX9_append wsJ4_append_15ec4 := goodIn_r _ [50, 51, 52, 53, 54, 30, 55, 56, 57, 58, 59, 60, 61, 37, 62, 63, 64, 65, 66, 38, 67, 68, 69, 70, 71, 72, 73, 74, 75, 76, 77, 78, 79, 80, 81, 82, 83, 84, 85, 86, 87, 88, 89, 90, 91, 92, 93, 94, 36, 95, 96, 97, 98, 99, 100, 101, 102, 103, 104, 105, 106, 35, 107, 108, 41, 109, 110, 111, 112, 113, 114, 115, 116, 117, 118, 16, 119, 120, 121, 122, 123, 124, 125, 126, 127, 128, 129, 130, 14, 15, 17, 18, 19, 20, 21, 22, 23, 24, 131, 132, 133, 134, 135, 136, 137, 138, 139, 140, 141, 142, 143, 144, 145, 146, 39, 40, 42, 43, 44, 45, 46, 147, 148, 149, 150, 151, 152, 153, 154, 155, 156, 157, 158, 159, 160, 161, 162, 163, 164, 165, 166, 167, 168, 247, 248, 249, 250, 260, 261, 262, 263] (by decide +kernel) (by decide +kernel)
set_option maxRecDepth 20000 in
theorem gX9_append_J4_append_15ec4 : GoodIn wsX9_append (wsV RX9 83 RJ4 yJ4_append_15ec4 wsJ4_append_15ec4) := goodIn_app (goodIn_of _ (by decide +kernel)) ggX9_append_J4_append_15ec4
set_option maxRecDepth 20000 in
theorem ggX9_append_J4_append_cf468 : GoodIn wsX9_append wsJ4_append_cf468 := goodIn_r _ [172, 173, 174, 53, 175, 30, 176, 56, 37, 62, 63, 64, 65, 66, 38, 67, 68, 69, 70, 71, 72, 73, 74, 75, 76, 77, 78, 79, 80, 81, 82, 83, 84, 85, 86, 87, 88, 89, 90, 91, 92, 93, 94, 36, 95, 96, 97, 98, 99, 100, 101, 102, 103, 104, 105, 106, 35, 177, 178, 149, 179, 142, 143, 144, 145, 146, 39, 40, 41, 42, 43, 44, 45, 46, 147, 148, 150, 151, 152, 153, 154, 155, 156, 114, 115, 116, 157, 158, 16, 159, 120, 160, 161, 123, 162, 125, 126, 127, 110, 128, 129, 180, 181, 182, 183, 184, 185, 186, 187, 188, 189, 190, 191, 247, 248, 249, 250] (by decide +kernel) (by decide +kernel)
set_option maxRecDepth 20000 in
theorem gX9_append_J4_append_cf468 : GoodIn wsX9_append (wsV RX9 87 RJ4 yJ4_append_cf468 wsJ4_append_cf468) := goodIn_app (goodIn_of _ (by decide +kernel)) ggX9_append_J4_append_cf468
set_option maxRecDepth 20000 in
theorem ggX9_append_J4_toString_0e30d : GoodIn wsX9_append wsJ4_toString_0e30d := goodIn_r _ [195, 196, 197, 16, 198, 199, 200, 201, 202, 203, 204, 33, 34, 24, 18, 23, 205, 206, 207, 208, 209, 30, 210, 37, 211, 212, 213, 214, 215, 3, 216, 217, 53, 218, 219, 56, 220, 103, 104, 105, 106, 35, 38, 221, 222, 87, 223, 89, 90, 91, 92, 93, 94, 224, 225, 226, 36, 95, 96, 79, 97, 98, 99, 100, 101, 227, 228, 229, 230, 231, 41, 232, 233, 234, 235, 154, 155, 156, 114, 115, 116, 157, 158, 159, 120, 160, 161, 123, 162, 236, 237, 238, 110, 128, 129, 43, 44, 45, 46, 239, 240, 241, 242, 260, 261, 262, 263, 247, 248, 249, 250] (by decide +kernel) (by decide +kernel)
set_option maxRecDepth 20000 in
theorem gX9_append_J4_toString_0e30d : GoodIn wsX9_append (wsV RX9 90 RJ4 yJ4_toString_0e30d wsJ4_toString_0e30d) := goodIn_app (goodIn_of _ (by decide +kernel)) ggX9_append_J4_toString_0e30d
set_option maxRecDepth 20000 in
theorem ggX9_append_X9_putInto : GoodIn wsX9_append wsX9_putInto := goodIn_r _ [245, 13, 14, 15, 16, 17, 18, 19, 20, 21, 22, 23, 24, 246, 260, 261, 262, 263] (by decide +kernel) (by decide +kernel)
set_option maxRecDepth 20000 in
theorem gX9_append_X9_putInto : GoodIn wsX9_append (va_wsS RX9 94 yX9_putInto wsX9_putInto) := goodIn_app (goodIn_of _ (by decide +kernel)) ggX9_append_X9_putInto
theorem dX9_append_0 : decode cX9_append 0 = .ok (.aload_n 0, 1) := by decide +kernel
theorem dX9_append_1 : decode cX9_append 1 = .ok (.iload_n 1, 1) := by decide +kernel
theorem dX9_append_2 : decode cX9_append 2 = .ok (.invokevirtual 60, 3) := by decide +kernel
theorem dX9_append_5 : decode cX9_append 5 = .ok (.astore_n 3, 1) := by decide +kernel
theorem dX9_append_6 : decode cX9_append 6 = .ok (.aload_n 3, 1) := by decide +kernel
theorem dX9_append_7 : decode cX9_append 7 = .ok (.ifnull 14, 3) := by decide +kernel
theorem dX9_append_10 : decode cX9_append 10 = .ok (.iload_n 2, 1) := by decide +kernel
theorem dX9_append_11 : decode cX9_append 11 = .ok (.ifCond .lt 10, 3) := by decide +kernel
theorem dX9_append_14 : decode cX9_append 14 = .ok (.iload_n 2, 1) := by decide +kernel
theorem dX9_append_15 : decode cX9_append 15 = .ok (.sipush 255, 3) := by decide +kernel
theorem dX9_append_18 : decode cX9_append 18 = .ok (.if_icmp .le 5, 3) := by decide +kernel
theorem dX9_append_21 : decode cX9_append 21 = .ok (.iconst (-1), 1) := by decide +kernel
theorem dX9_append_22 : decode cX9_append 22 = .ok (.ireturn, 1) := by decide +kernel
theorem dX9_append_23 : decode cX9_append 23 = .ok (.aload_n 3, 1) := by decide +kernel
theorem dX9_append_24 : decode cX9_append 24 = .ok (.getfield 64, 3) := by decide +kernel
theorem dX9_append_27 : decode cX9_append 27 = .ok (.astore 4, 2) := by decide +kernel
theorem dX9_append_29 : decode cX9_append 29 = .ok (.aload 4, 2) := by decide +kernel
theorem dX9_append_31 : decode cX9_append 31 = .ok (.ifnonnull 6, 3) := by decide +kernel
theorem dX9_append_34 : decode cX9_append 34 = .ok (.bipush (-2), 2) := by decide +kernel
theorem dX9_append_36 : decode cX9_append 36 = .ok (.ireturn, 1) := by decide +kernel
theorem dX9_append_37 : decode cX9_append 37 = .ok (.aload 4, 2) := by decide +kernel
theorem dX9_append_39 : decode cX9_append 39 = .ok (.invokevirtual 74, 3) := by decide +kernel
theorem dX9_append_42 : decode cX9_append 42 = .ok (.sipush 300, 3) := by decide +kernel
theorem dX9_append_45 : decode cX9_append 45 = .ok (.if_icmp .lt 6, 3) := by decide +kernel
theorem dX9_append_48 : decode cX9_append 48 = .ok (.bipush (-3), 2) := by decide +kernel
theorem dX9_append_50 : decode cX9_append 50 = .ok (.ireturn, 1) := by decide +kernel
theorem dX9_append_51 : decode cX9_append 51 = .ok (.new 80, 3) := by decide +kernel
theorem dX9_append_54 : decode cX9_append 54 = .ok (.dup, 1) := by decide +kernel
theorem dX9_append_55 : decode cX9_append 55 = .ok (.invokespecial 82, 3) := by decide +kernel
theorem dX9_append_58 : decode cX9_append 58 = .ok (.astore 5, 2) := by decide +kernel
theorem dX9_append_60 : decode cX9_append 60 = .ok (.aload 5, 2) := by decide +kernel
theorem dX9_append_62 : decode cX9_append 62 = .ok (.aload 4, 2) := by decide +kernel
theorem dX9_append_64 : decode cX9_append 64 = .ok (.invokevirtual 83, 3) := by decide +kernel
theorem dX9_append_67 : decode cX9_append 67 = .ok (.pop, 1) := by decide +kernel
theorem dX9_append_68 : decode cX9_append 68 = .ok (.aload 5, 2) := by decide +kernel
theorem dX9_append_70 : decode cX9_append 70 = .ok (.iload_n 2, 1) := by decide +kernel
theorem dX9_append_71 : decode cX9_append 71 = .ok (.i2c, 1) := by decide +kernel
theorem dX9_append_72 : decode cX9_append 72 = .ok (.invokevirtual 87, 3) := by decide +kernel
theorem dX9_append_75 : decode cX9_append 75 = .ok (.pop, 1) := by decide +kernel
theorem dX9_append_76 : decode cX9_append 76 = .ok (.aload_n 3, 1) := by decide +kernel
theorem dX9_append_77 : decode cX9_append 77 = .ok (.aload 5, 2) := by decide +kernel
theorem dX9_append_79 : decode cX9_append 79 = .ok (.invokevirtual 90, 3) := by decide +kernel
theorem dX9_append_82 : decode cX9_append 82 = .ok (.invokestatic 94, 3) := by decide +kernel
theorem dX9_append_85 : decode cX9_append 85 = .ok (.ireturn, 1) := by decide +kernel
set_option maxRecDepth 20000 in
theorem ggX9_length_X9_slotAt : GoodIn wsX9_length wsX9_slotAt := goodIn_r _ [5, 6, 7, 8, 4, 9, 26, 27, 28, 29, 30, 31, 32, 33, 34] (by decide +kernel) (by decide +kernel)
set_option maxRecDepth 20000 in
theorem gX9_length_X9_slotAt : GoodIn wsX9_length (wsV RX9 60 RX9 yX9_slotAt wsX9_slotAt) := goodIn_app (goodIn_of _ (by decide +kernel)) ggX9_length_X9_slotAt
set_option maxRecDepth 20000 in
theorem ggX9_length_X9_lengthOrNothing : GoodIn wsX9_length wsX9_lengthOrNothing := goodIn_r _ [12, 13, 14, 15, 16, 17, 18, 19, 20, 21, 22, 23, 24, 35, 36, 37, 38] (by decide +kernel) (by decide +kernel)
set_option maxRecDepth 20000 in
theorem gX9_length_X9_lengthOrNothing : GoodIn wsX9_length (va_wsS RX9 68 yX9_lengthOrNothing wsX9_lengthOrNothing) := goodIn_app (goodIn_of _ (by decide +kernel)) ggX9_length_X9_lengthOrNothing
theorem dX9_length_0 : decode cX9_length 0 = .ok (.aload_n 0, 1) := by decide +kernel
theorem dX9_length_1 : decode cX9_length 1 = .ok (.iload_n 1, 1) := by decide +kernel
theorem dX9_length_2 : decode cX9_length 2 = .ok (.invokevirtual 60, 3) := by decide +kernel
theorem dX9_length_5 : decode cX9_length 5 = .ok (.astore_n 2, 1) := by decide +kernel
theorem dX9_length_6 : decode cX9_length 6 = .ok (.aload_n 2, 1) := by decide +kernel
theorem dX9_length_7 : decode cX9_length 7 = .ok (.ifnonnull 5, 3) := by decide +kernel
theorem dX9_length_10 : decode cX9_length 10 = .ok (.iconst (-1), 1) := by decide +kernel
theorem dX9_length_11 : decode cX9_length 11 = .ok (.ireturn, 1) := by decide +kernel
theorem dX9_length_12 : decode cX9_length 12 = .ok (.aload_n 2, 1) := by decide +kernel
theorem dX9_length_13 : decode cX9_length 13 = .ok (.getfield 64, 3) := by decide +kernel
theorem dX9_length_16 : decode cX9_length 16 = .ok (.invokestatic 68, 3) := by decide +kernel
theorem dX9_length_19 : decode cX9_length 19 = .ok (.ireturn, 1) := by decide +kernel
set_option maxRecDepth 20000 in
theorem ggX9_characterAt_X9_slotAt : GoodIn wsX9_characterAt wsX9_slotAt := goodIn_r _ [5, 6, 7, 8, 4, 9, 60, 61, 62, 63, 64, 65, 66, 67, 68] (by decide +kernel) (by decide +kernel)
set_option maxRecDepth 20000 in
theorem gX9_characterAt_X9_slotAt : GoodIn wsX9_characterAt (wsV RX9 60 RX9 yX9_slotAt wsX9_slotAt) := goodIn_app (goodIn_of _ (by decide +kernel)) ggX9_characterAt_X9_slotAt
set_option maxRecDepth 20000 in
theorem ggX9_characterAt_J0_length_8abf5 : GoodIn wsX9_characterAt wsJ0_length_8abf5 := goodIn_r _ [14, 15, 16, 17, 18, 13, 19, 20, 21, 69, 70, 71, 72] (by decide +kernel) (by decide +kernel)
set_option maxRecDepth 20000 in
theorem gX9_characterAt_J0_length_8abf5 : GoodIn wsX9_characterAt (wsV RX9 74 RJ0 yJ0_length_8abf5 wsJ0_length_8abf5) := goodIn_app (goodIn_of _ (by decide +kernel)) ggX9_characterAt_J0_length_8abf5
set_option maxRecDepth 20000 in
theorem ggX9_characterAt_J0_charAt_5068e : GoodIn wsX9_characterAt wsJ0_charAt_5068e := goodIn_r _ [25, 15, 26, 27, 28, 13, 29, 20, 21, 30, 31, 32, 33, 34, 35, 36, 37, 38, 39, 40, 41, 42, 43, 44, 45, 46, 47, 48, 49, 50, 51, 52, 53, 54, 55, 56, 57, 58, 69, 70, 71, 72] (by decide +kernel) (by decide +kernel)
set_option maxRecDepth 20000 in
theorem gX9_characterAt_J0_charAt_5068e : GoodIn wsX9_characterAt (wsV RX9 98 RJ0 yJ0_charAt_5068e wsJ0_charAt_5068e) := goodIn_app (goodIn_of _ (by decide +kernel)) ggX9_characterAt_J0_charAt_5068e
theorem dX9_characterAt_0 : decode cX9_characterAt 0 = .ok (.aload_n 0, 1) := by decide +kernel
theorem dX9_characterAt_1 : decode cX9_characterAt 1 = .ok (.iload_n 1, 1) := by decide +kernel
theorem dX9_characterAt_2 : decode cX9_characterAt 2 = .ok (.invokevirtual 60, 3) := by decide +kernel
theorem dX9_characterAt_5 : decode cX9_characterAt 5 = .ok (.astore_n 3, 1) := by decide +kernel
theorem dX9_characterAt_6 : decode cX9_characterAt 6 = .ok (.aload_n 3, 1) := by decide +kernel
theorem dX9_characterAt_7 : decode cX9_characterAt 7 = .ok (.ifnonnull 5, 3) := by decide +kernel
theorem dX9_characterAt_10 : decode cX9_characterAt 10 = .ok (.iconst (-1), 1) := by decide +kernel
theorem dX9_characterAt_11 : decode cX9_characterAt 11 = .ok (.ireturn, 1) := by decide +kernel
theorem dX9_characterAt_12 : decode cX9_characterAt 12 = .ok (.aload_n 3, 1) := by decide +kernel
theorem dX9_characterAt_13 : decode cX9_characterAt 13 = .ok (.getfield 64, 3) := by decide +kernel
theorem dX9_characterAt_16 : decode cX9_characterAt 16 = .ok (.astore 4, 2) := by decide +kernel
theorem dX9_characterAt_18 : decode cX9_characterAt 18 = .ok (.aload 4, 2) := by decide +kernel
theorem dX9_characterAt_20 : decode cX9_characterAt 20 = .ok (.ifnonnull 6, 3) := by decide +kernel
theorem dX9_characterAt_23 : decode cX9_characterAt 23 = .ok (.bipush (-2), 2) := by decide +kernel
theorem dX9_characterAt_25 : decode cX9_characterAt 25 = .ok (.ireturn, 1) := by decide +kernel
theorem dX9_characterAt_26 : decode cX9_characterAt 26 = .ok (.iload_n 2, 1) := by decide +kernel
theorem dX9_characterAt_27 : decode cX9_characterAt 27 = .ok (.ifCond .lt 12, 3) := by decide +kernel
theorem dX9_characterAt_30 : decode cX9_characterAt 30 = .ok (.iload_n 2, 1) := by decide +kernel
theorem dX9_characterAt_31 : decode cX9_characterAt 31 = .ok (.aload 4, 2) := by decide +kernel
theorem dX9_characterAt_33 : decode cX9_characterAt 33 = .ok (.invokevirtual 74, 3) := by decide +kernel
theorem dX9_characterAt_36 : decode cX9_characterAt 36 = .ok (.if_icmp .lt 6, 3) := by decide +kernel
theorem dX9_characterAt_39 : decode cX9_characterAt 39 = .ok (.bipush (-5), 2) := by decide +kernel
theorem dX9_characterAt_41 : decode cX9_characterAt 41 = .ok (.ireturn, 1) := by decide +kernel
theorem dX9_characterAt_42 : decode cX9_characterAt 42 = .ok (.aload 4, 2) := by decide +kernel
theorem dX9_characterAt_44 : decode cX9_characterAt 44 = .ok (.iload_n 2, 1) := by decide +kernel
theorem dX9_characterAt_45 : decode cX9_characterAt 45 = .ok (.invokevirtual 98, 3) := by decide +kernel
theorem dX9_characterAt_48 : decode cX9_characterAt 48 = .ok (.ireturn, 1) := by decide +kernel
set_option maxRecDepth 20000 in
theorem ggX9_same_X9_slotAt : GoodIn wsX9_same wsX9_slotAt := goodIn_r _ [5, 6, 7, 8, 4, 9, 24, 25, 26, 27, 28, 29, 30, 31, 32] (by decide +kernel) (by decide +kernel)
set_option maxRecDepth 20000 in
theorem gX9_same_X9_slotAt : GoodIn wsX9_same (wsV RX9 60 RX9 yX9_slotAt wsX9_slotAt) := goodIn_app (goodIn_of _ (by decide +kernel)) ggX9_same_X9_slotAt
set_option maxRecDepth 20000 in
theorem ggX9_same_J0_equals_9ea2d : GoodIn wsX9_same wsJ0_equals_9ea2d := goodIn_r _ [14, 15, 16, 17, 18, 19, 20, 21, 22, 33, 34, 35, 36] (by decide +kernel) (by decide +kernel)
set_option maxRecDepth 20000 in
theorem gX9_same_J0_equals_9ea2d : GoodIn wsX9_same (wsV RX9 102 RJ0 yJ0_equals_9ea2d wsJ0_equals_9ea2d) := goodIn_app (goodIn_of _ (by decide +kernel)) ggX9_same_J0_equals_9ea2d
theorem dX9_same_0 : decode cX9_same 0 = .ok (.aload_n 0, 1) := by decide +kernel
theorem dX9_same_1 : decode cX9_same 1 = .ok (.iload_n 1, 1) := by decide +kernel
theorem dX9_same_2 : decode cX9_same 2 = .ok (.invokevirtual 60, 3) := by decide +kernel
theorem dX9_same_5 : decode cX9_same 5 = .ok (.astore_n 3, 1) := by decide +kernel
theorem dX9_same_6 : decode cX9_same 6 = .ok (.aload_n 0, 1) := by decide +kernel
theorem dX9_same_7 : decode cX9_same 7 = .ok (.iload_n 2, 1) := by decide +kernel
theorem dX9_same_8 : decode cX9_same 8 = .ok (.invokevirtual 60, 3) := by decide +kernel
theorem dX9_same_11 : decode cX9_same 11 = .ok (.astore 4, 2) := by decide +kernel
theorem dX9_same_13 : decode cX9_same 13 = .ok (.aload_n 3, 1) := by decide +kernel
theorem dX9_same_14 : decode cX9_same 14 = .ok (.ifnull 8, 3) := by decide +kernel
theorem dX9_same_17 : decode cX9_same 17 = .ok (.aload 4, 2) := by decide +kernel
theorem dX9_same_19 : decode cX9_same 19 = .ok (.ifnonnull 5, 3) := by decide +kernel
theorem dX9_same_22 : decode cX9_same 22 = .ok (.iconst (-1), 1) := by decide +kernel
theorem dX9_same_23 : decode cX9_same 23 = .ok (.ireturn, 1) := by decide +kernel
theorem dX9_same_24 : decode cX9_same 24 = .ok (.aload_n 3, 1) := by decide +kernel
theorem dX9_same_25 : decode cX9_same 25 = .ok (.getfield 64, 3) := by decide +kernel
theorem dX9_same_28 : decode cX9_same 28 = .ok (.ifnull 11, 3) := by decide +kernel
theorem dX9_same_31 : decode cX9_same 31 = .ok (.aload 4, 2) := by decide +kernel
theorem dX9_same_33 : decode cX9_same 33 = .ok (.getfield 64, 3) := by decide +kernel
theorem dX9_same_36 : decode cX9_same 36 = .ok (.ifnonnull 24, 3) := by decide +kernel
theorem dX9_same_39 : decode cX9_same 39 = .ok (.aload_n 3, 1) := by decide +kernel
theorem dX9_same_40 : decode cX9_same 40 = .ok (.getfield 64, 3) := by decide +kernel
theorem dX9_same_43 : decode cX9_same 43 = .ok (.ifnonnull 15, 3) := by decide +kernel
theorem dX9_same_46 : decode cX9_same 46 = .ok (.aload 4, 2) := by decide +kernel
theorem dX9_same_48 : decode cX9_same 48 = .ok (.getfield 64, 3) := by decide +kernel
theorem dX9_same_51 : decode cX9_same 51 = .ok (.ifnonnull 7, 3) := by decide +kernel
theorem dX9_same_54 : decode cX9_same 54 = .ok (.iconst 1, 1) := by decide +kernel
theorem dX9_same_55 : decode cX9_same 55 = .ok (.goto 4, 3) := by decide +kernel
theorem dX9_same_58 : decode cX9_same 58 = .ok (.iconst 0, 1) := by decide +kernel
theorem dX9_same_59 : decode cX9_same 59 = .ok (.ireturn, 1) := by decide +kernel
theorem dX9_same_60 : decode cX9_same 60 = .ok (.aload_n 3, 1) := by decide +kernel
theorem dX9_same_61 : decode cX9_same 61 = .ok (.getfield 64, 3) := by decide +kernel
theorem dX9_same_64 : decode cX9_same 64 = .ok (.aload 4, 2) := by decide +kernel
theorem dX9_same_66 : decode cX9_same 66 = .ok (.getfield 64, 3) := by decide +kernel
theorem dX9_same_69 : decode cX9_same 69 = .ok (.invokevirtual 102, 3) := by decide +kernel
theorem dX9_same_72 : decode cX9_same 72 = .ok (.ifCond .eq 7, 3) := by decide +kernel
theorem dX9_same_75 : decode cX9_same 75 = .ok (.iconst 1, 1) := by decide +kernel
theorem dX9_same_76 : decode cX9_same 76 = .ok (.goto 4, 3) := by decide +kernel
theorem dX9_same_79 : decode cX9_same 79 = .ok (.iconst 0, 1) := by decide +kernel
theorem dX9_same_80 : decode cX9_same 80 = .ok (.ireturn, 1) := by decide +kernel
set_option maxRecDepth 20000 in
theorem ggX9_type_X9_isTyped : GoodIn wsX9_type wsX9_isTyped := goodIn_r _ [5, 6, 7, 4, 8] (by decide +kernel) (by decide +kernel)
set_option maxRecDepth 20000 in
theorem gX9_type_X9_isTyped : GoodIn wsX9_type (va_wsS RX9 106 yX9_isTyped wsX9_isTyped) := goodIn_app (goodIn_of _ (by decide +kernel)) ggX9_type_X9_isTyped
set_option maxRecDepth 20000 in
theorem ggX9_type_J4_length_8abf5 : GoodIn wsX9_type wsJ4_length_8abf5 := goodIn_r _ [13, 14, 15, 16, 17, 18, 19, 20, 150, 151, 152, 153] (by decide +kernel) (by decide +kernel)
set_option maxRecDepth 20000 in
theorem gX9_type_J4_length_8abf5 : GoodIn wsX9_type (wsV RX9 114 RJ4 yJ4_length_8abf5 wsJ4_length_8abf5) := goodIn_app (goodIn_of _ (by decide +kernel)) ggX9_type_J4_length_8abf5
set_option maxRecDepth 20000 in
theorem ggX9_type_J4_append_cf468 : GoodIn wsX9_type wsJ4_append_cf468 := goodIn_r _ [24, 25, 26, 16, 27, 18, 28, 20, 29, 30, 31, 32, 33, 34, 35, 36, 37, 38, 39, 40, 41, 42, 43, 44, 45, 46, 47, 48, 49, 50, 51, 52, 53, 54, 55, 56, 57, 58, 59, 60, 61, 62, 63, 64, 65, 66, 67, 68, 69, 70, 71, 72, 73, 74, 75, 76, 77, 78, 79, 80, 81, 82, 83, 84, 85, 86, 87, 88, 89, 90, 91, 92, 93, 94, 95, 96, 97, 98, 99, 100, 101, 102, 103, 104, 105, 106, 107, 108, 109, 110, 111, 112, 113, 114, 115, 116, 117, 118, 119, 120, 121, 122, 123, 124, 125, 126, 127, 128, 129, 130, 131, 132, 133, 150, 151, 152, 153] (by decide +kernel) (by decide +kernel)
set_option maxRecDepth 20000 in
theorem gX9_type_J4_append_cf468 : GoodIn wsX9_type (wsV RX9 87 RJ4 yJ4_append_cf468 wsJ4_append_cf468) := goodIn_app (goodIn_of _ (by decide +kernel)) ggX9_type_J4_append_cf468
theorem dX9_type_0 : decode cX9_type 0 = .ok (.iload_n 1, 1) := by decide +kernel
theorem dX9_type_1 : decode cX9_type 1 = .ok (.invokestatic 106, 3) := by decide +kernel
theorem dX9_type_4 : decode cX9_type 4 = .ok (.ifCond .ne 5, 3) := by decide +kernel
theorem dX9_type_7 : decode cX9_type 7 = .ok (.iconst (-1), 1) := by decide +kernel
theorem dX9_type_8 : decode cX9_type 8 = .ok (.ireturn, 1) := by decide +kernel
theorem dX9_type_9 : decode cX9_type 9 = .ok (.aload_n 0, 1) := by decide +kernel
theorem dX9_type_10 : decode cX9_type 10 = .ok (.getfield 19, 3) := by decide +kernel
theorem dX9_type_13 : decode cX9_type 13 = .ok (.getfield 110, 3) := by decide +kernel
theorem dX9_type_16 : decode cX9_type 16 = .ok (.invokevirtual 114, 3) := by decide +kernel
theorem dX9_type_19 : decode cX9_type 19 = .ok (.sipush 300, 3) := by decide +kernel
theorem dX9_type_22 : decode cX9_type 22 = .ok (.if_icmp .lt 6, 3) := by decide +kernel
theorem dX9_type_25 : decode cX9_type 25 = .ok (.bipush (-3), 2) := by decide +kernel
theorem dX9_type_27 : decode cX9_type 27 = .ok (.ireturn, 1) := by decide +kernel
theorem dX9_type_28 : decode cX9_type 28 = .ok (.aload_n 0, 1) := by decide +kernel
theorem dX9_type_29 : decode cX9_type 29 = .ok (.getfield 19, 3) := by decide +kernel
theorem dX9_type_32 : decode cX9_type 32 = .ok (.getfield 110, 3) := by decide +kernel
theorem dX9_type_35 : decode cX9_type 35 = .ok (.iload_n 1, 1) := by decide +kernel
theorem dX9_type_36 : decode cX9_type 36 = .ok (.i2c, 1) := by decide +kernel
theorem dX9_type_37 : decode cX9_type 37 = .ok (.invokevirtual 87, 3) := by decide +kernel
theorem dX9_type_40 : decode cX9_type 40 = .ok (.pop, 1) := by decide +kernel
theorem dX9_type_41 : decode cX9_type 41 = .ok (.aload_n 0, 1) := by decide +kernel
theorem dX9_type_42 : decode cX9_type 42 = .ok (.getfield 19, 3) := by decide +kernel
theorem dX9_type_45 : decode cX9_type 45 = .ok (.getfield 110, 3) := by decide +kernel
theorem dX9_type_48 : decode cX9_type 48 = .ok (.invokevirtual 114, 3) := by decide +kernel
theorem dX9_type_51 : decode cX9_type 51 = .ok (.ireturn, 1) := by decide +kernel
set_option maxRecDepth 20000 in
theorem ggX9_tapeLength_J4_length_8abf5 : GoodIn wsX9_tapeLength wsJ4_length_8abf5 := goodIn_r _ [6, 7, 8, 9, 10, 11, 12, 13, 30, 31, 32, 33] (by decide +kernel) (by decide +kernel)
set_option maxRecDepth 20000 in
theorem gX9_tapeLength_J4_length_8abf5 : GoodIn wsX9_tapeLength (wsV RX9 114 RJ4 yJ4_length_8abf5 wsJ4_length_8abf5) := goodIn_app (goodIn_of _ (by decide +kernel)) ggX9_tapeLength_J4_length_8abf5
theorem dX9_tapeLength_0 : decode cX9_tapeLength 0 = .ok (.aload_n 0, 1) := by decide +kernel
theorem dX9_tapeLength_1 : decode cX9_tapeLength 1 = .ok (.getfield 19, 3) := by decide +kernel
theorem dX9_tapeLength_4 : decode cX9_tapeLength 4 = .ok (.getfield 110, 3) := by decide +kernel
theorem dX9_tapeLength_7 : decode cX9_tapeLength 7 = .ok (.invokevirtual 114, 3) := by decide +kernel
theorem dX9_tapeLength_10 : decode cX9_tapeLength 10 = .ok (.ireturn, 1) := by decide +kernel
set_option maxRecDepth 20000 in
theorem ggX9_wipe_J4_length_8abf5 : GoodIn wsX9_wipe wsJ4_length_8abf5 := goodIn_r _ [6, 7, 8, 9, 10, 11, 12, 13, 103, 104, 105, 106] (by decide +kernel) (by decide +kernel)
set_option maxRecDepth 20000 in
theorem gX9_wipe_J4_length_8abf5 : GoodIn wsX9_wipe (wsV RX9 114 RJ4 yJ4_length_8abf5 wsJ4_length_8abf5) := goodIn_app (goodIn_of _ (by decide +kernel)) ggX9_wipe_J4_length_8abf5
set_option maxRecDepth 20000 in
theorem ggX9_wipe_J4_setLength_d00df : GoodIn wsX9_wipe wsJ4_setLength_d00df := goodIn_r _ [17, 18, 19, 9, 20, 11, 21, 13, 22, 23, 24, 25, 26, 27, 28, 29, 30, 31, 32, 33, 34, 35, 36, 37, 38, 39, 40, 41, 42, 43, 44, 45, 46, 47, 48, 49, 50, 51, 52, 53, 54, 55, 56, 57, 58, 59, 60, 61, 62, 63, 64, 65, 66, 67, 68, 69, 70, 71, 72, 73, 74, 75, 76, 77, 78, 79, 80, 81, 82, 83, 84, 85, 86, 103, 104, 105, 106] (by decide +kernel) (by decide +kernel)
set_option maxRecDepth 20000 in
theorem gX9_wipe_J4_setLength_d00df : GoodIn wsX9_wipe (wsV RX9 116 RJ4 yJ4_setLength_d00df wsJ4_setLength_d00df) := goodIn_app (goodIn_of _ (by decide +kernel)) ggX9_wipe_J4_setLength_d00df
theorem dX9_wipe_0 : decode cX9_wipe 0 = .ok (.aload_n 0, 1) := by decide +kernel
theorem dX9_wipe_1 : decode cX9_wipe 1 = .ok (.getfield 19, 3) := by decide +kernel
theorem dX9_wipe_4 : decode cX9_wipe 4 = .ok (.getfield 110, 3) := by decide +kernel
theorem dX9_wipe_7 : decode cX9_wipe 7 = .ok (.invokevirtual 114, 3) := by decide +kernel
theorem dX9_wipe_10 : decode cX9_wipe 10 = .ok (.istore_n 1, 1) := by decide +kernel
theorem dX9_wipe_11 : decode cX9_wipe 11 = .ok (.aload_n 0, 1) := by decide +kernel
theorem dX9_wipe_12 : decode cX9_wipe 12 = .ok (.getfield 19, 3) := by decide +kernel
theorem dX9_wipe_15 : decode cX9_wipe 15 = .ok (.getfield 110, 3) := by decide +kernel
theorem dX9_wipe_18 : decode cX9_wipe 18 = .ok (.iconst 0, 1) := by decide +kernel
theorem dX9_wipe_19 : decode cX9_wipe 19 = .ok (.invokevirtual 116, 3) := by decide +kernel
theorem dX9_wipe_22 : decode cX9_wipe 22 = .ok (.iload_n 1, 1) := by decide +kernel
theorem dX9_wipe_23 : decode cX9_wipe 23 = .ok (.ireturn, 1) := by decide +kernel
set_option maxRecDepth 20000 in
theorem ggX9_load_X4_layerAt : GoodIn wsX9_load wsX4_layerAt := goodIn_r _ [8, 9, 10, 11, 12, 385] (by decide +kernel) (by decide +kernel)
set_option maxRecDepth 20000 in
theorem gX9_load_X4_layerAt : GoodIn wsX9_load (wsV RX9 120 RX4 yX4_layerAt wsX4_layerAt) := goodIn_app (goodIn_of _ (by decide +kernel)) ggX9_load_X4_layerAt
set_option maxRecDepth 20000 in
theorem ggX9_load_X9_firstBrokenPlace : GoodIn wsX9_load wsX9_firstBrokenPlace := goodIn_r _ [16, 3, 17, 18, 19, 20, 21, 22, 23, 24, 25, 26, 27, 28, 29, 30, 31, 32, 33, 34, 35, 36, 37, 38, 39, 40, 41, 42, 43, 44, 45, 46, 47, 48, 49, 50, 51, 52, 53, 54, 55, 56, 57, 58, 59, 60, 61, 62, 63, 64, 65, 66, 67, 68, 69, 70, 71, 72, 73, 74, 75, 76, 77, 78, 79, 80, 81, 82, 83, 84, 85, 86, 87, 88, 89, 90, 11, 91, 92, 93, 94, 95, 96, 97, 98, 99, 100, 101, 102, 103, 104, 105, 106, 107, 108, 109, 110, 111, 112, 113, 114, 115, 116, 117, 118, 119, 120, 121, 122, 123, 124, 125, 126, 127, 128, 129, 130, 131, 132, 133, 134, 135, 136, 137, 138, 139, 140, 141, 142, 143, 144, 145, 146, 147, 148, 149, 150, 151, 152, 153, 154, 155, 156, 157, 158, 159, 160, 161, 162, 163, 164, 165, 166, 167, 168, 169, 170, 171, 172, 173, 174, 175, 176, 177, 178, 179, 180, 181, 182, 183, 184, 185, 186, 187, 188, 189, 190, 191, 192, 193, 194, 195, 196, 197, 198, 199, 200, 201, 202, 203, 204, 205, 206, 207, 208, 209, 210, 211, 212, 213, 214, 215, 216, 217, 218, 219, 220, 221, 222, 223, 224, 225, 226, 227, 228, 229, 230, 231, 232, 233, 234, 235, 236, 237, 238, 239, 240, 241, 242, 243, 244, 245, 246, 247, 248, 249, 250, 251, 252, 253, 254, 255, 256, 257, 376, 377, 378, 379, 380, 381, 382, 383, 384, 386, 387, 388, 389, 390, 391, 392, 393, 394, 395, 396] (by decide +kernel) (by decide +kernel)
set_option maxRecDepth 20000 in
theorem gX9_load_X9_firstBrokenPlace : GoodIn wsX9_load (wsV RX9 124 RX9 yX9_firstBrokenPlace wsX9_firstBrokenPlace) := goodIn_app (goodIn_of _ (by decide +kernel)) ggX9_load_X9_firstBrokenPlace
set_option maxRecDepth 20000 in
theorem ggX9_load_X3_takeAll : GoodIn wsX9_load wsX3_takeAll := goodIn_r _ [262, 263, 264, 397, 398] (by decide +kernel) (by decide +kernel)
set_option maxRecDepth 20000 in
theorem gX9_load_X3_takeAll : GoodIn wsX9_load (wsV RX9 127 RX3 yX3_takeAll wsX3_takeAll) := goodIn_app (goodIn_of _ (by decide +kernel)) ggX9_load_X3_takeAll
set_option maxRecDepth 20000 in
theorem ggX9_load_X7_rewind : GoodIn wsX9_load wsX7_rewind := goodIn_r _ [21, 22, 23, 386, 387, 388, 389, 390, 391, 392] (by decide +kernel) (by decide +kernel)
set_option maxRecDepth 20000 in
theorem gX9_load_X7_rewind : GoodIn wsX9_load (wsV RX9 131 RX7 yX7_rewind wsX7_rewind) := goodIn_app (goodIn_of _ (by decide +kernel)) ggX9_load_X7_rewind
set_option maxRecDepth 20000 in
theorem ggX9_load_X7_readEntry : GoodIn wsX9_load wsX7_readEntry := goodIn_r _ [27, 23, 22, 28, 29, 30, 31, 32, 33, 34, 35, 36, 37, 38, 39, 40, 41, 42, 43, 20, 44, 45, 46, 47, 48, 49, 50, 51, 52, 53, 54, 55, 56, 57, 58, 59, 60, 61, 62, 63, 64, 65, 66, 67, 68, 69, 70, 71, 72, 73, 74, 75, 76, 77, 78, 79, 80, 81, 82, 83, 84, 85, 86, 87, 88, 89, 90, 11, 91, 92, 93, 94, 95, 96, 97, 98, 99, 100, 101, 102, 103, 104, 105, 106, 107, 108, 109, 110, 111, 112, 113, 114, 115, 116, 117, 118, 119, 120, 121, 122, 386, 387, 388, 389, 390, 391, 392, 393, 394, 395, 396] (by decide +kernel) (by decide +kernel)
set_option maxRecDepth 20000 in
theorem gX9_load_X7_readEntry : GoodIn wsX9_load (wsV RX9 134 RX7 yX7_readEntry wsX7_readEntry) := goodIn_app (goodIn_of _ (by decide +kernel)) ggX9_load_X7_readEntry
set_option maxRecDepth 20000 in
theorem ggX9_load_X7_keyText : GoodIn wsX9_load wsX7_keyText := goodIn_r _ [268, 106, 131, 127, 128, 129, 20, 130, 132, 133, 134, 32, 135, 136, 137, 36, 138, 38, 139, 40, 62, 140, 141, 142, 143, 144, 145, 61, 146, 147, 148, 149, 150, 151, 152, 153, 154, 155, 156, 157, 65, 158, 159, 160, 161, 162, 163, 164, 165, 166, 167, 168, 169, 170, 171, 172, 173, 174, 64, 66, 175, 176, 177, 178, 179, 180, 181, 182, 183, 184, 185, 186, 187, 188, 189, 190, 191, 192, 193, 194, 195, 196, 78, 197, 198, 108, 109, 110, 111, 112, 113, 114, 115, 23, 100, 49, 50, 51, 52, 28, 29, 30, 31, 33, 34, 35, 37, 39, 53, 54, 55, 56, 57, 58, 59, 60, 63, 67, 68, 69, 70, 71, 72, 73, 74, 75, 76, 77, 79, 80, 81, 82, 83, 84, 85, 199, 200, 201, 202, 203, 204, 205, 206, 207, 208, 209, 210, 211, 212, 213, 214, 215, 216, 217, 218, 219, 220, 221, 222, 223, 224, 225, 226, 227, 228, 229, 230, 231, 232, 233, 234, 235, 236, 237, 238, 239, 240, 241, 242, 243, 244, 245, 246, 247, 248, 249, 250, 251, 252, 253, 254, 255, 256, 257, 269, 270, 271, 272, 273, 274, 275, 276, 277, 278, 279, 280, 281, 282, 283, 284, 285, 286, 287, 288, 289, 290, 291, 292, 293, 294, 295, 296, 297, 298, 299, 300, 301, 302, 303, 304, 305, 306, 307, 308, 309, 310, 311, 312, 313, 314, 315, 316, 386, 387, 388, 389, 390, 391, 392, 393, 394, 395, 396, 399, 400, 401, 402] (by decide +kernel) (by decide +kernel)
set_option maxRecDepth 20000 in
theorem gX9_load_X7_keyText : GoodIn wsX9_load (wsV RX9 138 RX7 yX7_keyText wsX7_keyText) := goodIn_app (goodIn_of _ (by decide +kernel)) ggX9_load_X7_keyText
set_option maxRecDepth 20000 in
theorem ggX9_load_X7_valueText : GoodIn wsX9_load wsX7_valueText := goodIn_r _ [320, 107, 23, 131, 127, 128, 129, 20, 130, 132, 133, 134, 32, 135, 136, 137, 36, 138, 38, 139, 40, 62, 140, 141, 142, 143, 144, 145, 61, 146, 147, 148, 149, 150, 151, 152, 153, 154, 155, 156, 157, 65, 158, 159, 160, 161, 162, 163, 164, 165, 166, 167, 168, 169, 170, 171, 172, 173, 174, 64, 66, 175, 176, 177, 178, 179, 180, 181, 182, 183, 184, 185, 186, 187, 188, 189, 190, 191, 192, 193, 194, 195, 196, 78, 197, 198, 108, 109, 110, 111, 112, 113, 114, 115, 100, 49, 50, 51, 52, 28, 29, 30, 31, 33, 34, 35, 37, 39, 53, 54, 55, 56, 57, 58, 59, 60, 63, 67, 68, 69, 70, 71, 72, 73, 74, 75, 76, 77, 79, 80, 81, 82, 83, 84, 85, 199, 200, 201, 202, 203, 204, 205, 206, 207, 208, 209, 210, 211, 212, 213, 214, 215, 216, 217, 218, 219, 220, 221, 222, 223, 224, 225, 226, 227, 228, 229, 230, 231, 232, 233, 234, 235, 236, 237, 238, 239, 240, 241, 242, 243, 244, 245, 246, 247, 248, 249, 250, 251, 252, 253, 254, 255, 256, 257, 269, 270, 271, 272, 273, 274, 275, 276, 277, 278, 279, 280, 281, 282, 283, 284, 285, 286, 287, 288, 289, 290, 291, 292, 293, 294, 295, 296, 297, 298, 299, 300, 301, 302, 303, 304, 305, 306, 307, 308, 309, 310, 311, 312, 313, 314, 315, 316, 386, 387, 388, 389, 390, 391, 392, 393, 394, 395, 396, 399, 400, 401, 402] (by decide +kernel) (by decide +kernel)
set_option maxRecDepth 20000 in
theorem gX9_load_X7_valueText : GoodIn wsX9_load (wsV RX9 141 RX7 yX7_valueText wsX7_valueText) := goodIn_app (goodIn_of _ (by decide +kernel)) ggX9_load_X7_valueText
set_option maxRecDepth 20000 in
theorem ggX9_load_X3_put : GoodIn wsX9_load wsX3_put := goodIn_r _ [324, 263, 264, 325, 326, 327, 328, 329, 330, 261, 331, 332, 333, 334, 335, 10, 11, 12, 336, 337, 338, 64, 65, 66, 339, 340, 341, 69, 342, 285, 343, 344, 345, 346, 286, 284, 347, 348, 349, 350, 351, 352, 353, 354, 355, 356, 187, 357, 358, 68, 70, 71, 72, 73, 74, 75, 359, 360, 78, 361, 243, 244, 245, 83, 84, 85, 246, 312, 77, 79, 80, 81, 82, 362, 363, 364, 365, 366, 367, 368, 369, 370, 371, 372, 373, 282, 283, 374, 375, 403, 404, 397, 398, 399, 400, 401, 402] (by decide +kernel) (by decide +kernel)
set_option maxRecDepth 20000 in
theorem gX9_load_X3_put : GoodIn wsX9_load (wsV RX9 144 RX3 yX3_put wsX3_put) := goodIn_app (goodIn_of _ (by decide +kernel)) ggX9_load_X3_put
theorem dX9_load_0 : decode cX9_load 0 = .ok (.aload_n 0, 1) := by decide +kernel
theorem dX9_load_1 : decode cX9_load 1 = .ok (.getfield 26, 3) := by decide +kernel
theorem dX9_load_4 : decode cX9_load 4 = .ok (.iload_n 1, 1) := by decide +kernel
theorem dX9_load_5 : decode cX9_load 5 = .ok (.invokevirtual 120, 3) := by decide +kernel
theorem dX9_load_8 : decode cX9_load 8 = .ok (.astore_n 2, 1) := by decide +kernel
theorem dX9_load_9 : decode cX9_load 9 = .ok (.aload_n 2, 1) := by decide +kernel
theorem dX9_load_10 : decode cX9_load 10 = .ok (.ifnonnull 5, 3) := by decide +kernel
theorem dX9_load_13 : decode cX9_load 13 = .ok (.iconst (-1), 1) := by decide +kernel
theorem dX9_load_14 : decode cX9_load 14 = .ok (.ireturn, 1) := by decide +kernel
theorem dX9_load_15 : decode cX9_load 15 = .ok (.aload_n 0, 1) := by decide +kernel
theorem dX9_load_16 : decode cX9_load 16 = .ok (.invokevirtual 124, 3) := by decide +kernel
theorem dX9_load_19 : decode cX9_load 19 = .ok (.bipush (-5), 2) := by decide +kernel
theorem dX9_load_21 : decode cX9_load 21 = .ok (.if_icmp .eq 6, 3) := by decide +kernel
theorem dX9_load_24 : decode cX9_load 24 = .ok (.bipush (-6), 2) := by decide +kernel
theorem dX9_load_26 : decode cX9_load 26 = .ok (.ireturn, 1) := by decide +kernel
theorem dX9_load_27 : decode cX9_load 27 = .ok (.aload_n 0, 1) := by decide +kernel
theorem dX9_load_28 : decode cX9_load 28 = .ok (.getfield 33, 3) := by decide +kernel
theorem dX9_load_31 : decode cX9_load 31 = .ok (.aload_n 2, 1) := by decide +kernel
theorem dX9_load_32 : decode cX9_load 32 = .ok (.invokevirtual 127, 3) := by decide +kernel
theorem dX9_load_35 : decode cX9_load 35 = .ok (.iconst 0, 1) := by decide +kernel
theorem dX9_load_36 : decode cX9_load 36 = .ok (.istore_n 3, 1) := by decide +kernel
theorem dX9_load_37 : decode cX9_load 37 = .ok (.aload_n 0, 1) := by decide +kernel
theorem dX9_load_38 : decode cX9_load 38 = .ok (.getfield 19, 3) := by decide +kernel
theorem dX9_load_41 : decode cX9_load 41 = .ok (.invokevirtual 131, 3) := by decide +kernel
theorem dX9_load_44 : decode cX9_load 44 = .ok (.iload_n 3, 1) := by decide +kernel
theorem dX9_load_45 : decode cX9_load 45 = .ok (.sipush 300, 3) := by decide +kernel
theorem dX9_load_48 : decode cX9_load 48 = .ok (.if_icmp .gt 46, 3) := by decide +kernel
theorem dX9_load_51 : decode cX9_load 51 = .ok (.aload_n 0, 1) := by decide +kernel
theorem dX9_load_52 : decode cX9_load 52 = .ok (.getfield 19, 3) := by decide +kernel
theorem dX9_load_55 : decode cX9_load 55 = .ok (.invokevirtual 134, 3) := by decide +kernel
theorem dX9_load_58 : decode cX9_load 58 = .ok (.ifCond .eq 36, 3) := by decide +kernel
theorem dX9_load_61 : decode cX9_load 61 = .ok (.aload_n 0, 1) := by decide +kernel
theorem dX9_load_62 : decode cX9_load 62 = .ok (.getfield 33, 3) := by decide +kernel
theorem dX9_load_65 : decode cX9_load 65 = .ok (.aload_n 0, 1) := by decide +kernel
theorem dX9_load_66 : decode cX9_load 66 = .ok (.getfield 19, 3) := by decide +kernel
theorem dX9_load_69 : decode cX9_load 69 = .ok (.invokevirtual 138, 3) := by decide +kernel
theorem dX9_load_72 : decode cX9_load 72 = .ok (.aload_n 0, 1) := by decide +kernel
theorem dX9_load_73 : decode cX9_load 73 = .ok (.getfield 19, 3) := by decide +kernel
theorem dX9_load_76 : decode cX9_load 76 = .ok (.invokevirtual 141, 3) := by decide +kernel
theorem dX9_load_79 : decode cX9_load 79 = .ok (.invokevirtual 144, 3) := by decide +kernel
theorem dX9_load_82 : decode cX9_load 82 = .ok (.ifCond .ne 6, 3) := by decide +kernel
theorem dX9_load_85 : decode cX9_load 85 = .ok (.bipush (-3), 2) := by decide +kernel
theorem dX9_load_87 : decode cX9_load 87 = .ok (.ireturn, 1) := by decide +kernel
theorem dX9_load_88 : decode cX9_load 88 = .ok (.iinc 3 1, 3) := by decide +kernel
theorem dX9_load_91 : decode cX9_load 91 = .ok (.goto (-47), 3) := by decide +kernel
theorem dX9_load_94 : decode cX9_load 94 = .ok (.aload_n 2, 1) := by decide +kernel
theorem dX9_load_95 : decode cX9_load 95 = .ok (.aload_n 0, 1) := by decide +kernel
theorem dX9_load_96 : decode cX9_load 96 = .ok (.getfield 33, 3) := by decide +kernel
theorem dX9_load_99 : decode cX9_load 99 = .ok (.invokevirtual 127, 3) := by decide +kernel
theorem dX9_load_102 : decode cX9_load 102 = .ok (.iload_n 3, 1) := by decide +kernel
theorem dX9_load_103 : decode cX9_load 103 = .ok (.ireturn, 1) := by decide +kernel
set_option maxRecDepth 20000 in
theorem ggX9_brokenAt_X9_firstBrokenPlace : GoodIn wsX9_brokenAt wsX9_firstBrokenPlace := goodIn_r _ [5, 6, 7, 8, 9, 10, 11, 12, 13, 14, 15, 16, 17, 18, 19, 20, 21, 22, 23, 24, 25, 26, 27, 28, 29, 30, 31, 32, 33, 34, 35, 36, 37, 38, 39, 40, 41, 42, 43, 44, 45, 46, 47, 48, 49, 50, 51, 52, 53, 54, 55, 56, 57, 58, 59, 60, 61, 62, 63, 64, 65, 66, 67, 68, 69, 70, 71, 72, 73, 74, 75, 76, 77, 78, 79, 80, 4, 81, 82, 83, 84, 85, 86, 87, 88, 89, 90, 91, 92, 93, 94, 95, 96, 97, 98, 99, 100, 101, 102, 103, 104, 105, 106, 107, 108, 109, 110, 111, 112, 113, 114, 115, 116, 117, 118, 119, 120, 121, 122, 123, 124, 125, 126, 127, 128, 129, 130, 131, 132, 133, 134, 135, 136, 137, 138, 139, 140, 141, 142, 143, 144, 145, 146, 147, 148, 149, 150, 151, 152, 153, 154, 155, 156, 157, 158, 159, 160, 161, 162, 163, 164, 165, 166, 167, 168, 169, 170, 171, 172, 173, 174, 175, 176, 177, 178, 179, 180, 181, 182, 183, 184, 185, 186, 187, 188, 189, 190, 191, 192, 193, 194, 195, 196, 197, 198, 199, 200, 201, 202, 203, 204, 205, 206, 207, 208, 209, 210, 211, 212, 213, 214, 215, 216, 217, 218, 219, 220, 221, 222, 223, 224, 225, 226, 227, 228, 229, 230, 231, 232, 233, 234, 235, 236, 237, 238, 239, 240, 241, 242, 243, 244, 245, 246, 247, 248, 249, 250, 251, 252, 253, 254, 255, 256, 257, 258, 259, 260, 261, 262, 263, 264, 265, 266, 267] (by decide +kernel) (by decide +kernel)
set_option maxRecDepth 20000 in
theorem gX9_brokenAt_X9_firstBrokenPlace : GoodIn wsX9_brokenAt (wsV RX9 124 RX9 yX9_firstBrokenPlace wsX9_firstBrokenPlace) := goodIn_app (goodIn_of _ (by decide +kernel)) ggX9_brokenAt_X9_firstBrokenPlace
theorem dX9_brokenAt_0 : decode cX9_brokenAt 0 = .ok (.aload_n 0, 1) := by decide +kernel
theorem dX9_brokenAt_1 : decode cX9_brokenAt 1 = .ok (.invokevirtual 124, 3) := by decide +kernel
theorem dX9_brokenAt_4 : decode cX9_brokenAt 4 = .ok (.ireturn, 1) := by decide +kernel
set_option maxRecDepth 20000 in
theorem ggX9_write_X4_layerAt : GoodIn wsX9_write wsX4_layerAt := goodIn_r _ [7, 8, 9, 10, 11, 232] (by decide +kernel) (by decide +kernel)
set_option maxRecDepth 20000 in
theorem gX9_write_X4_layerAt : GoodIn wsX9_write (wsV RX9 120 RX4 yX4_layerAt wsX4_layerAt) := goodIn_app (goodIn_of _ (by decide +kernel)) ggX9_write_X4_layerAt
set_option maxRecDepth 20000 in
theorem ggX9_write_X3_writtenLength : GoodIn wsX9_write wsX3_writtenLength := goodIn_r _ [16, 17, 18, 19, 20, 15, 21, 22, 9, 10, 11, 23, 24, 25, 26, 27, 28, 29, 30, 31, 32, 33, 34, 35, 36, 37, 38, 39, 40, 41, 42, 43, 44, 45, 46, 47, 48, 49, 50, 51, 52, 53, 54, 55, 56, 57, 58, 59, 60, 61, 62, 63, 64, 65, 66, 67, 68, 69, 70, 71, 72, 73, 74, 75, 76, 77, 78, 79, 80, 233, 234, 235, 236, 237, 238, 239, 240] (by decide +kernel) (by decide +kernel)
set_option maxRecDepth 20000 in
theorem gX9_write_X3_writtenLength : GoodIn wsX9_write (wsV RX9 148 RX3 yX3_writtenLength wsX3_writtenLength) := goodIn_app (goodIn_of _ (by decide +kernel)) ggX9_write_X3_writtenLength
set_option maxRecDepth 20000 in
theorem ggX9_write_J4_setLength_d00df : GoodIn wsX9_write wsJ4_setLength_d00df := goodIn_r _ [85, 86, 87, 88, 89, 90, 91, 92, 93, 94, 95, 96, 97, 98, 99, 100, 101, 102, 103, 104, 105, 106, 107, 108, 109, 110, 111, 112, 113, 114, 115, 116, 117, 118, 119, 120, 121, 122, 123, 124, 125, 126, 127, 128, 129, 130, 131, 132, 133, 134, 135, 136, 137, 138, 139, 140, 141, 142, 143, 144, 49, 145, 146, 147, 148, 149, 150, 151, 152, 153, 61, 154, 155, 241, 242, 243, 244] (by decide +kernel) (by decide +kernel)
set_option maxRecDepth 20000 in
theorem gX9_write_J4_setLength_d00df : GoodIn wsX9_write (wsV RX9 116 RJ4 yJ4_setLength_d00df wsJ4_setLength_d00df) := goodIn_app (goodIn_of _ (by decide +kernel)) ggX9_write_J4_setLength_d00df
set_option maxRecDepth 20000 in
theorem ggX9_write_X3_writeOnto : GoodIn wsX9_write wsX3_writeOnto := goodIn_r _ [159, 17, 18, 19, 20, 15, 21, 22, 9, 10, 11, 160, 161, 25, 162, 27, 28, 29, 30, 31, 32, 33, 34, 35, 36, 37, 38, 39, 40, 41, 42, 43, 44, 45, 46, 47, 48, 49, 50, 51, 52, 53, 54, 55, 56, 57, 58, 59, 60, 61, 62, 63, 64, 65, 66, 67, 68, 69, 70, 71, 72, 73, 74, 75, 76, 77, 78, 163, 164, 165, 84, 166, 167, 168, 88, 169, 90, 170, 92, 93, 95, 96, 97, 98, 99, 100, 101, 102, 103, 104, 105, 106, 107, 108, 109, 110, 111, 112, 113, 114, 115, 116, 117, 118, 119, 120, 121, 122, 123, 124, 125, 126, 127, 128, 129, 130, 131, 132, 133, 134, 135, 136, 137, 138, 139, 140, 141, 142, 171, 172, 173, 174, 175, 176, 177, 178, 179, 180, 181, 182, 183, 184, 185, 186, 187, 188, 189, 190, 191, 192, 193, 194, 195, 196, 197, 198, 199, 200, 201, 202, 203, 204, 205, 206, 79, 80, 207, 233, 234, 235, 236, 237, 238, 239, 240, 241, 242, 243, 244] (by decide +kernel) (by decide +kernel)
set_option maxRecDepth 20000 in
theorem gX9_write_X3_writeOnto : GoodIn wsX9_write (wsV RX9 151 RX3 yX3_writeOnto wsX3_writeOnto) := goodIn_app (goodIn_of _ (by decide +kernel)) ggX9_write_X3_writeOnto
set_option maxRecDepth 20000 in
theorem ggX9_write_J4_length_8abf5 : GoodIn wsX9_write wsJ4_length_8abf5 := goodIn_r _ [211, 212, 213, 88, 214, 90, 215, 92, 241, 242, 243, 244] (by decide +kernel) (by decide +kernel)
set_option maxRecDepth 20000 in
theorem gX9_write_J4_length_8abf5 : GoodIn wsX9_write (wsV RX9 114 RJ4 yJ4_length_8abf5 wsJ4_length_8abf5) := goodIn_app (goodIn_of _ (by decide +kernel)) ggX9_write_J4_length_8abf5
theorem dX9_write_0 : decode cX9_write 0 = .ok (.aload_n 0, 1) := by decide +kernel
theorem dX9_write_1 : decode cX9_write 1 = .ok (.getfield 26, 3) := by decide +kernel
theorem dX9_write_4 : decode cX9_write 4 = .ok (.iload_n 1, 1) := by decide +kernel
theorem dX9_write_5 : decode cX9_write 5 = .ok (.invokevirtual 120, 3) := by decide +kernel
theorem dX9_write_8 : decode cX9_write 8 = .ok (.astore_n 2, 1) := by decide +kernel
theorem dX9_write_9 : decode cX9_write 9 = .ok (.aload_n 2, 1) := by decide +kernel
theorem dX9_write_10 : decode cX9_write 10 = .ok (.ifnonnull 5, 3) := by decide +kernel
theorem dX9_write_13 : decode cX9_write 13 = .ok (.iconst (-1), 1) := by decide +kernel
theorem dX9_write_14 : decode cX9_write 14 = .ok (.ireturn, 1) := by decide +kernel
theorem dX9_write_15 : decode cX9_write 15 = .ok (.aload_n 2, 1) := by decide +kernel
theorem dX9_write_16 : decode cX9_write 16 = .ok (.invokevirtual 148, 3) := by decide +kernel
theorem dX9_write_19 : decode cX9_write 19 = .ok (.sipush 300, 3) := by decide +kernel
theorem dX9_write_22 : decode cX9_write 22 = .ok (.if_icmp .le 6, 3) := by decide +kernel
theorem dX9_write_25 : decode cX9_write 25 = .ok (.bipush (-3), 2) := by decide +kernel
theorem dX9_write_27 : decode cX9_write 27 = .ok (.ireturn, 1) := by decide +kernel
theorem dX9_write_28 : decode cX9_write 28 = .ok (.aload_n 0, 1) := by decide +kernel
theorem dX9_write_29 : decode cX9_write 29 = .ok (.getfield 19, 3) := by decide +kernel
theorem dX9_write_32 : decode cX9_write 32 = .ok (.getfield 110, 3) := by decide +kernel
theorem dX9_write_35 : decode cX9_write 35 = .ok (.iconst 0, 1) := by decide +kernel
theorem dX9_write_36 : decode cX9_write 36 = .ok (.invokevirtual 116, 3) := by decide +kernel
theorem dX9_write_39 : decode cX9_write 39 = .ok (.aload_n 2, 1) := by decide +kernel
theorem dX9_write_40 : decode cX9_write 40 = .ok (.aload_n 0, 1) := by decide +kernel
theorem dX9_write_41 : decode cX9_write 41 = .ok (.getfield 19, 3) := by decide +kernel
theorem dX9_write_44 : decode cX9_write 44 = .ok (.getfield 110, 3) := by decide +kernel
theorem dX9_write_47 : decode cX9_write 47 = .ok (.invokevirtual 151, 3) := by decide +kernel
theorem dX9_write_50 : decode cX9_write 50 = .ok (.aload_n 0, 1) := by decide +kernel
theorem dX9_write_51 : decode cX9_write 51 = .ok (.getfield 19, 3) := by decide +kernel
theorem dX9_write_54 : decode cX9_write 54 = .ok (.getfield 110, 3) := by decide +kernel
theorem dX9_write_57 : decode cX9_write 57 = .ok (.invokevirtual 114, 3) := by decide +kernel
theorem dX9_write_60 : decode cX9_write 60 = .ok (.ireturn, 1) := by decide +kernel
set_option maxRecDepth 20000 in
theorem ggX9_get_X9_slotAt : GoodIn wsX9_get wsX9_slotAt := goodIn_r _ [6, 7, 8, 9, 5, 10, 112, 113, 114, 115, 116, 117, 118, 119, 120] (by decide +kernel) (by decide +kernel)
set_option maxRecDepth 20000 in
theorem gX9_get_X9_slotAt : GoodIn wsX9_get (wsV RX9 60 RX9 yX9_slotAt wsX9_slotAt) := goodIn_app (goodIn_of _ (by decide +kernel)) ggX9_get_X9_slotAt
set_option maxRecDepth 20000 in
theorem ggX9_get_X4_layerAt : GoodIn wsX9_get wsX4_layerAt := goodIn_r _ [15, 16, 9, 5, 10, 122] (by decide +kernel) (by decide +kernel)
set_option maxRecDepth 20000 in
theorem gX9_get_X4_layerAt : GoodIn wsX9_get (wsV RX9 120 RX4 yX4_layerAt wsX4_layerAt) := goodIn_app (goodIn_of _ (by decide +kernel)) ggX9_get_X4_layerAt
set_option maxRecDepth 20000 in
theorem ggX9_get_X9_refuseNull : GoodIn wsX9_get wsX9_refuseNull := goodIn_r _ [20, 21, 112, 113, 114, 115, 116, 117, 118, 119, 120] (by decide +kernel) (by decide +kernel)
set_option maxRecDepth 20000 in
theorem gX9_get_X9_refuseNull : GoodIn wsX9_get (wsV RX9 155 RX9 yX9_refuseNull wsX9_refuseNull) := goodIn_app (goodIn_of _ (by decide +kernel)) ggX9_get_X9_refuseNull
set_option maxRecDepth 20000 in
theorem ggX9_get_X4_lookUp : GoodIn wsX9_get wsX4_lookUp := goodIn_r _ [25, 26, 27, 28, 14, 29, 30, 12, 13, 15, 16, 9, 5, 10, 31, 32, 33, 34, 35, 36, 37, 38, 39, 40, 41, 42, 43, 44, 45, 46, 47, 48, 49, 50, 51, 52, 53, 54, 55, 56, 57, 58, 59, 60, 61, 62, 63, 64, 65, 66, 67, 68, 69, 70, 71, 72, 73, 74, 75, 76, 77, 78, 79, 80, 81, 82, 83, 84, 85, 86, 87, 88, 89, 90, 91, 92, 93, 94, 95, 96, 97, 98, 99, 100, 101, 102, 103, 104, 105, 106, 107, 108, 122, 123, 124, 125, 126, 127, 128, 129, 130] (by decide +kernel) (by decide +kernel)
set_option maxRecDepth 20000 in
theorem gX9_get_X4_lookUp : GoodIn wsX9_get (wsV RX9 158 RX4 yX4_lookUp wsX4_lookUp) := goodIn_app (goodIn_of _ (by decide +kernel)) ggX9_get_X4_lookUp
set_option maxRecDepth 20000 in
theorem ggX9_get_X9_putInto : GoodIn wsX9_get wsX9_putInto := goodIn_r _ [111, 52, 53, 54, 55, 56, 57, 58, 59, 60, 61, 62, 63, 121, 127, 128, 129, 130] (by decide +kernel) (by decide +kernel)
set_option maxRecDepth 20000 in
theorem gX9_get_X9_putInto : GoodIn wsX9_get (va_wsS RX9 94 yX9_putInto wsX9_putInto) := goodIn_app (goodIn_of _ (by decide +kernel)) ggX9_get_X9_putInto
theorem dX9_get_0 : decode cX9_get 0 = .ok (.aload_n 0, 1) := by decide +kernel
theorem dX9_get_1 : decode cX9_get 1 = .ok (.iload_n 2, 1) := by decide +kernel
theorem dX9_get_2 : decode cX9_get 2 = .ok (.invokevirtual 60, 3) := by decide +kernel
theorem dX9_get_5 : decode cX9_get 5 = .ok (.astore 4, 2) := by decide +kernel
theorem dX9_get_7 : decode cX9_get 7 = .ok (.aload_n 0, 1) := by decide +kernel
theorem dX9_get_8 : decode cX9_get 8 = .ok (.iload_n 3, 1) := by decide +kernel
theorem dX9_get_9 : decode cX9_get 9 = .ok (.invokevirtual 60, 3) := by decide +kernel
theorem dX9_get_12 : decode cX9_get 12 = .ok (.astore 5, 2) := by decide +kernel
theorem dX9_get_14 : decode cX9_get 14 = .ok (.aload_n 0, 1) := by decide +kernel
theorem dX9_get_15 : decode cX9_get 15 = .ok (.getfield 26, 3) := by decide +kernel
theorem dX9_get_18 : decode cX9_get 18 = .ok (.iload_n 1, 1) := by decide +kernel
theorem dX9_get_19 : decode cX9_get 19 = .ok (.invokevirtual 120, 3) := by decide +kernel
theorem dX9_get_22 : decode cX9_get 22 = .ok (.ifnull 13, 3) := by decide +kernel
theorem dX9_get_25 : decode cX9_get 25 = .ok (.aload 4, 2) := by decide +kernel
theorem dX9_get_27 : decode cX9_get 27 = .ok (.ifnull 8, 3) := by decide +kernel
theorem dX9_get_30 : decode cX9_get 30 = .ok (.aload 5, 2) := by decide +kernel
theorem dX9_get_32 : decode cX9_get 32 = .ok (.ifnonnull 5, 3) := by decide +kernel
theorem dX9_get_35 : decode cX9_get 35 = .ok (.iconst (-1), 1) := by decide +kernel
theorem dX9_get_36 : decode cX9_get 36 = .ok (.ireturn, 1) := by decide +kernel
theorem dX9_get_37 : decode cX9_get 37 = .ok (.aload 4, 2) := by decide +kernel
theorem dX9_get_39 : decode cX9_get 39 = .ok (.getfield 64, 3) := by decide +kernel
theorem dX9_get_42 : decode cX9_get 42 = .ok (.ifnonnull 8, 3) := by decide +kernel
theorem dX9_get_45 : decode cX9_get 45 = .ok (.aload_n 0, 1) := by decide +kernel
theorem dX9_get_46 : decode cX9_get 46 = .ok (.invokevirtual 155, 3) := by decide +kernel
theorem dX9_get_49 : decode cX9_get 49 = .ok (.ireturn, 1) := by decide +kernel
theorem dX9_get_50 : decode cX9_get 50 = .ok (.aload_n 0, 1) := by decide +kernel
theorem dX9_get_51 : decode cX9_get 51 = .ok (.getfield 26, 3) := by decide +kernel
theorem dX9_get_54 : decode cX9_get 54 = .ok (.iload_n 1, 1) := by decide +kernel
theorem dX9_get_55 : decode cX9_get 55 = .ok (.aload 4, 2) := by decide +kernel
theorem dX9_get_57 : decode cX9_get 57 = .ok (.getfield 64, 3) := by decide +kernel
theorem dX9_get_60 : decode cX9_get 60 = .ok (.invokevirtual 158, 3) := by decide +kernel
theorem dX9_get_63 : decode cX9_get 63 = .ok (.astore 6, 2) := by decide +kernel
theorem dX9_get_65 : decode cX9_get 65 = .ok (.aload 6, 2) := by decide +kernel
theorem dX9_get_67 : decode cX9_get 67 = .ok (.ifnonnull 6, 3) := by decide +kernel
theorem dX9_get_70 : decode cX9_get 70 = .ok (.bipush (-5), 2) := by decide +kernel
theorem dX9_get_72 : decode cX9_get 72 = .ok (.ireturn, 1) := by decide +kernel
theorem dX9_get_73 : decode cX9_get 73 = .ok (.aload 5, 2) := by decide +kernel
theorem dX9_get_75 : decode cX9_get 75 = .ok (.aload 6, 2) := by decide +kernel
theorem dX9_get_77 : decode cX9_get 77 = .ok (.invokestatic 94, 3) := by decide +kernel
theorem dX9_get_80 : decode cX9_get 80 = .ok (.ireturn, 1) := by decide +kernel
set_option maxRecDepth 20000 in
theorem ggX9_has_X4_layerAt : GoodIn wsX9_has wsX4_layerAt := goodIn_r _ [6, 7, 8, 9, 10, 110] (by decide +kernel) (by decide +kernel)
set_option maxRecDepth 20000 in
theorem gX9_has_X4_layerAt : GoodIn wsX9_has (wsV RX9 120 RX4 yX4_layerAt wsX4_layerAt) := goodIn_app (goodIn_of _ (by decide +kernel)) ggX9_has_X4_layerAt
set_option maxRecDepth 20000 in
theorem ggX9_has_X9_slotAt : GoodIn wsX9_has wsX9_slotAt := goodIn_r _ [14, 15, 16, 8, 9, 10, 100, 101, 102, 103, 104, 105, 106, 107, 108] (by decide +kernel) (by decide +kernel)
set_option maxRecDepth 20000 in
theorem gX9_has_X9_slotAt : GoodIn wsX9_has (wsV RX9 60 RX9 yX9_slotAt wsX9_slotAt) := goodIn_app (goodIn_of _ (by decide +kernel)) ggX9_has_X9_slotAt
set_option maxRecDepth 20000 in
theorem ggX9_has_X9_refuseNull : GoodIn wsX9_has wsX9_refuseNull := goodIn_r _ [20, 21, 100, 101, 102, 103, 104, 105, 106, 107, 108] (by decide +kernel) (by decide +kernel)
set_option maxRecDepth 20000 in
theorem gX9_has_X9_refuseNull : GoodIn wsX9_has (wsV RX9 155 RX9 yX9_refuseNull wsX9_refuseNull) := goodIn_app (goodIn_of _ (by decide +kernel)) ggX9_has_X9_refuseNull
set_option maxRecDepth 20000 in
theorem ggX9_has_X3_valueOf : GoodIn wsX9_has wsX3_valueOf := goodIn_r _ [26, 27, 28, 29, 25, 30, 31, 32, 33, 34, 35, 36, 8, 9, 10, 37, 38, 39, 40, 41, 42, 43, 44, 45, 46, 47, 48, 49, 50, 51, 52, 53, 54, 55, 56, 57, 58, 59, 60, 61, 62, 63, 64, 65, 66, 67, 68, 69, 70, 71, 72, 73, 74, 75, 76, 77, 78, 79, 80, 81, 82, 83, 84, 85, 86, 87, 88, 89, 90, 91, 92, 93, 94, 95, 96, 97, 98, 99, 111, 112, 113, 114, 115, 116, 117, 118] (by decide +kernel) (by decide +kernel)
set_option maxRecDepth 20000 in
theorem gX9_has_X3_valueOf : GoodIn wsX9_has (wsV RX9 162 RX3 yX3_valueOf wsX3_valueOf) := goodIn_app (goodIn_of _ (by decide +kernel)) ggX9_has_X3_valueOf
theorem dX9_has_0 : decode cX9_has 0 = .ok (.aload_n 0, 1) := by decide +kernel
theorem dX9_has_1 : decode cX9_has 1 = .ok (.getfield 26, 3) := by decide +kernel
theorem dX9_has_4 : decode cX9_has 4 = .ok (.iload_n 1, 1) := by decide +kernel
theorem dX9_has_5 : decode cX9_has 5 = .ok (.invokevirtual 120, 3) := by decide +kernel
theorem dX9_has_8 : decode cX9_has 8 = .ok (.astore_n 3, 1) := by decide +kernel
theorem dX9_has_9 : decode cX9_has 9 = .ok (.aload_n 0, 1) := by decide +kernel
theorem dX9_has_10 : decode cX9_has 10 = .ok (.iload_n 2, 1) := by decide +kernel
theorem dX9_has_11 : decode cX9_has 11 = .ok (.invokevirtual 60, 3) := by decide +kernel
theorem dX9_has_14 : decode cX9_has 14 = .ok (.astore 4, 2) := by decide +kernel
theorem dX9_has_16 : decode cX9_has 16 = .ok (.aload_n 3, 1) := by decide +kernel
theorem dX9_has_17 : decode cX9_has 17 = .ok (.ifnull 8, 3) := by decide +kernel
theorem dX9_has_20 : decode cX9_has 20 = .ok (.aload 4, 2) := by decide +kernel
theorem dX9_has_22 : decode cX9_has 22 = .ok (.ifnonnull 5, 3) := by decide +kernel
theorem dX9_has_25 : decode cX9_has 25 = .ok (.iconst (-1), 1) := by decide +kernel
theorem dX9_has_26 : decode cX9_has 26 = .ok (.ireturn, 1) := by decide +kernel
theorem dX9_has_27 : decode cX9_has 27 = .ok (.aload 4, 2) := by decide +kernel
theorem dX9_has_29 : decode cX9_has 29 = .ok (.getfield 64, 3) := by decide +kernel
theorem dX9_has_32 : decode cX9_has 32 = .ok (.ifnonnull 8, 3) := by decide +kernel
theorem dX9_has_35 : decode cX9_has 35 = .ok (.aload_n 0, 1) := by decide +kernel
theorem dX9_has_36 : decode cX9_has 36 = .ok (.invokevirtual 155, 3) := by decide +kernel
theorem dX9_has_39 : decode cX9_has 39 = .ok (.ireturn, 1) := by decide +kernel
theorem dX9_has_40 : decode cX9_has 40 = .ok (.aload_n 3, 1) := by decide +kernel
theorem dX9_has_41 : decode cX9_has 41 = .ok (.aload 4, 2) := by decide +kernel
theorem dX9_has_43 : decode cX9_has 43 = .ok (.getfield 64, 3) := by decide +kernel
theorem dX9_has_46 : decode cX9_has 46 = .ok (.invokevirtual 162, 3) := by decide +kernel
theorem dX9_has_49 : decode cX9_has 49 = .ok (.ifnull 7, 3) := by decide +kernel
theorem dX9_has_52 : decode cX9_has 52 = .ok (.iconst 1, 1) := by decide +kernel
theorem dX9_has_53 : decode cX9_has 53 = .ok (.goto 4, 3) := by decide +kernel
theorem dX9_has_56 : decode cX9_has 56 = .ok (.iconst 0, 1) := by decide +kernel
theorem dX9_has_57 : decode cX9_has 57 = .ok (.ireturn, 1) := by decide +kernel
set_option maxRecDepth 20000 in
theorem ggX9_layerOf_X9_slotAt : GoodIn wsX9_layerOf wsX9_slotAt := goodIn_r _ [6, 7, 8, 9, 5, 10, 105, 106, 107, 108, 109, 110, 111, 112, 113] (by decide +kernel) (by decide +kernel)
set_option maxRecDepth 20000 in
theorem gX9_layerOf_X9_slotAt : GoodIn wsX9_layerOf (wsV RX9 60 RX9 yX9_slotAt wsX9_slotAt) := goodIn_app (goodIn_of _ (by decide +kernel)) ggX9_layerOf_X9_slotAt
set_option maxRecDepth 20000 in
theorem ggX9_layerOf_X4_layerAt : GoodIn wsX9_layerOf wsX4_layerAt := goodIn_r _ [15, 16, 9, 5, 10, 115] (by decide +kernel) (by decide +kernel)
set_option maxRecDepth 20000 in
theorem gX9_layerOf_X4_layerAt : GoodIn wsX9_layerOf (wsV RX9 120 RX4 yX4_layerAt wsX4_layerAt) := goodIn_app (goodIn_of _ (by decide +kernel)) ggX9_layerOf_X4_layerAt
set_option maxRecDepth 20000 in
theorem ggX9_layerOf_X9_refuseNull : GoodIn wsX9_layerOf wsX9_refuseNull := goodIn_r _ [20, 21, 105, 106, 107, 108, 109, 110, 111, 112, 113] (by decide +kernel) (by decide +kernel)
set_option maxRecDepth 20000 in
theorem gX9_layerOf_X9_refuseNull : GoodIn wsX9_layerOf (wsV RX9 155 RX9 yX9_refuseNull wsX9_refuseNull) := goodIn_app (goodIn_of _ (by decide +kernel)) ggX9_layerOf_X9_refuseNull
set_option maxRecDepth 20000 in
theorem ggX9_layerOf_X4_layerHaving : GoodIn wsX9_layerOf wsX4_layerHaving := goodIn_r _ [25, 26, 12, 13, 14, 15, 16, 9, 5, 10, 27, 28, 29, 30, 31, 32, 33, 34, 35, 36, 37, 38, 39, 40, 41, 42, 43, 44, 45, 46, 47, 48, 49, 50, 51, 52, 53, 54, 55, 56, 57, 58, 59, 60, 61, 62, 63, 64, 65, 66, 67, 68, 69, 70, 71, 72, 73, 74, 75, 76, 77, 78, 79, 80, 81, 82, 83, 84, 85, 86, 87, 88, 89, 90, 91, 92, 93, 94, 95, 96, 97, 98, 99, 100, 101, 102, 103, 104, 115, 116, 117, 118, 119, 120, 121, 122, 123] (by decide +kernel) (by decide +kernel)
set_option maxRecDepth 20000 in
theorem gX9_layerOf_X4_layerHaving : GoodIn wsX9_layerOf (wsV RX9 166 RX4 yX4_layerHaving wsX4_layerHaving) := goodIn_app (goodIn_of _ (by decide +kernel)) ggX9_layerOf_X4_layerHaving
theorem dX9_layerOf_0 : decode cX9_layerOf 0 = .ok (.aload_n 0, 1) := by decide +kernel
theorem dX9_layerOf_1 : decode cX9_layerOf 1 = .ok (.iload_n 2, 1) := by decide +kernel
theorem dX9_layerOf_2 : decode cX9_layerOf 2 = .ok (.invokevirtual 60, 3) := by decide +kernel
theorem dX9_layerOf_5 : decode cX9_layerOf 5 = .ok (.astore_n 3, 1) := by decide +kernel
theorem dX9_layerOf_6 : decode cX9_layerOf 6 = .ok (.aload_n 0, 1) := by decide +kernel
theorem dX9_layerOf_7 : decode cX9_layerOf 7 = .ok (.getfield 26, 3) := by decide +kernel
theorem dX9_layerOf_10 : decode cX9_layerOf 10 = .ok (.iload_n 1, 1) := by decide +kernel
theorem dX9_layerOf_11 : decode cX9_layerOf 11 = .ok (.invokevirtual 120, 3) := by decide +kernel
theorem dX9_layerOf_14 : decode cX9_layerOf 14 = .ok (.ifnull 7, 3) := by decide +kernel
theorem dX9_layerOf_17 : decode cX9_layerOf 17 = .ok (.aload_n 3, 1) := by decide +kernel
theorem dX9_layerOf_18 : decode cX9_layerOf 18 = .ok (.ifnonnull 5, 3) := by decide +kernel
theorem dX9_layerOf_21 : decode cX9_layerOf 21 = .ok (.iconst (-1), 1) := by decide +kernel
theorem dX9_layerOf_22 : decode cX9_layerOf 22 = .ok (.ireturn, 1) := by decide +kernel
theorem dX9_layerOf_23 : decode cX9_layerOf 23 = .ok (.aload_n 3, 1) := by decide +kernel
theorem dX9_layerOf_24 : decode cX9_layerOf 24 = .ok (.getfield 64, 3) := by decide +kernel
theorem dX9_layerOf_27 : decode cX9_layerOf 27 = .ok (.ifnonnull 8, 3) := by decide +kernel
theorem dX9_layerOf_30 : decode cX9_layerOf 30 = .ok (.aload_n 0, 1) := by decide +kernel
theorem dX9_layerOf_31 : decode cX9_layerOf 31 = .ok (.invokevirtual 155, 3) := by decide +kernel
theorem dX9_layerOf_34 : decode cX9_layerOf 34 = .ok (.ireturn, 1) := by decide +kernel
theorem dX9_layerOf_35 : decode cX9_layerOf 35 = .ok (.aload_n 0, 1) := by decide +kernel
theorem dX9_layerOf_36 : decode cX9_layerOf 36 = .ok (.getfield 26, 3) := by decide +kernel
theorem dX9_layerOf_39 : decode cX9_layerOf 39 = .ok (.iload_n 1, 1) := by decide +kernel
theorem dX9_layerOf_40 : decode cX9_layerOf 40 = .ok (.aload_n 3, 1) := by decide +kernel
theorem dX9_layerOf_41 : decode cX9_layerOf 41 = .ok (.getfield 64, 3) := by decide +kernel
theorem dX9_layerOf_44 : decode cX9_layerOf 44 = .ok (.invokevirtual 166, 3) := by decide +kernel
theorem dX9_layerOf_47 : decode cX9_layerOf 47 = .ok (.ireturn, 1) := by decide +kernel
set_option maxRecDepth 20000 in
theorem ggX9_set_X4_layerAt : GoodIn wsX9_set wsX4_layerAt := goodIn_r _ [6, 7, 8, 9, 10, 129] (by decide +kernel) (by decide +kernel)
set_option maxRecDepth 20000 in
theorem gX9_set_X4_layerAt : GoodIn wsX9_set (wsV RX9 120 RX4 yX4_layerAt wsX4_layerAt) := goodIn_app (goodIn_of _ (by decide +kernel)) ggX9_set_X4_layerAt
set_option maxRecDepth 20000 in
theorem ggX9_set_X9_slotAt : GoodIn wsX9_set wsX9_slotAt := goodIn_r _ [14, 15, 16, 8, 9, 10, 119, 120, 121, 122, 123, 124, 125, 126, 127] (by decide +kernel) (by decide +kernel)
set_option maxRecDepth 20000 in
theorem gX9_set_X9_slotAt : GoodIn wsX9_set (wsV RX9 60 RX9 yX9_slotAt wsX9_slotAt) := goodIn_app (goodIn_of _ (by decide +kernel)) ggX9_set_X9_slotAt
set_option maxRecDepth 20000 in
theorem ggX9_set_X9_refuseNull : GoodIn wsX9_set wsX9_refuseNull := goodIn_r _ [20, 21, 119, 120, 121, 122, 123, 124, 125, 126, 127] (by decide +kernel) (by decide +kernel)
set_option maxRecDepth 20000 in
theorem gX9_set_X9_refuseNull : GoodIn wsX9_set (wsV RX9 155 RX9 yX9_refuseNull wsX9_refuseNull) := goodIn_app (goodIn_of _ (by decide +kernel)) ggX9_set_X9_refuseNull
set_option maxRecDepth 20000 in
theorem ggX9_set_X3_valueOf : GoodIn wsX9_set wsX3_valueOf := goodIn_r _ [26, 27, 28, 29, 25, 30, 31, 32, 33, 34, 35, 36, 8, 9, 10, 37, 38, 39, 40, 41, 42, 43, 44, 45, 46, 47, 48, 49, 50, 51, 52, 53, 54, 55, 56, 57, 58, 59, 60, 61, 62, 63, 64, 65, 66, 67, 68, 69, 70, 71, 72, 73, 74, 75, 76, 77, 78, 79, 80, 81, 82, 83, 84, 85, 86, 87, 88, 89, 90, 91, 92, 93, 94, 95, 96, 97, 98, 99, 130, 131, 132, 133, 134, 135, 136, 137] (by decide +kernel) (by decide +kernel)
set_option maxRecDepth 20000 in
theorem gX9_set_X3_valueOf : GoodIn wsX9_set (wsV RX9 162 RX3 yX3_valueOf wsX3_valueOf) := goodIn_app (goodIn_of _ (by decide +kernel)) ggX9_set_X3_valueOf
set_option maxRecDepth 20000 in
theorem ggX9_set_X3_put : GoodIn wsX9_set wsX3_put := goodIn_r _ [103, 31, 36, 104, 105, 106, 27, 28, 29, 25, 30, 32, 33, 34, 35, 8, 9, 10, 37, 38, 39, 40, 41, 42, 43, 44, 45, 46, 47, 48, 49, 50, 51, 52, 53, 54, 55, 56, 57, 58, 59, 60, 61, 62, 63, 64, 65, 66, 67, 68, 69, 70, 71, 72, 73, 74, 75, 76, 77, 78, 79, 80, 81, 82, 83, 84, 85, 86, 87, 88, 89, 90, 91, 92, 93, 94, 95, 96, 97, 98, 99, 107, 108, 109, 110, 111, 112, 113, 114, 130, 131, 132, 133, 134, 135, 136, 137] (by decide +kernel) (by decide +kernel)
set_option maxRecDepth 20000 in
theorem gX9_set_X3_put : GoodIn wsX9_set (wsV RX9 144 RX3 yX3_put wsX3_put) := goodIn_app (goodIn_of _ (by decide +kernel)) ggX9_set_X3_put
set_option maxRecDepth 20000 in
theorem ggX9_set_X3_entryCount : GoodIn wsX9_set wsX3_entryCount := goodIn_r _ [118, 31, 132, 133] (by decide +kernel) (by decide +kernel)
set_option maxRecDepth 20000 in
theorem gX9_set_X3_entryCount : GoodIn wsX9_set (wsV RX9 170 RX3 yX3_entryCount wsX3_entryCount) := goodIn_app (goodIn_of _ (by decide +kernel)) ggX9_set_X3_entryCount
theorem dX9_set_0 : decode cX9_set 0 = .ok (.aload_n 0, 1) := by decide +kernel
theorem dX9_set_1 : decode cX9_set 1 = .ok (.getfield 26, 3) := by decide +kernel
theorem dX9_set_4 : decode cX9_set 4 = .ok (.iload_n 1, 1) := by decide +kernel
theorem dX9_set_5 : decode cX9_set 5 = .ok (.invokevirtual 120, 3) := by decide +kernel
theorem dX9_set_8 : decode cX9_set 8 = .ok (.astore 5, 2) := by decide +kernel
theorem dX9_set_10 : decode cX9_set 10 = .ok (.aload_n 0, 1) := by decide +kernel
theorem dX9_set_11 : decode cX9_set 11 = .ok (.iload_n 2, 1) := by decide +kernel
theorem dX9_set_12 : decode cX9_set 12 = .ok (.invokevirtual 60, 3) := by decide +kernel
theorem dX9_set_15 : decode cX9_set 15 = .ok (.astore 6, 2) := by decide +kernel
theorem dX9_set_17 : decode cX9_set 17 = .ok (.aload_n 0, 1) := by decide +kernel
theorem dX9_set_18 : decode cX9_set 18 = .ok (.iload_n 3, 1) := by decide +kernel
theorem dX9_set_19 : decode cX9_set 19 = .ok (.invokevirtual 60, 3) := by decide +kernel
theorem dX9_set_22 : decode cX9_set 22 = .ok (.astore 7, 2) := by decide +kernel
theorem dX9_set_24 : decode cX9_set 24 = .ok (.aload_n 0, 1) := by decide +kernel
theorem dX9_set_25 : decode cX9_set 25 = .ok (.iload 4, 2) := by decide +kernel
theorem dX9_set_27 : decode cX9_set 27 = .ok (.invokevirtual 60, 3) := by decide +kernel
theorem dX9_set_30 : decode cX9_set 30 = .ok (.astore 8, 2) := by decide +kernel
theorem dX9_set_32 : decode cX9_set 32 = .ok (.aload 5, 2) := by decide +kernel
theorem dX9_set_34 : decode cX9_set 34 = .ok (.ifnull 18, 3) := by decide +kernel
theorem dX9_set_37 : decode cX9_set 37 = .ok (.aload 6, 2) := by decide +kernel
theorem dX9_set_39 : decode cX9_set 39 = .ok (.ifnull 13, 3) := by decide +kernel
theorem dX9_set_42 : decode cX9_set 42 = .ok (.aload 7, 2) := by decide +kernel
theorem dX9_set_44 : decode cX9_set 44 = .ok (.ifnull 8, 3) := by decide +kernel
theorem dX9_set_47 : decode cX9_set 47 = .ok (.aload 8, 2) := by decide +kernel
theorem dX9_set_49 : decode cX9_set 49 = .ok (.ifnonnull 5, 3) := by decide +kernel
theorem dX9_set_52 : decode cX9_set 52 = .ok (.iconst (-1), 1) := by decide +kernel
theorem dX9_set_53 : decode cX9_set 53 = .ok (.ireturn, 1) := by decide +kernel
theorem dX9_set_54 : decode cX9_set 54 = .ok (.aload 7, 2) := by decide +kernel
theorem dX9_set_56 : decode cX9_set 56 = .ok (.getfield 64, 3) := by decide +kernel
theorem dX9_set_59 : decode cX9_set 59 = .ok (.ifnonnull 6, 3) := by decide +kernel
theorem dX9_set_62 : decode cX9_set 62 = .ok (.bipush (-2), 2) := by decide +kernel
theorem dX9_set_64 : decode cX9_set 64 = .ok (.ireturn, 1) := by decide +kernel
theorem dX9_set_65 : decode cX9_set 65 = .ok (.aload 6, 2) := by decide +kernel
theorem dX9_set_67 : decode cX9_set 67 = .ok (.getfield 64, 3) := by decide +kernel
theorem dX9_set_70 : decode cX9_set 70 = .ok (.ifnonnull 8, 3) := by decide +kernel
theorem dX9_set_73 : decode cX9_set 73 = .ok (.aload_n 0, 1) := by decide +kernel
theorem dX9_set_74 : decode cX9_set 74 = .ok (.invokevirtual 155, 3) := by decide +kernel
theorem dX9_set_77 : decode cX9_set 77 = .ok (.ireturn, 1) := by decide +kernel
theorem dX9_set_78 : decode cX9_set 78 = .ok (.aload 5, 2) := by decide +kernel
theorem dX9_set_80 : decode cX9_set 80 = .ok (.aload 6, 2) := by decide +kernel
theorem dX9_set_82 : decode cX9_set 82 = .ok (.getfield 64, 3) := by decide +kernel
theorem dX9_set_85 : decode cX9_set 85 = .ok (.invokevirtual 162, 3) := by decide +kernel
theorem dX9_set_88 : decode cX9_set 88 = .ok (.astore 9, 2) := by decide +kernel
theorem dX9_set_90 : decode cX9_set 90 = .ok (.aload 5, 2) := by decide +kernel
theorem dX9_set_92 : decode cX9_set 92 = .ok (.aload 6, 2) := by decide +kernel
theorem dX9_set_94 : decode cX9_set 94 = .ok (.getfield 64, 3) := by decide +kernel
theorem dX9_set_97 : decode cX9_set 97 = .ok (.aload 7, 2) := by decide +kernel
theorem dX9_set_99 : decode cX9_set 99 = .ok (.getfield 64, 3) := by decide +kernel
theorem dX9_set_102 : decode cX9_set 102 = .ok (.invokevirtual 144, 3) := by decide +kernel
theorem dX9_set_105 : decode cX9_set 105 = .ok (.ifCond .ne 6, 3) := by decide +kernel
theorem dX9_set_108 : decode cX9_set 108 = .ok (.bipush (-3), 2) := by decide +kernel
theorem dX9_set_110 : decode cX9_set 110 = .ok (.ireturn, 1) := by decide +kernel
theorem dX9_set_111 : decode cX9_set 111 = .ok (.aload 8, 2) := by decide +kernel
theorem dX9_set_113 : decode cX9_set 113 = .ok (.aload 9, 2) := by decide +kernel
theorem dX9_set_115 : decode cX9_set 115 = .ok (.putfield 64, 3) := by decide +kernel
theorem dX9_set_118 : decode cX9_set 118 = .ok (.aload 5, 2) := by decide +kernel
theorem dX9_set_120 : decode cX9_set 120 = .ok (.invokevirtual 170, 3) := by decide +kernel
theorem dX9_set_123 : decode cX9_set 123 = .ok (.ireturn, 1) := by decide +kernel
set_option maxRecDepth 20000 in
theorem ggX9_empty_X4_layerAt : GoodIn wsX9_empty wsX4_layerAt := goodIn_r _ [6, 7, 8, 9, 10, 30] (by decide +kernel) (by decide +kernel)
set_option maxRecDepth 20000 in
theorem gX9_empty_X4_layerAt : GoodIn wsX9_empty (wsV RX9 120 RX4 yX4_layerAt wsX4_layerAt) := goodIn_app (goodIn_of _ (by decide +kernel)) ggX9_empty_X4_layerAt
set_option maxRecDepth 20000 in
theorem ggX9_empty_X3_entryCount : GoodIn wsX9_empty wsX3_entryCount := goodIn_r _ [15, 16, 31, 32] (by decide +kernel) (by decide +kernel)
set_option maxRecDepth 20000 in
theorem gX9_empty_X3_entryCount : GoodIn wsX9_empty (wsV RX9 170 RX3 yX3_entryCount wsX3_entryCount) := goodIn_app (goodIn_of _ (by decide +kernel)) ggX9_empty_X3_entryCount
set_option maxRecDepth 20000 in
theorem ggX9_empty_X3_removeAll : GoodIn wsX9_empty wsX3_removeAll := goodIn_r _ [20, 16, 31, 32] (by decide +kernel) (by decide +kernel)
set_option maxRecDepth 20000 in
theorem gX9_empty_X3_removeAll : GoodIn wsX9_empty (wsV RX9 177 RX3 yX3_removeAll wsX3_removeAll) := goodIn_app (goodIn_of _ (by decide +kernel)) ggX9_empty_X3_removeAll
theorem dX9_empty_0 : decode cX9_empty 0 = .ok (.aload_n 0, 1) := by decide +kernel
theorem dX9_empty_1 : decode cX9_empty 1 = .ok (.getfield 26, 3) := by decide +kernel
theorem dX9_empty_4 : decode cX9_empty 4 = .ok (.iload_n 1, 1) := by decide +kernel
theorem dX9_empty_5 : decode cX9_empty 5 = .ok (.invokevirtual 120, 3) := by decide +kernel
theorem dX9_empty_8 : decode cX9_empty 8 = .ok (.astore_n 2, 1) := by decide +kernel
theorem dX9_empty_9 : decode cX9_empty 9 = .ok (.aload_n 2, 1) := by decide +kernel
theorem dX9_empty_10 : decode cX9_empty 10 = .ok (.ifnonnull 5, 3) := by decide +kernel
theorem dX9_empty_13 : decode cX9_empty 13 = .ok (.iconst (-1), 1) := by decide +kernel
theorem dX9_empty_14 : decode cX9_empty 14 = .ok (.ireturn, 1) := by decide +kernel
theorem dX9_empty_15 : decode cX9_empty 15 = .ok (.aload_n 2, 1) := by decide +kernel
theorem dX9_empty_16 : decode cX9_empty 16 = .ok (.invokevirtual 170, 3) := by decide +kernel
theorem dX9_empty_19 : decode cX9_empty 19 = .ok (.istore_n 3, 1) := by decide +kernel
theorem dX9_empty_20 : decode cX9_empty 20 = .ok (.aload_n 2, 1) := by decide +kernel
theorem dX9_empty_21 : decode cX9_empty 21 = .ok (.invokevirtual 177, 3) := by decide +kernel
theorem dX9_empty_24 : decode cX9_empty 24 = .ok (.iload_n 3, 1) := by decide +kernel
theorem dX9_empty_25 : decode cX9_empty 25 = .ok (.ireturn, 1) := by decide +kernel
set_option maxRecDepth 20000 in
theorem ggX9_size_X4_layerAt : GoodIn wsX9_size wsX4_layerAt := goodIn_r _ [6, 7, 8, 9, 10, 26] (by decide +kernel) (by decide +kernel)
set_option maxRecDepth 20000 in
theorem gX9_size_X4_layerAt : GoodIn wsX9_size (wsV RX9 120 RX4 yX4_layerAt wsX4_layerAt) := goodIn_app (goodIn_of _ (by decide +kernel)) ggX9_size_X4_layerAt
set_option maxRecDepth 20000 in
theorem ggX9_size_X3_entryCount : GoodIn wsX9_size wsX3_entryCount := goodIn_r _ [15, 16, 27, 28] (by decide +kernel) (by decide +kernel)
set_option maxRecDepth 20000 in
theorem gX9_size_X3_entryCount : GoodIn wsX9_size (wsV RX9 170 RX3 yX3_entryCount wsX3_entryCount) := goodIn_app (goodIn_of _ (by decide +kernel)) ggX9_size_X3_entryCount
theorem dX9_size_0 : decode cX9_size 0 = .ok (.aload_n 0, 1) := by decide +kernel
theorem dX9_size_1 : decode cX9_size 1 = .ok (.getfield 26, 3) := by decide +kernel
theorem dX9_size_4 : decode cX9_size 4 = .ok (.iload_n 1, 1) := by decide +kernel
theorem dX9_size_5 : decode cX9_size 5 = .ok (.invokevirtual 120, 3) := by decide +kernel
theorem dX9_size_8 : decode cX9_size 8 = .ok (.astore_n 2, 1) := by decide +kernel
theorem dX9_size_9 : decode cX9_size 9 = .ok (.aload_n 2, 1) := by decide +kernel
theorem dX9_size_10 : decode cX9_size 10 = .ok (.ifnonnull 5, 3) := by decide +kernel
theorem dX9_size_13 : decode cX9_size 13 = .ok (.iconst (-1), 1) := by decide +kernel
theorem dX9_size_14 : decode cX9_size 14 = .ok (.ireturn, 1) := by decide +kernel
theorem dX9_size_15 : decode cX9_size 15 = .ok (.aload_n 2, 1) := by decide +kernel
theorem dX9_size_16 : decode cX9_size 16 = .ok (.invokevirtual 170, 3) := by decide +kernel
theorem dX9_size_19 : decode cX9_size 19 = .ok (.ireturn, 1) := by decide +kernel
set_option maxRecDepth 20000 in
theorem ggX9_names_X4_layerAt : GoodIn wsX9_names wsX4_layerAt := goodIn_r _ [9, 10, 11, 12, 13, 124] (by decide +kernel) (by decide +kernel)
set_option maxRecDepth 20000 in
theorem gX9_names_X4_layerAt : GoodIn wsX9_names (wsV RX9 120 RX4 yX4_layerAt wsX4_layerAt) := goodIn_app (goodIn_of _ (by decide +kernel)) ggX9_names_X4_layerAt
set_option maxRecDepth 20000 in
theorem ggX9_names_X5_init : GoodIn wsX9_names wsX5_init := goodIn_r _ [16, 17, 18, 19, 20, 21, 22, 23, 24, 25, 26, 27, 121, 122, 123] (by decide +kernel) (by decide +kernel)
set_option maxRecDepth 20000 in
theorem gX9_names_X5_init : GoodIn wsX9_names (wsX5_init) := ggX9_names_X5_init
set_option maxRecDepth 20000 in
theorem ggX9_names_X5_nextName : GoodIn wsX9_names wsX5_nextName := goodIn_r _ [31, 27, 32, 33, 34, 4, 35, 22, 21, 36, 6, 7, 8, 9, 10, 11, 12, 13, 37, 38, 39, 40, 41, 42, 43, 44, 45, 46, 47, 48, 49, 50, 24, 25, 26, 51, 52, 53, 54, 55, 56, 57, 58, 59, 60, 61, 62, 63, 64, 65, 66, 67, 68, 69, 70, 71, 72, 73, 74, 75, 76, 77, 78, 79, 80, 81, 82, 83, 84, 85, 86, 87, 88, 89, 90, 91, 92, 93, 94, 95, 96, 97, 98, 99, 100, 101, 102, 103, 104, 105, 106, 107, 108, 109, 110, 111, 121, 122, 123, 124, 125, 126, 127, 128, 129, 130, 131, 132] (by decide +kernel) (by decide +kernel)
set_option maxRecDepth 20000 in
theorem gX9_names_X5_nextName : GoodIn wsX9_names (wsV RX9 185 RX5 yX5_nextName wsX5_nextName) := goodIn_app (goodIn_of _ (by decide +kernel)) ggX9_names_X5_nextName
theorem dX9_names_0 : decode cX9_names 0 = .ok (.aload_n 0, 1) := by decide +kernel
theorem dX9_names_1 : decode cX9_names 1 = .ok (.getfield 26, 3) := by decide +kernel
theorem dX9_names_4 : decode cX9_names 4 = .ok (.iload_n 1, 1) := by decide +kernel
theorem dX9_names_5 : decode cX9_names 5 = .ok (.invokevirtual 120, 3) := by decide +kernel
theorem dX9_names_8 : decode cX9_names 8 = .ok (.ifnonnull 5, 3) := by decide +kernel
theorem dX9_names_11 : decode cX9_names 11 = .ok (.iconst (-1), 1) := by decide +kernel
theorem dX9_names_12 : decode cX9_names 12 = .ok (.ireturn, 1) := by decide +kernel
theorem dX9_names_13 : decode cX9_names 13 = .ok (.new 180, 3) := by decide +kernel
theorem dX9_names_16 : decode cX9_names 16 = .ok (.dup, 1) := by decide +kernel
theorem dX9_names_17 : decode cX9_names 17 = .ok (.aload_n 0, 1) := by decide +kernel
theorem dX9_names_18 : decode cX9_names 18 = .ok (.getfield 26, 3) := by decide +kernel
theorem dX9_names_21 : decode cX9_names 21 = .ok (.iload_n 1, 1) := by decide +kernel
theorem dX9_names_22 : decode cX9_names 22 = .ok (.invokespecial 182, 3) := by decide +kernel
theorem dX9_names_25 : decode cX9_names 25 = .ok (.astore_n 2, 1) := by decide +kernel
theorem dX9_names_26 : decode cX9_names 26 = .ok (.iconst 0, 1) := by decide +kernel
theorem dX9_names_27 : decode cX9_names 27 = .ok (.istore_n 3, 1) := by decide +kernel
theorem dX9_names_28 : decode cX9_names 28 = .ok (.iload_n 3, 1) := by decide +kernel
theorem dX9_names_29 : decode cX9_names 29 = .ok (.sipush 160, 3) := by decide +kernel
theorem dX9_names_32 : decode cX9_names 32 = .ok (.if_icmp .ge 16, 3) := by decide +kernel
theorem dX9_names_35 : decode cX9_names 35 = .ok (.aload_n 2, 1) := by decide +kernel
theorem dX9_names_36 : decode cX9_names 36 = .ok (.invokevirtual 185, 3) := by decide +kernel
theorem dX9_names_39 : decode cX9_names 39 = .ok (.ifnull 9, 3) := by decide +kernel
theorem dX9_names_42 : decode cX9_names 42 = .ok (.iinc 3 1, 3) := by decide +kernel
theorem dX9_names_45 : decode cX9_names 45 = .ok (.goto (-17), 3) := by decide +kernel
theorem dX9_names_48 : decode cX9_names 48 = .ok (.iload_n 3, 1) := by decide +kernel
theorem dX9_names_49 : decode cX9_names 49 = .ok (.ireturn, 1) := by decide +kernel
set_option maxRecDepth 20000 in
theorem ggX9_name_X9_slotAt : GoodIn wsX9_name wsX9_slotAt := goodIn_r _ [9, 10, 11, 12, 8, 13, 121, 122, 123, 124, 125, 126, 127, 128, 129] (by decide +kernel) (by decide +kernel)
set_option maxRecDepth 20000 in
theorem gX9_name_X9_slotAt : GoodIn wsX9_name (wsV RX9 60 RX9 yX9_slotAt wsX9_slotAt) := goodIn_app (goodIn_of _ (by decide +kernel)) ggX9_name_X9_slotAt
set_option maxRecDepth 20000 in
theorem ggX9_name_X4_layerAt : GoodIn wsX9_name wsX4_layerAt := goodIn_r _ [18, 19, 12, 8, 13, 133] (by decide +kernel) (by decide +kernel)
set_option maxRecDepth 20000 in
theorem gX9_name_X4_layerAt : GoodIn wsX9_name (wsV RX9 120 RX4 yX4_layerAt wsX4_layerAt) := goodIn_app (goodIn_of _ (by decide +kernel)) ggX9_name_X4_layerAt
set_option maxRecDepth 20000 in
theorem ggX9_name_X5_init : GoodIn wsX9_name wsX5_init := goodIn_r _ [22, 23, 24, 25, 26, 27, 28, 29, 30, 31, 32, 33, 130, 131, 132] (by decide +kernel) (by decide +kernel)
set_option maxRecDepth 20000 in
theorem gX9_name_X5_init : GoodIn wsX9_name (wsX5_init) := ggX9_name_X5_init
set_option maxRecDepth 20000 in
theorem ggX9_name_X5_nextName : GoodIn wsX9_name wsX5_nextName := goodIn_r _ [37, 33, 38, 39, 40, 4, 41, 28, 27, 42, 15, 16, 17, 18, 19, 12, 8, 13, 43, 44, 45, 46, 47, 48, 49, 50, 51, 52, 53, 54, 55, 56, 30, 31, 32, 57, 58, 59, 60, 61, 62, 63, 64, 65, 66, 67, 68, 69, 70, 71, 72, 73, 74, 75, 76, 77, 78, 79, 80, 81, 82, 83, 84, 85, 86, 87, 88, 89, 90, 91, 92, 93, 94, 95, 96, 97, 98, 99, 100, 101, 102, 103, 104, 105, 106, 107, 108, 109, 110, 111, 112, 113, 114, 115, 116, 117, 130, 131, 132, 133, 134, 135, 136, 137, 138, 139, 140, 141] (by decide +kernel) (by decide +kernel)
set_option maxRecDepth 20000 in
theorem gX9_name_X5_nextName : GoodIn wsX9_name (wsV RX9 185 RX5 yX5_nextName wsX5_nextName) := goodIn_app (goodIn_of _ (by decide +kernel)) ggX9_name_X5_nextName
set_option maxRecDepth 20000 in
theorem ggX9_name_X9_putInto : GoodIn wsX9_name wsX9_putInto := goodIn_r _ [120, 57, 58, 59, 60, 61, 62, 63, 64, 65, 66, 67, 68, 142, 138, 139, 140, 141] (by decide +kernel) (by decide +kernel)
set_option maxRecDepth 20000 in
theorem gX9_name_X9_putInto : GoodIn wsX9_name (va_wsS RX9 94 yX9_putInto wsX9_putInto) := goodIn_app (goodIn_of _ (by decide +kernel)) ggX9_name_X9_putInto
theorem dX9_name_0 : decode cX9_name 0 = .ok (.aload_n 0, 1) := by decide +kernel
theorem dX9_name_1 : decode cX9_name 1 = .ok (.iload_n 3, 1) := by decide +kernel
theorem dX9_name_2 : decode cX9_name 2 = .ok (.invokevirtual 60, 3) := by decide +kernel
theorem dX9_name_5 : decode cX9_name 5 = .ok (.astore 4, 2) := by decide +kernel
theorem dX9_name_7 : decode cX9_name 7 = .ok (.aload_n 0, 1) := by decide +kernel
theorem dX9_name_8 : decode cX9_name 8 = .ok (.getfield 26, 3) := by decide +kernel
theorem dX9_name_11 : decode cX9_name 11 = .ok (.iload_n 1, 1) := by decide +kernel
theorem dX9_name_12 : decode cX9_name 12 = .ok (.invokevirtual 120, 3) := by decide +kernel
theorem dX9_name_15 : decode cX9_name 15 = .ok (.ifnull 8, 3) := by decide +kernel
theorem dX9_name_18 : decode cX9_name 18 = .ok (.aload 4, 2) := by decide +kernel
theorem dX9_name_20 : decode cX9_name 20 = .ok (.ifnonnull 5, 3) := by decide +kernel
theorem dX9_name_23 : decode cX9_name 23 = .ok (.iconst (-1), 1) := by decide +kernel
theorem dX9_name_24 : decode cX9_name 24 = .ok (.ireturn, 1) := by decide +kernel
theorem dX9_name_25 : decode cX9_name 25 = .ok (.iload_n 2, 1) := by decide +kernel
theorem dX9_name_26 : decode cX9_name 26 = .ok (.ifCond .lt 10, 3) := by decide +kernel
theorem dX9_name_29 : decode cX9_name 29 = .ok (.iload_n 2, 1) := by decide +kernel
theorem dX9_name_30 : decode cX9_name 30 = .ok (.sipush 160, 3) := by decide +kernel
theorem dX9_name_33 : decode cX9_name 33 = .ok (.if_icmp .lt 6, 3) := by decide +kernel
theorem dX9_name_36 : decode cX9_name 36 = .ok (.bipush (-5), 2) := by decide +kernel
theorem dX9_name_38 : decode cX9_name 38 = .ok (.ireturn, 1) := by decide +kernel
theorem dX9_name_39 : decode cX9_name 39 = .ok (.new 180, 3) := by decide +kernel
theorem dX9_name_42 : decode cX9_name 42 = .ok (.dup, 1) := by decide +kernel
theorem dX9_name_43 : decode cX9_name 43 = .ok (.aload_n 0, 1) := by decide +kernel
theorem dX9_name_44 : decode cX9_name 44 = .ok (.getfield 26, 3) := by decide +kernel
theorem dX9_name_47 : decode cX9_name 47 = .ok (.iload_n 1, 1) := by decide +kernel
theorem dX9_name_48 : decode cX9_name 48 = .ok (.invokespecial 182, 3) := by decide +kernel
theorem dX9_name_51 : decode cX9_name 51 = .ok (.astore 5, 2) := by decide +kernel
theorem dX9_name_53 : decode cX9_name 53 = .ok (.aload 5, 2) := by decide +kernel
theorem dX9_name_55 : decode cX9_name 55 = .ok (.invokevirtual 185, 3) := by decide +kernel
theorem dX9_name_58 : decode cX9_name 58 = .ok (.astore 6, 2) := by decide +kernel
theorem dX9_name_60 : decode cX9_name 60 = .ok (.iconst 0, 1) := by decide +kernel
theorem dX9_name_61 : decode cX9_name 61 = .ok (.istore 7, 2) := by decide +kernel
theorem dX9_name_63 : decode cX9_name 63 = .ok (.iload 7, 2) := by decide +kernel
theorem dX9_name_65 : decode cX9_name 65 = .ok (.iload_n 2, 1) := by decide +kernel
theorem dX9_name_66 : decode cX9_name 66 = .ok (.if_icmp .ge 21, 3) := by decide +kernel
theorem dX9_name_69 : decode cX9_name 69 = .ok (.aload 6, 2) := by decide +kernel
theorem dX9_name_71 : decode cX9_name 71 = .ok (.ifnull 16, 3) := by decide +kernel
theorem dX9_name_74 : decode cX9_name 74 = .ok (.aload 5, 2) := by decide +kernel
theorem dX9_name_76 : decode cX9_name 76 = .ok (.invokevirtual 185, 3) := by decide +kernel
theorem dX9_name_79 : decode cX9_name 79 = .ok (.astore 6, 2) := by decide +kernel
theorem dX9_name_81 : decode cX9_name 81 = .ok (.iinc 7 1, 3) := by decide +kernel
theorem dX9_name_84 : decode cX9_name 84 = .ok (.goto (-21), 3) := by decide +kernel
theorem dX9_name_87 : decode cX9_name 87 = .ok (.aload 6, 2) := by decide +kernel
theorem dX9_name_89 : decode cX9_name 89 = .ok (.ifnonnull 6, 3) := by decide +kernel
theorem dX9_name_92 : decode cX9_name 92 = .ok (.bipush (-5), 2) := by decide +kernel
theorem dX9_name_94 : decode cX9_name 94 = .ok (.ireturn, 1) := by decide +kernel
theorem dX9_name_95 : decode cX9_name 95 = .ok (.aload 4, 2) := by decide +kernel
theorem dX9_name_97 : decode cX9_name 97 = .ok (.aload 6, 2) := by decide +kernel
theorem dX9_name_99 : decode cX9_name 99 = .ok (.invokestatic 94, 3) := by decide +kernel
theorem dX9_name_102 : decode cX9_name 102 = .ok (.ireturn, 1) := by decide +kernel
set_option maxRecDepth 20000 in
theorem ggX9_alike_X4_layerAt : GoodIn wsX9_alike wsX4_layerAt := goodIn_r _ [6, 7, 8, 9, 10, 44] (by decide +kernel) (by decide +kernel)
set_option maxRecDepth 20000 in
theorem gX9_alike_X4_layerAt : GoodIn wsX9_alike (wsV RX9 120 RX4 yX4_layerAt wsX4_layerAt) := goodIn_app (goodIn_of _ (by decide +kernel)) ggX9_alike_X4_layerAt
set_option maxRecDepth 20000 in
theorem ggX9_alike_X3_hasEntriesOf : GoodIn wsX9_alike wsX3_hasEntriesOf := goodIn_r _ [15, 16, 17, 18, 19, 14, 20, 21, 8, 9, 10, 22, 23, 24, 25, 26, 27, 28, 29, 30, 31, 32, 33, 34, 45, 46, 47, 48, 49, 50, 51, 52] (by decide +kernel) (by decide +kernel)
set_option maxRecDepth 20000 in
theorem gX9_alike_X3_hasEntriesOf : GoodIn wsX9_alike (wsV RX9 195 RX3 yX3_hasEntriesOf wsX3_hasEntriesOf) := goodIn_app (goodIn_of _ (by decide +kernel)) ggX9_alike_X3_hasEntriesOf
theorem dX9_alike_0 : decode cX9_alike 0 = .ok (.aload_n 0, 1) := by decide +kernel
theorem dX9_alike_1 : decode cX9_alike 1 = .ok (.getfield 26, 3) := by decide +kernel
theorem dX9_alike_4 : decode cX9_alike 4 = .ok (.iload_n 1, 1) := by decide +kernel
theorem dX9_alike_5 : decode cX9_alike 5 = .ok (.invokevirtual 120, 3) := by decide +kernel
theorem dX9_alike_8 : decode cX9_alike 8 = .ok (.astore_n 3, 1) := by decide +kernel
theorem dX9_alike_9 : decode cX9_alike 9 = .ok (.aload_n 0, 1) := by decide +kernel
theorem dX9_alike_10 : decode cX9_alike 10 = .ok (.getfield 26, 3) := by decide +kernel
theorem dX9_alike_13 : decode cX9_alike 13 = .ok (.iload_n 2, 1) := by decide +kernel
theorem dX9_alike_14 : decode cX9_alike 14 = .ok (.invokevirtual 120, 3) := by decide +kernel
theorem dX9_alike_17 : decode cX9_alike 17 = .ok (.astore 4, 2) := by decide +kernel
theorem dX9_alike_19 : decode cX9_alike 19 = .ok (.aload_n 3, 1) := by decide +kernel
theorem dX9_alike_20 : decode cX9_alike 20 = .ok (.ifnull 8, 3) := by decide +kernel
theorem dX9_alike_23 : decode cX9_alike 23 = .ok (.aload 4, 2) := by decide +kernel
theorem dX9_alike_25 : decode cX9_alike 25 = .ok (.ifnonnull 5, 3) := by decide +kernel
theorem dX9_alike_28 : decode cX9_alike 28 = .ok (.iconst (-1), 1) := by decide +kernel
theorem dX9_alike_29 : decode cX9_alike 29 = .ok (.ireturn, 1) := by decide +kernel
theorem dX9_alike_30 : decode cX9_alike 30 = .ok (.aload_n 3, 1) := by decide +kernel
theorem dX9_alike_31 : decode cX9_alike 31 = .ok (.aload 4, 2) := by decide +kernel
theorem dX9_alike_33 : decode cX9_alike 33 = .ok (.invokevirtual 195, 3) := by decide +kernel
theorem dX9_alike_36 : decode cX9_alike 36 = .ok (.ifCond .eq 7, 3) := by decide +kernel
theorem dX9_alike_39 : decode cX9_alike 39 = .ok (.iconst 1, 1) := by decide +kernel
theorem dX9_alike_40 : decode cX9_alike 40 = .ok (.goto 4, 3) := by decide +kernel
theorem dX9_alike_43 : decode cX9_alike 43 = .ok (.iconst 0, 1) := by decide +kernel
theorem dX9_alike_44 : decode cX9_alike 44 = .ok (.ireturn, 1) := by decide +kernel
set_option maxRecDepth 20000 in
theorem ggX9_digest_X4_layerAt : GoodIn wsX9_digest wsX4_layerAt := goodIn_r _ [6, 7, 8, 9, 10, 83] (by decide +kernel) (by decide +kernel)
set_option maxRecDepth 20000 in
theorem gX9_digest_X4_layerAt : GoodIn wsX9_digest (wsV RX9 120 RX4 yX4_layerAt wsX4_layerAt) := goodIn_app (goodIn_of _ (by decide +kernel)) ggX9_digest_X4_layerAt
set_option maxRecDepth 20000 in
theorem ggX9_digest_X3_digestNumber : GoodIn wsX9_digest wsX3_digestNumber := goodIn_r _ [15, 16, 17, 18, 19, 14, 20, 21, 8, 9, 10, 22, 23, 24, 25, 26, 27, 28, 29, 30, 31, 32, 33, 34, 35, 36, 37, 38, 39, 40, 41, 42, 43, 44, 45, 46, 47, 48, 49, 50, 51, 52, 53, 54, 55, 56, 57, 58, 59, 60, 61, 62, 63, 64, 65, 66, 67, 68, 69, 70, 71, 72, 73, 84, 85, 86, 87, 88, 89, 90, 91] (by decide +kernel) (by decide +kernel)
set_option maxRecDepth 20000 in
theorem gX9_digest_X3_digestNumber : GoodIn wsX9_digest (wsV RX9 199 RX3 yX3_digestNumber wsX3_digestNumber) := goodIn_app (goodIn_of _ (by decide +kernel)) ggX9_digest_X3_digestNumber
theorem dX9_digest_0 : decode cX9_digest 0 = .ok (.aload_n 0, 1) := by decide +kernel
theorem dX9_digest_1 : decode cX9_digest 1 = .ok (.getfield 26, 3) := by decide +kernel
theorem dX9_digest_4 : decode cX9_digest 4 = .ok (.iload_n 1, 1) := by decide +kernel
theorem dX9_digest_5 : decode cX9_digest 5 = .ok (.invokevirtual 120, 3) := by decide +kernel
theorem dX9_digest_8 : decode cX9_digest 8 = .ok (.astore_n 2, 1) := by decide +kernel
theorem dX9_digest_9 : decode cX9_digest 9 = .ok (.aload_n 2, 1) := by decide +kernel
theorem dX9_digest_10 : decode cX9_digest 10 = .ok (.ifnonnull 5, 3) := by decide +kernel
theorem dX9_digest_13 : decode cX9_digest 13 = .ok (.iconst 0, 1) := by decide +kernel
theorem dX9_digest_14 : decode cX9_digest 14 = .ok (.ireturn, 1) := by decide +kernel
theorem dX9_digest_15 : decode cX9_digest 15 = .ok (.aload_n 2, 1) := by decide +kernel
theorem dX9_digest_16 : decode cX9_digest 16 = .ok (.invokevirtual 199, 3) := by decide +kernel
theorem dX9_digest_19 : decode cX9_digest 19 = .ok (.ireturn, 1) := by decide +kernel
set_option maxRecDepth 20000 in
theorem ggX9_tokenizeBy_X9_tokenizeSlots : GoodIn wsX9_tokenizeBy wsX9_tokenizeSlots := goodIn_r _ [5, 6, 7, 8, 4, 9, 10, 11, 12, 13, 14, 15, 16, 17, 18, 19, 20, 21, 22, 23, 24, 25, 26, 27, 28, 29, 30, 31, 32, 33, 34, 35, 36, 37, 38, 39, 40, 41, 42, 43, 44, 45, 46, 47, 48, 49, 50, 51, 52, 53, 54, 55, 56, 57, 58, 59, 60, 61, 62, 63, 64, 65, 66, 67, 68, 69, 70, 71, 72, 73, 74, 75, 76, 77, 78, 79, 80, 81, 82, 83, 84, 85, 86, 87, 88, 89, 90, 91, 92, 93, 94, 95, 96, 97, 98, 99, 100, 101, 102, 103, 104, 105, 106, 107, 108, 109, 110, 111, 112, 113, 114, 115, 116, 117, 118, 119, 120, 121, 122, 123, 124, 125, 126, 127, 128, 129, 130, 131, 132, 133, 134, 135, 136, 137, 138, 139, 140, 141, 142, 143, 144, 145, 146, 147, 148, 149, 150, 151, 152, 153, 154, 155, 156, 157, 158, 159, 160, 161, 162, 163, 164, 165, 166, 167, 168, 169, 170, 171, 172, 173, 174, 175, 176, 177, 178, 179, 180] (by decide +kernel) (by decide +kernel)
set_option maxRecDepth 20000 in
theorem gX9_tokenizeBy_X9_tokenizeSlots : GoodIn wsX9_tokenizeBy (wsV RX9 212 RX9 yX9_tokenizeSlots wsX9_tokenizeSlots) := goodIn_app (goodIn_of _ (by decide +kernel)) ggX9_tokenizeBy_X9_tokenizeSlots
theorem dX9_tokenizeBy_0 : decode cX9_tokenizeBy 0 = .ok (.aload_n 0, 1) := by decide +kernel
theorem dX9_tokenizeBy_1 : decode cX9_tokenizeBy 1 = .ok (.iload_n 1, 1) := by decide +kernel
theorem dX9_tokenizeBy_2 : decode cX9_tokenizeBy 2 = .ok (.iload_n 2, 1) := by decide +kernel
theorem dX9_tokenizeBy_3 : decode cX9_tokenizeBy 3 = .ok (.iload_n 3, 1) := by decide +kernel
theorem dX9_tokenizeBy_4 : decode cX9_tokenizeBy 4 = .ok (.iconst 0, 1) := by decide +kernel
theorem dX9_tokenizeBy_5 : decode cX9_tokenizeBy 5 = .ok (.invokevirtual 212, 3) := by decide +kernel
theorem dX9_tokenizeBy_8 : decode cX9_tokenizeBy 8 = .ok (.ireturn, 1) := by decide +kernel
set_option maxRecDepth 20000 in
theorem ggX9_tokenizeAll_X9_tokenizeSlots : GoodIn wsX9_tokenizeAll wsX9_tokenizeSlots := goodIn_r _ [5, 6, 7, 8, 4, 9, 10, 11, 12, 13, 14, 15, 16, 17, 18, 19, 20, 21, 22, 23, 24, 25, 26, 27, 28, 29, 30, 31, 32, 33, 34, 35, 36, 37, 38, 39, 40, 41, 42, 43, 44, 45, 46, 47, 48, 49, 50, 51, 52, 53, 54, 55, 56, 57, 58, 59, 60, 61, 62, 63, 64, 65, 66, 67, 68, 69, 70, 71, 72, 73, 74, 75, 76, 77, 78, 79, 80, 81, 82, 83, 84, 85, 86, 87, 88, 89, 90, 91, 92, 93, 94, 95, 96, 97, 98, 99, 100, 101, 102, 103, 104, 105, 106, 107, 108, 109, 110, 111, 112, 113, 114, 115, 116, 117, 118, 119, 120, 121, 122, 123, 124, 125, 126, 127, 128, 129, 130, 131, 132, 133, 134, 135, 136, 137, 138, 139, 140, 141, 142, 143, 144, 145, 146, 147, 148, 149, 150, 151, 152, 153, 154, 155, 156, 157, 158, 159, 160, 161, 162, 163, 164, 165, 166, 167, 168, 169, 170, 171, 172, 173, 174, 175, 176, 177, 178, 179, 180] (by decide +kernel) (by decide +kernel)
set_option maxRecDepth 20000 in
theorem gX9_tokenizeAll_X9_tokenizeSlots : GoodIn wsX9_tokenizeAll (wsV RX9 212 RX9 yX9_tokenizeSlots wsX9_tokenizeSlots) := goodIn_app (goodIn_of _ (by decide +kernel)) ggX9_tokenizeAll_X9_tokenizeSlots
theorem dX9_tokenizeAll_0 : decode cX9_tokenizeAll 0 = .ok (.aload_n 0, 1) := by decide +kernel
theorem dX9_tokenizeAll_1 : decode cX9_tokenizeAll 1 = .ok (.iload_n 1, 1) := by decide +kernel
theorem dX9_tokenizeAll_2 : decode cX9_tokenizeAll 2 = .ok (.iload_n 2, 1) := by decide +kernel
theorem dX9_tokenizeAll_3 : decode cX9_tokenizeAll 3 = .ok (.iload_n 3, 1) := by decide +kernel
theorem dX9_tokenizeAll_4 : decode cX9_tokenizeAll 4 = .ok (.iconst 1, 1) := by decide +kernel
theorem dX9_tokenizeAll_5 : decode cX9_tokenizeAll 5 = .ok (.invokevirtual 212, 3) := by decide +kernel
theorem dX9_tokenizeAll_8 : decode cX9_tokenizeAll 8 = .ok (.ireturn, 1) := by decide +kernel
set_option maxRecDepth 20000 in
theorem ggX9_more_X9_isWithin : GoodIn wsX9_more wsX9_isWithin := goodIn_r _ [5] (by decide +kernel) (by decide +kernel)
set_option maxRecDepth 20000 in
theorem gX9_more_X9_isWithin : GoodIn wsX9_more (va_wsS RX9 202 yX9_isWithin wsX9_isWithin) := goodIn_app (goodIn_of _ (by decide +kernel)) ggX9_more_X9_isWithin
set_option maxRecDepth 20000 in
theorem ggX9_more_X8_hasToken : GoodIn wsX9_more wsX8_hasToken := goodIn_r _ [10, 11, 12, 13, 14, 15, 9, 16, 17, 18, 19, 20, 21, 22, 23, 24, 25, 26, 27, 28, 29, 30, 31, 32, 33, 34, 3, 4, 5, 35, 36, 37, 38, 39, 40, 41, 42, 43, 44, 45, 46, 47, 48, 49, 50, 51, 52, 53, 54, 55, 56, 57, 58, 59, 60, 61, 62, 63, 64, 65, 66, 67, 68, 69, 70, 71, 72, 73, 74, 75, 76, 77, 78, 79, 80, 81, 82, 83, 84, 85, 86, 87, 88, 89, 90, 91, 92, 93, 94, 95, 96, 97, 98, 99, 100, 101, 102, 103, 104, 105, 106, 107, 108, 109, 110, 111, 112, 113, 114, 115, 116, 117, 118, 119, 120, 121, 122, 123, 124, 125, 126, 127, 128, 129, 130, 131, 132, 142, 143, 144, 145, 146, 147, 148, 149] (by decide +kernel) (by decide +kernel)
set_option maxRecDepth 20000 in
theorem gX9_more_X8_hasToken : GoodIn wsX9_more (wsV RX9 216 RX8 yX8_hasToken wsX8_hasToken) := goodIn_app (goodIn_of _ (by decide +kernel)) ggX9_more_X8_hasToken
theorem dX9_more_0 : decode cX9_more 0 = .ok (.iload_n 1, 1) := by decide +kernel
theorem dX9_more_1 : decode cX9_more 1 = .ok (.iconst 2, 1) := by decide +kernel
theorem dX9_more_2 : decode cX9_more 2 = .ok (.invokestatic 202, 3) := by decide +kernel
theorem dX9_more_5 : decode cX9_more 5 = .ok (.ifCond .ne 5, 3) := by decide +kernel
theorem dX9_more_8 : decode cX9_more 8 = .ok (.iconst (-1), 1) := by decide +kernel
theorem dX9_more_9 : decode cX9_more 9 = .ok (.ireturn, 1) := by decide +kernel
theorem dX9_more_10 : decode cX9_more 10 = .ok (.aload_n 0, 1) := by decide +kernel
theorem dX9_more_11 : decode cX9_more 11 = .ok (.getfield 43, 3) := by decide +kernel
theorem dX9_more_14 : decode cX9_more 14 = .ok (.iload_n 1, 1) := by decide +kernel
theorem dX9_more_15 : decode cX9_more 15 = .ok (.aaload, 1) := by decide +kernel
theorem dX9_more_16 : decode cX9_more 16 = .ok (.astore_n 2, 1) := by decide +kernel
theorem dX9_more_17 : decode cX9_more 17 = .ok (.aload_n 2, 1) := by decide +kernel
theorem dX9_more_18 : decode cX9_more 18 = .ok (.ifnonnull 6, 3) := by decide +kernel
theorem dX9_more_21 : decode cX9_more 21 = .ok (.bipush (-4), 2) := by decide +kernel
theorem dX9_more_23 : decode cX9_more 23 = .ok (.ireturn, 1) := by decide +kernel
theorem dX9_more_24 : decode cX9_more 24 = .ok (.aload_n 2, 1) := by decide +kernel
theorem dX9_more_25 : decode cX9_more 25 = .ok (.invokevirtual 216, 3) := by decide +kernel
theorem dX9_more_28 : decode cX9_more 28 = .ok (.ifCond .eq 7, 3) := by decide +kernel
theorem dX9_more_31 : decode cX9_more 31 = .ok (.iconst 1, 1) := by decide +kernel
theorem dX9_more_32 : decode cX9_more 32 = .ok (.goto 4, 3) := by decide +kernel
theorem dX9_more_35 : decode cX9_more 35 = .ok (.iconst 0, 1) := by decide +kernel
theorem dX9_more_36 : decode cX9_more 36 = .ok (.ireturn, 1) := by decide +kernel
set_option maxRecDepth 20000 in
theorem ggX9_count_X9_isWithin : GoodIn wsX9_count wsX9_isWithin := goodIn_r _ [5] (by decide +kernel) (by decide +kernel)
set_option maxRecDepth 20000 in
theorem gX9_count_X9_isWithin : GoodIn wsX9_count (va_wsS RX9 202 yX9_isWithin wsX9_isWithin) := goodIn_app (goodIn_of _ (by decide +kernel)) ggX9_count_X9_isWithin
set_option maxRecDepth 20000 in
theorem ggX9_count_X8_tokensLeft : GoodIn wsX9_count wsX8_tokensLeft := goodIn_r _ [10, 11, 12, 13, 14, 15, 9, 16, 17, 18, 19, 20, 21, 22, 23, 24, 25, 26, 27, 28, 29, 30, 31, 32, 33, 34, 3, 4, 5, 35, 36, 37, 38, 39, 40, 41, 42, 43, 44, 45, 46, 47, 48, 49, 50, 51, 52, 53, 54, 55, 56, 57, 58, 59, 60, 61, 62, 63, 64, 65, 66, 67, 68, 69, 70, 71, 72, 73, 74, 75, 76, 77, 78, 79, 80, 81, 82, 83, 84, 85, 86, 87, 88, 89, 90, 91, 92, 93, 94, 95, 96, 97, 98, 99, 100, 101, 102, 103, 104, 105, 106, 107, 108, 109, 110, 111, 112, 113, 114, 115, 116, 117, 118, 119, 120, 121, 122, 123, 124, 125, 126, 127, 128, 129, 130, 131, 132, 133, 134, 135, 136, 146, 147, 148, 149, 150, 151, 152, 153] (by decide +kernel) (by decide +kernel)
set_option maxRecDepth 20000 in
theorem gX9_count_X8_tokensLeft : GoodIn wsX9_count (wsV RX9 219 RX8 yX8_tokensLeft wsX8_tokensLeft) := goodIn_app (goodIn_of _ (by decide +kernel)) ggX9_count_X8_tokensLeft
theorem dX9_count_0 : decode cX9_count 0 = .ok (.iload_n 1, 1) := by decide +kernel
theorem dX9_count_1 : decode cX9_count 1 = .ok (.iconst 2, 1) := by decide +kernel
theorem dX9_count_2 : decode cX9_count 2 = .ok (.invokestatic 202, 3) := by decide +kernel
theorem dX9_count_5 : decode cX9_count 5 = .ok (.ifCond .ne 5, 3) := by decide +kernel
theorem dX9_count_8 : decode cX9_count 8 = .ok (.iconst (-1), 1) := by decide +kernel
theorem dX9_count_9 : decode cX9_count 9 = .ok (.ireturn, 1) := by decide +kernel
theorem dX9_count_10 : decode cX9_count 10 = .ok (.aload_n 0, 1) := by decide +kernel
theorem dX9_count_11 : decode cX9_count 11 = .ok (.getfield 43, 3) := by decide +kernel
theorem dX9_count_14 : decode cX9_count 14 = .ok (.iload_n 1, 1) := by decide +kernel
theorem dX9_count_15 : decode cX9_count 15 = .ok (.aaload, 1) := by decide +kernel
theorem dX9_count_16 : decode cX9_count 16 = .ok (.astore_n 2, 1) := by decide +kernel
theorem dX9_count_17 : decode cX9_count 17 = .ok (.aload_n 2, 1) := by decide +kernel
theorem dX9_count_18 : decode cX9_count 18 = .ok (.ifnonnull 6, 3) := by decide +kernel
theorem dX9_count_21 : decode cX9_count 21 = .ok (.bipush (-4), 2) := by decide +kernel
theorem dX9_count_23 : decode cX9_count 23 = .ok (.ireturn, 1) := by decide +kernel
theorem dX9_count_24 : decode cX9_count 24 = .ok (.aload_n 2, 1) := by decide +kernel
theorem dX9_count_25 : decode cX9_count 25 = .ok (.invokevirtual 219, 3) := by decide +kernel
theorem dX9_count_28 : decode cX9_count 28 = .ok (.ireturn, 1) := by decide +kernel
set_option maxRecDepth 20000 in
theorem ggX9_next_X9_slotAt : GoodIn wsX9_next wsX9_slotAt := goodIn_r _ [6, 7, 8, 9, 5, 10, 222, 223, 224, 225, 226, 227, 228, 229, 230] (by decide +kernel) (by decide +kernel)
set_option maxRecDepth 20000 in
theorem gX9_next_X9_slotAt : GoodIn wsX9_next (wsV RX9 60 RX9 yX9_slotAt wsX9_slotAt) := goodIn_app (goodIn_of _ (by decide +kernel)) ggX9_next_X9_slotAt
set_option maxRecDepth 20000 in
theorem ggX9_next_X9_isWithin : GoodIn wsX9_next wsX9_isWithin := goodIn_r _ [10] (by decide +kernel) (by decide +kernel)
set_option maxRecDepth 20000 in
theorem gX9_next_X9_isWithin : GoodIn wsX9_next (va_wsS RX9 202 yX9_isWithin wsX9_isWithin) := goodIn_app (goodIn_of _ (by decide +kernel)) ggX9_next_X9_isWithin
set_option maxRecDepth 20000 in
theorem ggX9_next_X8_hasToken : GoodIn wsX9_next wsX8_hasToken := goodIn_r _ [15, 16, 17, 18, 19, 20, 14, 21, 22, 23, 24, 25, 26, 27, 28, 29, 30, 31, 32, 33, 34, 35, 36, 37, 38, 39, 9, 5, 10, 40, 41, 42, 43, 44, 45, 46, 47, 48, 49, 50, 51, 52, 53, 54, 55, 56, 57, 58, 59, 60, 61, 62, 63, 64, 65, 66, 67, 68, 69, 70, 71, 72, 73, 74, 75, 76, 77, 78, 79, 80, 81, 82, 83, 84, 85, 86, 87, 88, 89, 90, 91, 92, 93, 94, 95, 96, 97, 98, 99, 100, 101, 102, 103, 104, 105, 106, 107, 108, 109, 110, 111, 112, 113, 114, 115, 116, 117, 118, 119, 120, 121, 122, 123, 124, 125, 126, 127, 128, 129, 130, 131, 132, 133, 134, 135, 136, 137, 231, 232, 233, 234, 235, 236, 237, 238] (by decide +kernel) (by decide +kernel)
set_option maxRecDepth 20000 in
theorem gX9_next_X8_hasToken : GoodIn wsX9_next (wsV RX9 216 RX8 yX8_hasToken wsX8_hasToken) := goodIn_app (goodIn_of _ (by decide +kernel)) ggX9_next_X8_hasToken
set_option maxRecDepth 20000 in
theorem ggX9_next_X9_refuseToken : GoodIn wsX9_next wsX9_refuseToken := goodIn_r _ [141, 1, 142, 8, 9, 5, 10, 222, 223, 224, 225, 226, 227, 228, 229, 230] (by decide +kernel) (by decide +kernel)
set_option maxRecDepth 20000 in
theorem gX9_next_X9_refuseToken : GoodIn wsX9_next (wsV RX9 222 RX9 yX9_refuseToken wsX9_refuseToken) := goodIn_app (goodIn_of _ (by decide +kernel)) ggX9_next_X9_refuseToken
set_option maxRecDepth 20000 in
theorem ggX9_next_X8_takeToken : GoodIn wsX9_next wsX8_takeToken := goodIn_r _ [146, 16, 17, 18, 19, 20, 14, 21, 22, 23, 24, 25, 26, 27, 28, 29, 30, 31, 32, 33, 34, 35, 36, 37, 38, 39, 9, 5, 10, 40, 41, 42, 43, 44, 45, 46, 47, 48, 49, 50, 51, 52, 53, 54, 55, 56, 57, 58, 59, 60, 61, 62, 63, 64, 65, 66, 67, 68, 69, 70, 71, 72, 73, 74, 75, 76, 77, 78, 79, 80, 81, 82, 83, 84, 85, 86, 87, 88, 89, 90, 91, 92, 93, 94, 95, 96, 97, 98, 99, 100, 101, 102, 103, 104, 105, 106, 107, 108, 109, 110, 111, 112, 113, 114, 115, 116, 117, 118, 119, 120, 121, 122, 123, 124, 125, 126, 127, 128, 129, 130, 131, 132, 133, 134, 135, 136, 137, 147, 148, 149, 150, 151, 152, 153, 154, 155, 156, 157, 158, 159, 160, 161, 162, 163, 164, 165, 166, 167, 168, 169, 170, 171, 172, 173, 174, 175, 176, 177, 178, 179, 180, 181, 182, 183, 184, 185, 186, 187, 188, 189, 190, 191, 192, 193, 194, 195, 196, 197, 198, 199, 200, 201, 202, 203, 204, 205, 206, 207, 208, 209, 210, 211, 212, 213, 214, 215, 216, 217, 231, 232, 233, 234, 235, 236, 237, 238] (by decide +kernel) (by decide +kernel)
set_option maxRecDepth 20000 in
theorem gX9_next_X8_takeToken : GoodIn wsX9_next (wsV RX9 226 RX8 yX8_takeToken wsX8_takeToken) := goodIn_app (goodIn_of _ (by decide +kernel)) ggX9_next_X8_takeToken
set_option maxRecDepth 20000 in
theorem ggX9_next_X9_putInto : GoodIn wsX9_next wsX9_putInto := goodIn_r _ [220, 221, 24, 25, 26, 27, 28, 29, 30, 31, 32, 33, 34, 239, 235, 236, 237, 238] (by decide +kernel) (by decide +kernel)
set_option maxRecDepth 20000 in
theorem gX9_next_X9_putInto : GoodIn wsX9_next (va_wsS RX9 94 yX9_putInto wsX9_putInto) := goodIn_app (goodIn_of _ (by decide +kernel)) ggX9_next_X9_putInto
theorem dX9_next_0 : decode cX9_next 0 = .ok (.aload_n 0, 1) := by decide +kernel
theorem dX9_next_1 : decode cX9_next 1 = .ok (.iload_n 2, 1) := by decide +kernel
theorem dX9_next_2 : decode cX9_next 2 = .ok (.invokevirtual 60, 3) := by decide +kernel
theorem dX9_next_5 : decode cX9_next 5 = .ok (.astore_n 3, 1) := by decide +kernel
theorem dX9_next_6 : decode cX9_next 6 = .ok (.iload_n 1, 1) := by decide +kernel
theorem dX9_next_7 : decode cX9_next 7 = .ok (.iconst 2, 1) := by decide +kernel
theorem dX9_next_8 : decode cX9_next 8 = .ok (.invokestatic 202, 3) := by decide +kernel
theorem dX9_next_11 : decode cX9_next 11 = .ok (.ifCond .eq 7, 3) := by decide +kernel
theorem dX9_next_14 : decode cX9_next 14 = .ok (.aload_n 3, 1) := by decide +kernel
theorem dX9_next_15 : decode cX9_next 15 = .ok (.ifnonnull 5, 3) := by decide +kernel
theorem dX9_next_18 : decode cX9_next 18 = .ok (.iconst (-1), 1) := by decide +kernel
theorem dX9_next_19 : decode cX9_next 19 = .ok (.ireturn, 1) := by decide +kernel
theorem dX9_next_20 : decode cX9_next 20 = .ok (.aload_n 0, 1) := by decide +kernel
theorem dX9_next_21 : decode cX9_next 21 = .ok (.getfield 43, 3) := by decide +kernel
theorem dX9_next_24 : decode cX9_next 24 = .ok (.iload_n 1, 1) := by decide +kernel
theorem dX9_next_25 : decode cX9_next 25 = .ok (.aaload, 1) := by decide +kernel
theorem dX9_next_26 : decode cX9_next 26 = .ok (.astore 4, 2) := by decide +kernel
theorem dX9_next_28 : decode cX9_next 28 = .ok (.aload 4, 2) := by decide +kernel
theorem dX9_next_30 : decode cX9_next 30 = .ok (.ifnonnull 6, 3) := by decide +kernel
theorem dX9_next_33 : decode cX9_next 33 = .ok (.bipush (-4), 2) := by decide +kernel
theorem dX9_next_35 : decode cX9_next 35 = .ok (.ireturn, 1) := by decide +kernel
theorem dX9_next_36 : decode cX9_next 36 = .ok (.aload 4, 2) := by decide +kernel
theorem dX9_next_38 : decode cX9_next 38 = .ok (.invokevirtual 216, 3) := by decide +kernel
theorem dX9_next_41 : decode cX9_next 41 = .ok (.ifCond .ne 9, 3) := by decide +kernel
theorem dX9_next_44 : decode cX9_next 44 = .ok (.aload_n 0, 1) := by decide +kernel
theorem dX9_next_45 : decode cX9_next 45 = .ok (.iload_n 1, 1) := by decide +kernel
theorem dX9_next_46 : decode cX9_next 46 = .ok (.invokevirtual 222, 3) := by decide +kernel
theorem dX9_next_49 : decode cX9_next 49 = .ok (.ireturn, 1) := by decide +kernel
theorem dX9_next_50 : decode cX9_next 50 = .ok (.aload_n 3, 1) := by decide +kernel
theorem dX9_next_51 : decode cX9_next 51 = .ok (.aload 4, 2) := by decide +kernel
theorem dX9_next_53 : decode cX9_next 53 = .ok (.invokevirtual 226, 3) := by decide +kernel
theorem dX9_next_56 : decode cX9_next 56 = .ok (.invokestatic 94, 3) := by decide +kernel
theorem dX9_next_59 : decode cX9_next 59 = .ok (.ireturn, 1) := by decide +kernel
set_option maxRecDepth 20000 in
theorem ggX9_join_X9_slotAt : GoodIn wsX9_join wsX9_slotAt := goodIn_r _ [9, 10, 11, 12, 8, 13, 29, 30, 31, 32, 33, 34, 35, 36, 37] (by decide +kernel) (by decide +kernel)
set_option maxRecDepth 20000 in
theorem gX9_join_X9_slotAt : GoodIn wsX9_join (wsV RX9 60 RX9 yX9_slotAt wsX9_slotAt) := goodIn_app (goodIn_of _ (by decide +kernel)) ggX9_join_X9_slotAt
set_option maxRecDepth 20000 in
theorem ggX9_join_X9_isWithin : GoodIn wsX9_join wsX9_isWithin := goodIn_r _ [13] (by decide +kernel) (by decide +kernel)
set_option maxRecDepth 20000 in
theorem gX9_join_X9_isWithin : GoodIn wsX9_join (va_wsS RX9 202 yX9_isWithin wsX9_isWithin) := goodIn_app (goodIn_of _ (by decide +kernel)) ggX9_join_X9_isWithin
set_option maxRecDepth 20000 in
theorem ggX9_join_X9_refuseNull : GoodIn wsX9_join wsX9_refuseNull := goodIn_r _ [17, 18, 29, 30, 31, 32, 33, 34, 35, 36, 37] (by decide +kernel) (by decide +kernel)
set_option maxRecDepth 20000 in
theorem gX9_join_X9_refuseNull : GoodIn wsX9_join (wsV RX9 155 RX9 yX9_refuseNull wsX9_refuseNull) := goodIn_app (goodIn_of _ (by decide +kernel)) ggX9_join_X9_refuseNull
set_option maxRecDepth 20000 in
theorem ggX9_join_X2_init : GoodIn wsX9_join wsX2_init := goodIn_r _ [21, 22, 23, 24, 25, 26, 27, 38, 39, 40, 41, 42] (by decide +kernel) (by decide +kernel)
set_option maxRecDepth 20000 in
theorem gX9_join_X2_init : GoodIn wsX9_join (wsX2_init) := ggX9_join_X2_init
theorem dX9_join_0 : decode cX9_join 0 = .ok (.aload_n 0, 1) := by decide +kernel
theorem dX9_join_1 : decode cX9_join 1 = .ok (.iload_n 2, 1) := by decide +kernel
theorem dX9_join_2 : decode cX9_join 2 = .ok (.invokevirtual 60, 3) := by decide +kernel
theorem dX9_join_5 : decode cX9_join 5 = .ok (.astore_n 3, 1) := by decide +kernel
theorem dX9_join_6 : decode cX9_join 6 = .ok (.iload_n 1, 1) := by decide +kernel
theorem dX9_join_7 : decode cX9_join 7 = .ok (.iconst 3, 1) := by decide +kernel
theorem dX9_join_8 : decode cX9_join 8 = .ok (.invokestatic 202, 3) := by decide +kernel
theorem dX9_join_11 : decode cX9_join 11 = .ok (.ifCond .eq 7, 3) := by decide +kernel
theorem dX9_join_14 : decode cX9_join 14 = .ok (.aload_n 3, 1) := by decide +kernel
theorem dX9_join_15 : decode cX9_join 15 = .ok (.ifnonnull 5, 3) := by decide +kernel
theorem dX9_join_18 : decode cX9_join 18 = .ok (.iconst (-1), 1) := by decide +kernel
theorem dX9_join_19 : decode cX9_join 19 = .ok (.ireturn, 1) := by decide +kernel
theorem dX9_join_20 : decode cX9_join 20 = .ok (.aload_n 3, 1) := by decide +kernel
theorem dX9_join_21 : decode cX9_join 21 = .ok (.getfield 64, 3) := by decide +kernel
theorem dX9_join_24 : decode cX9_join 24 = .ok (.ifnonnull 8, 3) := by decide +kernel
theorem dX9_join_27 : decode cX9_join 27 = .ok (.aload_n 0, 1) := by decide +kernel
theorem dX9_join_28 : decode cX9_join 28 = .ok (.invokevirtual 155, 3) := by decide +kernel
theorem dX9_join_31 : decode cX9_join 31 = .ok (.ireturn, 1) := by decide +kernel
theorem dX9_join_32 : decode cX9_join 32 = .ok (.aload_n 0, 1) := by decide +kernel
theorem dX9_join_33 : decode cX9_join 33 = .ok (.getfield 49, 3) := by decide +kernel
theorem dX9_join_36 : decode cX9_join 36 = .ok (.iload_n 1, 1) := by decide +kernel
theorem dX9_join_37 : decode cX9_join 37 = .ok (.new 47, 3) := by decide +kernel
theorem dX9_join_40 : decode cX9_join 40 = .ok (.dup, 1) := by decide +kernel
theorem dX9_join_41 : decode cX9_join 41 = .ok (.aload_n 3, 1) := by decide +kernel
theorem dX9_join_42 : decode cX9_join 42 = .ok (.getfield 64, 3) := by decide +kernel
theorem dX9_join_45 : decode cX9_join 45 = .ok (.ldc 72, 2) := by decide +kernel
theorem dX9_join_47 : decode cX9_join 47 = .ok (.ldc 72, 2) := by decide +kernel
theorem dX9_join_49 : decode cX9_join 49 = .ok (.invokespecial 232, 3) := by decide +kernel
theorem dX9_join_52 : decode cX9_join 52 = .ok (.aastore, 1) := by decide +kernel
theorem dX9_join_53 : decode cX9_join 53 = .ok (.iconst 0, 1) := by decide +kernel
theorem dX9_join_54 : decode cX9_join 54 = .ok (.ireturn, 1) := by decide +kernel
set_option maxRecDepth 20000 in
theorem ggX9_add_X9_slotAt : GoodIn wsX9_add wsX9_slotAt := goodIn_r _ [6, 7, 8, 9, 5, 10, 245, 246, 247, 248, 249, 250, 251, 252, 253] (by decide +kernel) (by decide +kernel)
set_option maxRecDepth 20000 in
theorem gX9_add_X9_slotAt : GoodIn wsX9_add (wsV RX9 60 RX9 yX9_slotAt wsX9_slotAt) := goodIn_app (goodIn_of _ (by decide +kernel)) ggX9_add_X9_slotAt
set_option maxRecDepth 20000 in
theorem ggX9_add_X9_isWithin : GoodIn wsX9_add wsX9_isWithin := goodIn_r _ [10] (by decide +kernel) (by decide +kernel)
set_option maxRecDepth 20000 in
theorem gX9_add_X9_isWithin : GoodIn wsX9_add (va_wsS RX9 202 yX9_isWithin wsX9_isWithin) := goodIn_app (goodIn_of _ (by decide +kernel)) ggX9_add_X9_isWithin
set_option maxRecDepth 20000 in
theorem ggX9_add_X9_addTo : GoodIn wsX9_add wsX9_addTo := goodIn_r _ [13, 14, 15, 16, 17, 18, 19, 20, 21, 22, 23, 24, 25, 26, 27, 28, 29, 30, 31, 32, 33, 34, 35, 36, 37, 38, 39, 40, 41, 42, 43, 44, 45, 46, 47, 48, 49, 50, 51, 52, 53, 54, 55, 56, 57, 58, 59, 60, 61, 62, 63, 64, 65, 66, 67, 68, 69, 70, 71, 72, 73, 74, 75, 76, 77, 78, 79, 80, 81, 82, 83, 84, 85, 86, 87, 88, 89, 90, 91, 92, 93, 94, 95, 96, 97, 98, 99, 100, 101, 102, 103, 104, 105, 106, 107, 108, 109, 110, 111, 112, 113, 114, 115, 116, 117, 118, 119, 120, 121, 122, 123, 124, 125, 126, 127, 128, 129, 130, 131, 132, 133, 134, 135, 136, 137, 138, 139, 140, 141, 142, 143, 144, 145, 146, 147, 148, 149, 150, 151, 152, 153, 154, 155, 156, 157, 158, 159, 160, 161, 162, 163, 164, 165, 166, 167, 168, 169, 170, 171, 172, 173, 174, 175, 176, 177, 178, 179, 180, 181, 182, 183, 184, 185, 186, 187, 188, 189, 190, 191, 192, 193, 194, 195, 196, 197, 198, 199, 200, 201, 202, 203, 204, 205, 206, 207, 208, 209, 210, 211, 212, 213, 214, 215, 216, 217, 218, 219, 220, 221, 222, 223, 224, 225, 226, 227, 228, 229, 230, 231, 232, 233, 234, 235, 236, 237, 238, 239, 240, 241, 242, 243, 244, 255, 256, 257, 258, 259, 260, 261, 262, 263, 264, 265, 266, 267] (by decide +kernel) (by decide +kernel)
set_option maxRecDepth 20000 in
theorem gX9_add_X9_addTo : GoodIn wsX9_add (va_wsS RX9 240 yX9_addTo wsX9_addTo) := goodIn_app (goodIn_of _ (by decide +kernel)) ggX9_add_X9_addTo
theorem dX9_add_0 : decode cX9_add 0 = .ok (.aload_n 0, 1) := by decide +kernel
theorem dX9_add_1 : decode cX9_add 1 = .ok (.iload_n 2, 1) := by decide +kernel
theorem dX9_add_2 : decode cX9_add 2 = .ok (.invokevirtual 60, 3) := by decide +kernel
theorem dX9_add_5 : decode cX9_add 5 = .ok (.astore_n 3, 1) := by decide +kernel
theorem dX9_add_6 : decode cX9_add 6 = .ok (.iload_n 1, 1) := by decide +kernel
theorem dX9_add_7 : decode cX9_add 7 = .ok (.iconst 3, 1) := by decide +kernel
theorem dX9_add_8 : decode cX9_add 8 = .ok (.invokestatic 202, 3) := by decide +kernel
theorem dX9_add_11 : decode cX9_add 11 = .ok (.ifCond .eq 7, 3) := by decide +kernel
theorem dX9_add_14 : decode cX9_add 14 = .ok (.aload_n 3, 1) := by decide +kernel
theorem dX9_add_15 : decode cX9_add 15 = .ok (.ifnonnull 5, 3) := by decide +kernel
theorem dX9_add_18 : decode cX9_add 18 = .ok (.iconst (-1), 1) := by decide +kernel
theorem dX9_add_19 : decode cX9_add 19 = .ok (.ireturn, 1) := by decide +kernel
theorem dX9_add_20 : decode cX9_add 20 = .ok (.aload_n 0, 1) := by decide +kernel
theorem dX9_add_21 : decode cX9_add 21 = .ok (.getfield 49, 3) := by decide +kernel
theorem dX9_add_24 : decode cX9_add 24 = .ok (.iload_n 1, 1) := by decide +kernel
theorem dX9_add_25 : decode cX9_add 25 = .ok (.aaload, 1) := by decide +kernel
theorem dX9_add_26 : decode cX9_add 26 = .ok (.astore 4, 2) := by decide +kernel
theorem dX9_add_28 : decode cX9_add 28 = .ok (.aload 4, 2) := by decide +kernel
theorem dX9_add_30 : decode cX9_add 30 = .ok (.ifnonnull 6, 3) := by decide +kernel
theorem dX9_add_33 : decode cX9_add 33 = .ok (.bipush (-4), 2) := by decide +kernel
theorem dX9_add_35 : decode cX9_add 35 = .ok (.ireturn, 1) := by decide +kernel
theorem dX9_add_36 : decode cX9_add 36 = .ok (.aload 4, 2) := by decide +kernel
theorem dX9_add_38 : decode cX9_add 38 = .ok (.aload_n 3, 1) := by decide +kernel
theorem dX9_add_39 : decode cX9_add 39 = .ok (.getfield 64, 3) := by decide +kernel
theorem dX9_add_42 : decode cX9_add 42 = .ok (.ifnonnull 8, 3) := by decide +kernel
theorem dX9_add_45 : decode cX9_add 45 = .ok (.ldc 238, 2) := by decide +kernel
theorem dX9_add_47 : decode cX9_add 47 = .ok (.goto 7, 3) := by decide +kernel
theorem dX9_add_50 : decode cX9_add 50 = .ok (.aload_n 3, 1) := by decide +kernel
theorem dX9_add_51 : decode cX9_add 51 = .ok (.getfield 64, 3) := by decide +kernel
theorem dX9_add_54 : decode cX9_add 54 = .ok (.invokestatic 240, 3) := by decide +kernel
theorem dX9_add_57 : decode cX9_add 57 = .ok (.ireturn, 1) := by decide +kernel
set_option maxRecDepth 20000 in
theorem ggX9_joined_X9_slotAt : GoodIn wsX9_joined wsX9_slotAt := goodIn_r _ [6, 7, 8, 9, 5, 10, 236, 237, 238, 239, 240, 241, 242, 243, 244] (by decide +kernel) (by decide +kernel)
set_option maxRecDepth 20000 in
theorem gX9_joined_X9_slotAt : GoodIn wsX9_joined (wsV RX9 60 RX9 yX9_slotAt wsX9_slotAt) := goodIn_app (goodIn_of _ (by decide +kernel)) ggX9_joined_X9_slotAt
set_option maxRecDepth 20000 in
theorem ggX9_joined_X9_isWithin : GoodIn wsX9_joined wsX9_isWithin := goodIn_r _ [10] (by decide +kernel) (by decide +kernel)
set_option maxRecDepth 20000 in
theorem gX9_joined_X9_isWithin : GoodIn wsX9_joined (va_wsS RX9 202 yX9_isWithin wsX9_isWithin) := goodIn_app (goodIn_of _ (by decide +kernel)) ggX9_joined_X9_isWithin
set_option maxRecDepth 20000 in
theorem ggX9_joined_X2_result : GoodIn wsX9_joined wsX2_result := goodIn_r _ [15, 16, 17, 18, 19, 20, 21, 14, 22, 23, 24, 25, 26, 27, 28, 29, 30, 31, 32, 33, 34, 35, 36, 37, 38, 39, 40, 41, 42, 43, 44, 45, 46, 47, 48, 49, 50, 51, 52, 53, 54, 55, 56, 57, 58, 59, 60, 61, 62, 63, 64, 65, 66, 67, 68, 69, 70, 71, 72, 73, 74, 75, 76, 77, 78, 79, 80, 81, 82, 83, 84, 85, 86, 87, 88, 89, 90, 91, 92, 93, 94, 95, 96, 97, 98, 99, 100, 101, 102, 103, 104, 105, 106, 107, 108, 109, 110, 111, 112, 113, 114, 115, 116, 117, 118, 119, 120, 121, 122, 123, 124, 125, 126, 127, 128, 129, 130, 131, 132, 133, 134, 135, 136, 137, 138, 139, 140, 141, 142, 143, 144, 145, 146, 147, 148, 149, 150, 151, 152, 153, 154, 155, 156, 157, 158, 159, 160, 161, 162, 163, 164, 165, 166, 167, 168, 169, 170, 171, 172, 173, 174, 175, 176, 177, 178, 179, 180, 181, 182, 183, 184, 185, 186, 187, 188, 189, 190, 191, 192, 193, 194, 195, 196, 197, 198, 199, 200, 201, 202, 203, 204, 205, 206, 207, 208, 209, 210, 211, 212, 213, 214, 215, 216, 217, 218, 219, 220, 221, 222, 223, 224, 225, 226, 227, 228, 229, 230, 231, 245, 246, 247, 248, 249, 250, 251, 252, 253, 254, 255, 256, 257] (by decide +kernel) (by decide +kernel)
set_option maxRecDepth 20000 in
theorem gX9_joined_X2_result : GoodIn wsX9_joined (wsV RX9 250 RX2 yX2_result wsX2_result) := goodIn_app (goodIn_of _ (by decide +kernel)) ggX9_joined_X2_result
set_option maxRecDepth 20000 in
theorem ggX9_joined_X9_putInto : GoodIn wsX9_joined wsX9_putInto := goodIn_r _ [234, 235, 133, 134, 120, 135, 136, 137, 138, 139, 140, 141, 142, 258, 254, 255, 256, 257] (by decide +kernel) (by decide +kernel)
set_option maxRecDepth 20000 in
theorem gX9_joined_X9_putInto : GoodIn wsX9_joined (va_wsS RX9 94 yX9_putInto wsX9_putInto) := goodIn_app (goodIn_of _ (by decide +kernel)) ggX9_joined_X9_putInto
theorem dX9_joined_0 : decode cX9_joined 0 = .ok (.aload_n 0, 1) := by decide +kernel
theorem dX9_joined_1 : decode cX9_joined 1 = .ok (.iload_n 2, 1) := by decide +kernel
theorem dX9_joined_2 : decode cX9_joined 2 = .ok (.invokevirtual 60, 3) := by decide +kernel
theorem dX9_joined_5 : decode cX9_joined 5 = .ok (.astore_n 3, 1) := by decide +kernel
theorem dX9_joined_6 : decode cX9_joined 6 = .ok (.iload_n 1, 1) := by decide +kernel
theorem dX9_joined_7 : decode cX9_joined 7 = .ok (.iconst 3, 1) := by decide +kernel
theorem dX9_joined_8 : decode cX9_joined 8 = .ok (.invokestatic 202, 3) := by decide +kernel
theorem dX9_joined_11 : decode cX9_joined 11 = .ok (.ifCond .eq 7, 3) := by decide +kernel
theorem dX9_joined_14 : decode cX9_joined 14 = .ok (.aload_n 3, 1) := by decide +kernel
theorem dX9_joined_15 : decode cX9_joined 15 = .ok (.ifnonnull 5, 3) := by decide +kernel
theorem dX9_joined_18 : decode cX9_joined 18 = .ok (.iconst (-1), 1) := by decide +kernel
theorem dX9_joined_19 : decode cX9_joined 19 = .ok (.ireturn, 1) := by decide +kernel
theorem dX9_joined_20 : decode cX9_joined 20 = .ok (.aload_n 0, 1) := by decide +kernel
theorem dX9_joined_21 : decode cX9_joined 21 = .ok (.getfield 49, 3) := by decide +kernel
theorem dX9_joined_24 : decode cX9_joined 24 = .ok (.iload_n 1, 1) := by decide +kernel
theorem dX9_joined_25 : decode cX9_joined 25 = .ok (.aaload, 1) := by decide +kernel
theorem dX9_joined_26 : decode cX9_joined 26 = .ok (.astore 4, 2) := by decide +kernel
theorem dX9_joined_28 : decode cX9_joined 28 = .ok (.aload 4, 2) := by decide +kernel
theorem dX9_joined_30 : decode cX9_joined 30 = .ok (.ifnonnull 6, 3) := by decide +kernel
theorem dX9_joined_33 : decode cX9_joined 33 = .ok (.bipush (-4), 2) := by decide +kernel
theorem dX9_joined_35 : decode cX9_joined 35 = .ok (.ireturn, 1) := by decide +kernel
theorem dX9_joined_36 : decode cX9_joined 36 = .ok (.aload_n 3, 1) := by decide +kernel
theorem dX9_joined_37 : decode cX9_joined 37 = .ok (.aload 4, 2) := by decide +kernel
theorem dX9_joined_39 : decode cX9_joined 39 = .ok (.invokevirtual 250, 3) := by decide +kernel
theorem dX9_joined_42 : decode cX9_joined 42 = .ok (.invokestatic 94, 3) := by decide +kernel
theorem dX9_joined_45 : decode cX9_joined 45 = .ok (.ireturn, 1) := by decide +kernel
set_option maxRecDepth 20000 in
theorem ggX9_joinedLength_X9_isWithin : GoodIn wsX9_joinedLength wsX9_isWithin := goodIn_r _ [5] (by decide +kernel) (by decide +kernel)
set_option maxRecDepth 20000 in
theorem gX9_joinedLength_X9_isWithin : GoodIn wsX9_joinedLength (va_wsS RX9 202 yX9_isWithin wsX9_isWithin) := goodIn_app (goodIn_of _ (by decide +kernel)) ggX9_joinedLength_X9_isWithin
set_option maxRecDepth 20000 in
theorem ggX9_joinedLength_X2_resultLength : GoodIn wsX9_joinedLength wsX2_resultLength := goodIn_r _ [10, 11, 12, 13, 14, 15, 16, 17, 18, 19, 20, 21, 22, 23, 24, 25, 26, 36, 37, 38, 39, 40, 41, 42, 43, 44] (by decide +kernel) (by decide +kernel)
set_option maxRecDepth 20000 in
theorem gX9_joinedLength_X2_resultLength : GoodIn wsX9_joinedLength (wsV RX9 235 RX2 yX2_resultLength wsX2_resultLength) := goodIn_app (goodIn_of _ (by decide +kernel)) ggX9_joinedLength_X2_resultLength
theorem dX9_joinedLength_0 : decode cX9_joinedLength 0 = .ok (.iload_n 1, 1) := by decide +kernel
theorem dX9_joinedLength_1 : decode cX9_joinedLength 1 = .ok (.iconst 3, 1) := by decide +kernel
theorem dX9_joinedLength_2 : decode cX9_joinedLength 2 = .ok (.invokestatic 202, 3) := by decide +kernel
theorem dX9_joinedLength_5 : decode cX9_joinedLength 5 = .ok (.ifCond .ne 5, 3) := by decide +kernel
theorem dX9_joinedLength_8 : decode cX9_joinedLength 8 = .ok (.iconst (-1), 1) := by decide +kernel
theorem dX9_joinedLength_9 : decode cX9_joinedLength 9 = .ok (.ireturn, 1) := by decide +kernel
theorem dX9_joinedLength_10 : decode cX9_joinedLength 10 = .ok (.aload_n 0, 1) := by decide +kernel
theorem dX9_joinedLength_11 : decode cX9_joinedLength 11 = .ok (.getfield 49, 3) := by decide +kernel
theorem dX9_joinedLength_14 : decode cX9_joinedLength 14 = .ok (.iload_n 1, 1) := by decide +kernel
theorem dX9_joinedLength_15 : decode cX9_joinedLength 15 = .ok (.aaload, 1) := by decide +kernel
theorem dX9_joinedLength_16 : decode cX9_joinedLength 16 = .ok (.astore_n 2, 1) := by decide +kernel
theorem dX9_joinedLength_17 : decode cX9_joinedLength 17 = .ok (.aload_n 2, 1) := by decide +kernel
theorem dX9_joinedLength_18 : decode cX9_joinedLength 18 = .ok (.ifnonnull 6, 3) := by decide +kernel
theorem dX9_joinedLength_21 : decode cX9_joinedLength 21 = .ok (.bipush (-4), 2) := by decide +kernel
theorem dX9_joinedLength_23 : decode cX9_joinedLength 23 = .ok (.ireturn, 1) := by decide +kernel
theorem dX9_joinedLength_24 : decode cX9_joinedLength 24 = .ok (.aload_n 2, 1) := by decide +kernel
theorem dX9_joinedLength_25 : decode cX9_joinedLength 25 = .ok (.invokevirtual 235, 3) := by decide +kernel
theorem dX9_joinedLength_28 : decode cX9_joinedLength 28 = .ok (.ireturn, 1) := by decide +kernel
theorem dX9_refusals_0 : decode cX9_refusals 0 = .ok (.iload_n 1, 1) := by decide +kernel
theorem dX9_refusals_1 : decode cX9_refusals 1 = .ok (.lookupswitch 37 #[(0, 27), (1, 32)], 27) := by decide +kernel
theorem dX9_refusals_28 : decode cX9_refusals 28 = .ok (.aload_n 0, 1) := by decide +kernel
theorem dX9_refusals_29 : decode cX9_refusals 29 = .ok (.getfield 53, 3) := by decide +kernel
theorem dX9_refusals_32 : decode cX9_refusals 32 = .ok (.ireturn, 1) := by decide +kernel
theorem dX9_refusals_33 : decode cX9_refusals 33 = .ok (.aload_n 0, 1) := by decide +kernel
theorem dX9_refusals_34 : decode cX9_refusals 34 = .ok (.getfield 57, 3) := by decide +kernel
theorem dX9_refusals_37 : decode cX9_refusals 37 = .ok (.ireturn, 1) := by decide +kernel
theorem dX9_refusals_38 : decode cX9_refusals 38 = .ok (.iconst (-1), 1) := by decide +kernel
theorem dX9_refusals_39 : decode cX9_refusals 39 = .ok (.ireturn, 1) := by decide +kernel
set_option maxRecDepth 20000 in
theorem ggX9_slotAt_X9_isWithin : GoodIn wsX9_slotAt wsX9_isWithin := goodIn_r _ [5] (by decide +kernel) (by decide +kernel)
set_option maxRecDepth 20000 in
theorem gX9_slotAt_X9_isWithin : GoodIn wsX9_slotAt (va_wsS RX9 202 yX9_isWithin wsX9_isWithin) := goodIn_app (goodIn_of _ (by decide +kernel)) ggX9_slotAt_X9_isWithin
theorem dX9_slotAt_0 : decode cX9_slotAt 0 = .ok (.iload_n 1, 1) := by decide +kernel
theorem dX9_slotAt_1 : decode cX9_slotAt 1 = .ok (.bipush 6, 2) := by decide +kernel
theorem dX9_slotAt_3 : decode cX9_slotAt 3 = .ok (.invokestatic 202, 3) := by decide +kernel
theorem dX9_slotAt_6 : decode cX9_slotAt 6 = .ok (.ifCond .eq 12, 3) := by decide +kernel
theorem dX9_slotAt_9 : decode cX9_slotAt 9 = .ok (.aload_n 0, 1) := by decide +kernel
theorem dX9_slotAt_10 : decode cX9_slotAt 10 = .ok (.getfield 11, 3) := by decide +kernel
theorem dX9_slotAt_13 : decode cX9_slotAt 13 = .ok (.iload_n 1, 1) := by decide +kernel
theorem dX9_slotAt_14 : decode cX9_slotAt 14 = .ok (.aaload, 1) := by decide +kernel
theorem dX9_slotAt_15 : decode cX9_slotAt 15 = .ok (.goto 4, 3) := by decide +kernel
theorem dX9_slotAt_18 : decode cX9_slotAt 18 = .ok (.aconst_null, 1) := by decide +kernel
theorem dX9_slotAt_19 : decode cX9_slotAt 19 = .ok (.areturn, 1) := by decide +kernel
set_option maxRecDepth 20000 in
theorem ggX9_firstBrokenPlace_X7_rewind : GoodIn wsX9_firstBrokenPlace wsX7_rewind := goodIn_r _ [6, 7, 8, 253, 254, 255, 256, 257, 258, 259] (by decide +kernel) (by decide +kernel)
set_option maxRecDepth 20000 in
theorem gX9_firstBrokenPlace_X7_rewind : GoodIn wsX9_firstBrokenPlace (wsV RX9 131 RX7 yX7_rewind wsX7_rewind) := goodIn_app (goodIn_of _ (by decide +kernel)) ggX9_firstBrokenPlace_X7_rewind
set_option maxRecDepth 20000 in
theorem ggX9_firstBrokenPlace_X7_readEntry : GoodIn wsX9_firstBrokenPlace wsX7_readEntry := goodIn_r _ [12, 8, 7, 13, 14, 15, 16, 17, 18, 19, 20, 21, 22, 23, 24, 25, 26, 27, 28, 5, 29, 30, 31, 32, 33, 34, 35, 36, 37, 38, 39, 40, 41, 42, 43, 44, 45, 46, 47, 48, 49, 50, 51, 52, 53, 54, 55, 56, 57, 58, 59, 60, 61, 62, 63, 64, 65, 66, 67, 68, 69, 70, 71, 72, 73, 74, 75, 76, 77, 78, 79, 80, 81, 82, 83, 84, 85, 86, 87, 88, 89, 90, 91, 92, 93, 94, 95, 96, 97, 98, 99, 100, 101, 102, 103, 104, 105, 106, 107, 108, 253, 254, 255, 256, 257, 258, 259, 260, 261, 262, 263] (by decide +kernel) (by decide +kernel)
set_option maxRecDepth 20000 in
theorem gX9_firstBrokenPlace_X7_readEntry : GoodIn wsX9_firstBrokenPlace (wsV RX9 134 RX7 yX7_readEntry wsX7_readEntry) := goodIn_app (goodIn_of _ (by decide +kernel)) ggX9_firstBrokenPlace_X7_readEntry
set_option maxRecDepth 20000 in
theorem ggX9_firstBrokenPlace_X7_brokenPlace : GoodIn wsX9_firstBrokenPlace wsX7_brokenPlace := goodIn_r _ [112, 92, 93, 8, 113, 114, 115, 5, 116, 117, 118, 119, 120, 17, 121, 122, 123, 21, 124, 23, 125, 25, 47, 126, 127, 128, 129, 130, 131, 46, 132, 133, 134, 135, 136, 137, 138, 139, 140, 141, 142, 143, 50, 144, 145, 146, 147, 148, 149, 150, 151, 152, 153, 154, 155, 156, 157, 158, 159, 160, 49, 51, 161, 162, 163, 164, 165, 166, 167, 168, 169, 170, 171, 172, 173, 174, 175, 176, 177, 178, 179, 180, 181, 182, 63, 183, 184, 94, 95, 96, 97, 98, 99, 100, 101, 86, 34, 35, 36, 37, 13, 14, 15, 16, 18, 19, 20, 22, 24, 38, 39, 40, 41, 42, 43, 44, 45, 48, 52, 53, 54, 55, 56, 57, 58, 59, 60, 61, 62, 64, 65, 66, 67, 68, 69, 70, 185, 186, 187, 188, 189, 190, 191, 192, 193, 194, 195, 196, 197, 198, 199, 200, 201, 202, 203, 204, 205, 206, 207, 208, 209, 210, 211, 212, 213, 214, 215, 216, 217, 218, 219, 220, 221, 222, 223, 224, 225, 226, 227, 228, 229, 230, 231, 232, 233, 234, 235, 236, 237, 238, 239, 240, 241, 242, 243, 253, 254, 255, 256, 257, 258, 259, 260, 261, 262, 263] (by decide +kernel) (by decide +kernel)
set_option maxRecDepth 20000 in
theorem gX9_firstBrokenPlace_X7_brokenPlace : GoodIn wsX9_firstBrokenPlace (wsV RX9 257 RX7 yX7_brokenPlace wsX7_brokenPlace) := goodIn_app (goodIn_of _ (by decide +kernel)) ggX9_firstBrokenPlace_X7_brokenPlace
theorem dX9_firstBrokenPlace_0 : decode cX9_firstBrokenPlace 0 = .ok (.aload_n 0, 1) := by decide +kernel
theorem dX9_firstBrokenPlace_1 : decode cX9_firstBrokenPlace 1 = .ok (.getfield 19, 3) := by decide +kernel
theorem dX9_firstBrokenPlace_4 : decode cX9_firstBrokenPlace 4 = .ok (.invokevirtual 131, 3) := by decide +kernel
theorem dX9_firstBrokenPlace_7 : decode cX9_firstBrokenPlace 7 = .ok (.iconst 0, 1) := by decide +kernel
theorem dX9_firstBrokenPlace_8 : decode cX9_firstBrokenPlace 8 = .ok (.istore_n 1, 1) := by decide +kernel
theorem dX9_firstBrokenPlace_9 : decode cX9_firstBrokenPlace 9 = .ok (.iload_n 1, 1) := by decide +kernel
theorem dX9_firstBrokenPlace_10 : decode cX9_firstBrokenPlace 10 = .ok (.sipush 300, 3) := by decide +kernel
theorem dX9_firstBrokenPlace_13 : decode cX9_firstBrokenPlace 13 = .ok (.if_icmp .gt 35, 3) := by decide +kernel
theorem dX9_firstBrokenPlace_16 : decode cX9_firstBrokenPlace 16 = .ok (.aload_n 0, 1) := by decide +kernel
theorem dX9_firstBrokenPlace_17 : decode cX9_firstBrokenPlace 17 = .ok (.getfield 19, 3) := by decide +kernel
theorem dX9_firstBrokenPlace_20 : decode cX9_firstBrokenPlace 20 = .ok (.invokevirtual 134, 3) := by decide +kernel
theorem dX9_firstBrokenPlace_23 : decode cX9_firstBrokenPlace 23 = .ok (.ifCond .eq 25, 3) := by decide +kernel
theorem dX9_firstBrokenPlace_26 : decode cX9_firstBrokenPlace 26 = .ok (.aload_n 0, 1) := by decide +kernel
theorem dX9_firstBrokenPlace_27 : decode cX9_firstBrokenPlace 27 = .ok (.getfield 19, 3) := by decide +kernel
theorem dX9_firstBrokenPlace_30 : decode cX9_firstBrokenPlace 30 = .ok (.invokevirtual 257, 3) := by decide +kernel
theorem dX9_firstBrokenPlace_33 : decode cX9_firstBrokenPlace 33 = .ok (.istore_n 2, 1) := by decide +kernel
theorem dX9_firstBrokenPlace_34 : decode cX9_firstBrokenPlace 34 = .ok (.iload_n 2, 1) := by decide +kernel
theorem dX9_firstBrokenPlace_35 : decode cX9_firstBrokenPlace 35 = .ok (.bipush (-5), 2) := by decide +kernel
theorem dX9_firstBrokenPlace_37 : decode cX9_firstBrokenPlace 37 = .ok (.if_icmp .eq 5, 3) := by decide +kernel
theorem dX9_firstBrokenPlace_40 : decode cX9_firstBrokenPlace 40 = .ok (.iload_n 2, 1) := by decide +kernel
theorem dX9_firstBrokenPlace_41 : decode cX9_firstBrokenPlace 41 = .ok (.ireturn, 1) := by decide +kernel
theorem dX9_firstBrokenPlace_42 : decode cX9_firstBrokenPlace 42 = .ok (.iinc 1 1, 3) := by decide +kernel
theorem dX9_firstBrokenPlace_45 : decode cX9_firstBrokenPlace 45 = .ok (.goto (-36), 3) := by decide +kernel
theorem dX9_firstBrokenPlace_48 : decode cX9_firstBrokenPlace 48 = .ok (.bipush (-5), 2) := by decide +kernel
theorem dX9_firstBrokenPlace_50 : decode cX9_firstBrokenPlace 50 = .ok (.ireturn, 1) := by decide +kernel
set_option maxRecDepth 20000 in
theorem ggX9_tokenizeSlots_X9_slotAt : GoodIn wsX9_tokenizeSlots wsX9_slotAt := goodIn_r _ [5, 6, 7, 8, 4, 9, 160, 161, 162, 163, 164, 165, 166, 167, 168] (by decide +kernel) (by decide +kernel)
set_option maxRecDepth 20000 in
theorem gX9_tokenizeSlots_X9_slotAt : GoodIn wsX9_tokenizeSlots (wsV RX9 60 RX9 yX9_slotAt wsX9_slotAt) := goodIn_app (goodIn_of _ (by decide +kernel)) ggX9_tokenizeSlots_X9_slotAt
set_option maxRecDepth 20000 in
theorem ggX9_tokenizeSlots_X9_isWithin : GoodIn wsX9_tokenizeSlots wsX9_isWithin := goodIn_r _ [9] (by decide +kernel) (by decide +kernel)
set_option maxRecDepth 20000 in
theorem gX9_tokenizeSlots_X9_isWithin : GoodIn wsX9_tokenizeSlots (va_wsS RX9 202 yX9_isWithin wsX9_isWithin) := goodIn_app (goodIn_of _ (by decide +kernel)) ggX9_tokenizeSlots_X9_isWithin
set_option maxRecDepth 20000 in
theorem ggX9_tokenizeSlots_X9_refuseNull : GoodIn wsX9_tokenizeSlots wsX9_refuseNull := goodIn_r _ [13, 14, 160, 161, 162, 163, 164, 165, 166, 167, 168] (by decide +kernel) (by decide +kernel)
set_option maxRecDepth 20000 in
theorem gX9_tokenizeSlots_X9_refuseNull : GoodIn wsX9_tokenizeSlots (wsV RX9 155 RX9 yX9_refuseNull wsX9_refuseNull) := goodIn_app (goodIn_of _ (by decide +kernel)) ggX9_tokenizeSlots_X9_refuseNull
set_option maxRecDepth 20000 in
theorem ggX9_tokenizeSlots_X9_makeTokenizer : GoodIn wsX9_tokenizeSlots wsX9_makeTokenizer := goodIn_r _ [18, 19, 20, 21, 22, 7, 8, 4, 9, 23, 24, 25, 26, 27, 28, 29, 30, 31, 32, 33, 34, 35, 36, 37, 38, 39, 40, 41, 42, 43, 44, 45, 46, 47, 48, 49, 50, 51, 52, 53, 54, 55, 56, 57, 58, 59, 60, 61, 62, 63, 64, 65, 66, 67, 68, 69, 70, 71, 72, 73, 74, 75, 76, 77, 78, 79, 80, 81, 82, 83, 84, 85, 86, 87, 88, 89, 90, 91, 92, 93, 94, 95, 96, 97, 98, 99, 100, 101, 102, 103, 104, 105, 106, 107, 108, 109, 110, 111, 112, 113, 114, 115, 116, 117, 118, 119, 120, 121, 122, 123, 124, 125, 126, 127, 128, 129, 130, 131, 132, 133, 134, 135, 136, 137, 138, 139, 140, 141, 142, 143, 144, 145, 146, 147, 148, 149, 150, 151, 152, 153, 154, 155, 156, 157, 158, 169, 170, 171, 172, 160, 161, 162, 163, 164, 165, 166, 167, 168, 173, 174, 175, 176] (by decide +kernel) (by decide +kernel)
set_option maxRecDepth 20000 in
theorem gX9_tokenizeSlots_X9_makeTokenizer : GoodIn wsX9_tokenizeSlots (wsV RX9 208 RX9 yX9_makeTokenizer wsX9_makeTokenizer) := goodIn_app (goodIn_of _ (by decide +kernel)) ggX9_tokenizeSlots_X9_makeTokenizer
theorem dX9_tokenizeSlots_0 : decode cX9_tokenizeSlots 0 = .ok (.aload_n 0, 1) := by decide +kernel
theorem dX9_tokenizeSlots_1 : decode cX9_tokenizeSlots 1 = .ok (.iload_n 2, 1) := by decide +kernel
theorem dX9_tokenizeSlots_2 : decode cX9_tokenizeSlots 2 = .ok (.invokevirtual 60, 3) := by decide +kernel
theorem dX9_tokenizeSlots_5 : decode cX9_tokenizeSlots 5 = .ok (.astore 5, 2) := by decide +kernel
theorem dX9_tokenizeSlots_7 : decode cX9_tokenizeSlots 7 = .ok (.aload_n 0, 1) := by decide +kernel
theorem dX9_tokenizeSlots_8 : decode cX9_tokenizeSlots 8 = .ok (.iload_n 3, 1) := by decide +kernel
theorem dX9_tokenizeSlots_9 : decode cX9_tokenizeSlots 9 = .ok (.invokevirtual 60, 3) := by decide +kernel
theorem dX9_tokenizeSlots_12 : decode cX9_tokenizeSlots 12 = .ok (.astore 6, 2) := by decide +kernel
theorem dX9_tokenizeSlots_14 : decode cX9_tokenizeSlots 14 = .ok (.iload_n 1, 1) := by decide +kernel
theorem dX9_tokenizeSlots_15 : decode cX9_tokenizeSlots 15 = .ok (.iconst 2, 1) := by decide +kernel
theorem dX9_tokenizeSlots_16 : decode cX9_tokenizeSlots 16 = .ok (.invokestatic 202, 3) := by decide +kernel
theorem dX9_tokenizeSlots_19 : decode cX9_tokenizeSlots 19 = .ok (.ifCond .eq 13, 3) := by decide +kernel
theorem dX9_tokenizeSlots_22 : decode cX9_tokenizeSlots 22 = .ok (.aload 5, 2) := by decide +kernel
theorem dX9_tokenizeSlots_24 : decode cX9_tokenizeSlots 24 = .ok (.ifnull 8, 3) := by decide +kernel
theorem dX9_tokenizeSlots_27 : decode cX9_tokenizeSlots 27 = .ok (.aload 6, 2) := by decide +kernel
theorem dX9_tokenizeSlots_29 : decode cX9_tokenizeSlots 29 = .ok (.ifnonnull 5, 3) := by decide +kernel
theorem dX9_tokenizeSlots_32 : decode cX9_tokenizeSlots 32 = .ok (.iconst (-1), 1) := by decide +kernel
theorem dX9_tokenizeSlots_33 : decode cX9_tokenizeSlots 33 = .ok (.ireturn, 1) := by decide +kernel
theorem dX9_tokenizeSlots_34 : decode cX9_tokenizeSlots 34 = .ok (.aload 6, 2) := by decide +kernel
theorem dX9_tokenizeSlots_36 : decode cX9_tokenizeSlots 36 = .ok (.getfield 64, 3) := by decide +kernel
theorem dX9_tokenizeSlots_39 : decode cX9_tokenizeSlots 39 = .ok (.ifnonnull 6, 3) := by decide +kernel
theorem dX9_tokenizeSlots_42 : decode cX9_tokenizeSlots 42 = .ok (.bipush (-2), 2) := by decide +kernel
theorem dX9_tokenizeSlots_44 : decode cX9_tokenizeSlots 44 = .ok (.ireturn, 1) := by decide +kernel
theorem dX9_tokenizeSlots_45 : decode cX9_tokenizeSlots 45 = .ok (.aload 5, 2) := by decide +kernel
theorem dX9_tokenizeSlots_47 : decode cX9_tokenizeSlots 47 = .ok (.getfield 64, 3) := by decide +kernel
theorem dX9_tokenizeSlots_50 : decode cX9_tokenizeSlots 50 = .ok (.ifnonnull 8, 3) := by decide +kernel
theorem dX9_tokenizeSlots_53 : decode cX9_tokenizeSlots 53 = .ok (.aload_n 0, 1) := by decide +kernel
theorem dX9_tokenizeSlots_54 : decode cX9_tokenizeSlots 54 = .ok (.invokevirtual 155, 3) := by decide +kernel
theorem dX9_tokenizeSlots_57 : decode cX9_tokenizeSlots 57 = .ok (.ireturn, 1) := by decide +kernel
theorem dX9_tokenizeSlots_58 : decode cX9_tokenizeSlots 58 = .ok (.aload_n 0, 1) := by decide +kernel
theorem dX9_tokenizeSlots_59 : decode cX9_tokenizeSlots 59 = .ok (.iload_n 1, 1) := by decide +kernel
theorem dX9_tokenizeSlots_60 : decode cX9_tokenizeSlots 60 = .ok (.aload 5, 2) := by decide +kernel
theorem dX9_tokenizeSlots_62 : decode cX9_tokenizeSlots 62 = .ok (.getfield 64, 3) := by decide +kernel
theorem dX9_tokenizeSlots_65 : decode cX9_tokenizeSlots 65 = .ok (.aload 6, 2) := by decide +kernel
theorem dX9_tokenizeSlots_67 : decode cX9_tokenizeSlots 67 = .ok (.getfield 64, 3) := by decide +kernel
theorem dX9_tokenizeSlots_70 : decode cX9_tokenizeSlots 70 = .ok (.iload 4, 2) := by decide +kernel
theorem dX9_tokenizeSlots_72 : decode cX9_tokenizeSlots 72 = .ok (.invokevirtual 208, 3) := by decide +kernel
theorem dX9_tokenizeSlots_75 : decode cX9_tokenizeSlots 75 = .ok (.ireturn, 1) := by decide +kernel
set_option maxRecDepth 20000 in
theorem ggX9_makeTokenizer_X9_isWithin : GoodIn wsX9_makeTokenizer wsX9_isWithin := goodIn_r _ [8] (by decide +kernel) (by decide +kernel)
set_option maxRecDepth 20000 in
theorem gX9_makeTokenizer_X9_isWithin : GoodIn wsX9_makeTokenizer (va_wsS RX9 202 yX9_isWithin wsX9_isWithin) := goodIn_app (goodIn_of _ (by decide +kernel)) ggX9_makeTokenizer_X9_isWithin
set_option maxRecDepth 20000 in
theorem ggX9_makeTokenizer_X8_init : GoodIn wsX9_makeTokenizer wsX8_init := goodIn_r _ [11, 12, 13, 14, 15, 16, 17, 145, 146, 147, 148] (by decide +kernel) (by decide +kernel)
set_option maxRecDepth 20000 in
theorem gX9_makeTokenizer_X8_init : GoodIn wsX9_makeTokenizer (wsX8_init) := ggX9_makeTokenizer_X8_init
set_option maxRecDepth 20000 in
theorem ggX9_makeTokenizer_X8_tokensLeft : GoodIn wsX9_makeTokenizer wsX8_tokensLeft := goodIn_r _ [21, 22, 15, 23, 24, 25, 3, 26, 17, 27, 28, 29, 30, 31, 32, 33, 34, 35, 36, 37, 38, 39, 40, 41, 42, 16, 6, 7, 8, 43, 44, 45, 46, 47, 48, 49, 50, 51, 52, 53, 54, 55, 56, 57, 58, 59, 60, 61, 62, 63, 64, 65, 66, 67, 68, 69, 70, 71, 72, 73, 74, 75, 76, 77, 78, 79, 80, 81, 82, 83, 84, 85, 86, 87, 88, 89, 90, 91, 92, 93, 94, 95, 96, 97, 98, 99, 100, 101, 102, 103, 104, 105, 106, 107, 108, 109, 110, 111, 112, 113, 114, 115, 116, 117, 118, 119, 120, 121, 122, 123, 124, 125, 126, 127, 128, 129, 130, 131, 132, 133, 134, 135, 136, 137, 138, 139, 140, 141, 142, 143, 144, 145, 146, 147, 148, 158, 159, 160, 161] (by decide +kernel) (by decide +kernel)
set_option maxRecDepth 20000 in
theorem gX9_makeTokenizer_X8_tokensLeft : GoodIn wsX9_makeTokenizer (wsV RX9 219 RX8 yX8_tokensLeft wsX8_tokensLeft) := goodIn_app (goodIn_of _ (by decide +kernel)) ggX9_makeTokenizer_X8_tokensLeft
theorem dX9_makeTokenizer_0 : decode cX9_makeTokenizer 0 = .ok (.iload_n 1, 1) := by decide +kernel
theorem dX9_makeTokenizer_1 : decode cX9_makeTokenizer 1 = .ok (.iconst 2, 1) := by decide +kernel
theorem dX9_makeTokenizer_2 : decode cX9_makeTokenizer 2 = .ok (.invokestatic 202, 3) := by decide +kernel
theorem dX9_makeTokenizer_5 : decode cX9_makeTokenizer 5 = .ok (.ifCond .ne 5, 3) := by decide +kernel
theorem dX9_makeTokenizer_8 : decode cX9_makeTokenizer 8 = .ok (.iconst (-1), 1) := by decide +kernel
theorem dX9_makeTokenizer_9 : decode cX9_makeTokenizer 9 = .ok (.ireturn, 1) := by decide +kernel
theorem dX9_makeTokenizer_10 : decode cX9_makeTokenizer 10 = .ok (.new 41, 3) := by decide +kernel
theorem dX9_makeTokenizer_13 : decode cX9_makeTokenizer 13 = .ok (.dup, 1) := by decide +kernel
theorem dX9_makeTokenizer_14 : decode cX9_makeTokenizer 14 = .ok (.aload_n 2, 1) := by decide +kernel
theorem dX9_makeTokenizer_15 : decode cX9_makeTokenizer 15 = .ok (.aload_n 3, 1) := by decide +kernel
theorem dX9_makeTokenizer_16 : decode cX9_makeTokenizer 16 = .ok (.iload 4, 2) := by decide +kernel
theorem dX9_makeTokenizer_18 : decode cX9_makeTokenizer 18 = .ok (.invokespecial 260, 3) := by decide +kernel
theorem dX9_makeTokenizer_21 : decode cX9_makeTokenizer 21 = .ok (.astore 5, 2) := by decide +kernel
theorem dX9_makeTokenizer_23 : decode cX9_makeTokenizer 23 = .ok (.aload_n 0, 1) := by decide +kernel
theorem dX9_makeTokenizer_24 : decode cX9_makeTokenizer 24 = .ok (.getfield 43, 3) := by decide +kernel
theorem dX9_makeTokenizer_27 : decode cX9_makeTokenizer 27 = .ok (.iload_n 1, 1) := by decide +kernel
theorem dX9_makeTokenizer_28 : decode cX9_makeTokenizer 28 = .ok (.aload 5, 2) := by decide +kernel
theorem dX9_makeTokenizer_30 : decode cX9_makeTokenizer 30 = .ok (.aastore, 1) := by decide +kernel
theorem dX9_makeTokenizer_31 : decode cX9_makeTokenizer 31 = .ok (.aload 5, 2) := by decide +kernel
theorem dX9_makeTokenizer_33 : decode cX9_makeTokenizer 33 = .ok (.invokevirtual 219, 3) := by decide +kernel
theorem dX9_makeTokenizer_36 : decode cX9_makeTokenizer 36 = .ok (.ireturn, 1) := by decide +kernel
theorem dX9_refuseNull_0 : decode cX9_refuseNull 0 = .ok (.aload_n 0, 1) := by decide +kernel
theorem dX9_refuseNull_1 : decode cX9_refuseNull 1 = .ok (.dup, 1) := by decide +kernel
theorem dX9_refuseNull_2 : decode cX9_refuseNull 2 = .ok (.getfield 53, 3) := by decide +kernel
theorem dX9_refuseNull_5 : decode cX9_refuseNull 5 = .ok (.iconst 1, 1) := by decide +kernel
theorem dX9_refuseNull_6 : decode cX9_refuseNull 6 = .ok (.iadd, 1) := by decide +kernel
theorem dX9_refuseNull_7 : decode cX9_refuseNull 7 = .ok (.putfield 53, 3) := by decide +kernel
theorem dX9_refuseNull_10 : decode cX9_refuseNull 10 = .ok (.bipush (-7), 2) := by decide +kernel
theorem dX9_refuseNull_12 : decode cX9_refuseNull 12 = .ok (.ireturn, 1) := by decide +kernel
set_option maxRecDepth 20000 in
theorem ggX9_refuseToken_X9_isWithin : GoodIn wsX9_refuseToken wsX9_isWithin := goodIn_r _ [6] (by decide +kernel) (by decide +kernel)
set_option maxRecDepth 20000 in
theorem gX9_refuseToken_X9_isWithin : GoodIn wsX9_refuseToken (va_wsS RX9 202 yX9_isWithin wsX9_isWithin) := goodIn_app (goodIn_of _ (by decide +kernel)) ggX9_refuseToken_X9_isWithin
theorem dX9_refuseToken_0 : decode cX9_refuseToken 0 = .ok (.iload_n 1, 1) := by decide +kernel
theorem dX9_refuseToken_1 : decode cX9_refuseToken 1 = .ok (.iconst 2, 1) := by decide +kernel
theorem dX9_refuseToken_2 : decode cX9_refuseToken 2 = .ok (.invokestatic 202, 3) := by decide +kernel
theorem dX9_refuseToken_5 : decode cX9_refuseToken 5 = .ok (.ifCond .eq 10, 3) := by decide +kernel
theorem dX9_refuseToken_8 : decode cX9_refuseToken 8 = .ok (.aload_n 0, 1) := by decide +kernel
theorem dX9_refuseToken_9 : decode cX9_refuseToken 9 = .ok (.getfield 43, 3) := by decide +kernel
theorem dX9_refuseToken_12 : decode cX9_refuseToken 12 = .ok (.iload_n 1, 1) := by decide +kernel
theorem dX9_refuseToken_13 : decode cX9_refuseToken 13 = .ok (.aconst_null, 1) := by decide +kernel
theorem dX9_refuseToken_14 : decode cX9_refuseToken 14 = .ok (.aastore, 1) := by decide +kernel
theorem dX9_refuseToken_15 : decode cX9_refuseToken 15 = .ok (.aload_n 0, 1) := by decide +kernel
theorem dX9_refuseToken_16 : decode cX9_refuseToken 16 = .ok (.dup, 1) := by decide +kernel
theorem dX9_refuseToken_17 : decode cX9_refuseToken 17 = .ok (.getfield 57, 3) := by decide +kernel
theorem dX9_refuseToken_20 : decode cX9_refuseToken 20 = .ok (.iconst 1, 1) := by decide +kernel
theorem dX9_refuseToken_21 : decode cX9_refuseToken 21 = .ok (.iadd, 1) := by decide +kernel
theorem dX9_refuseToken_22 : decode cX9_refuseToken 22 = .ok (.putfield 57, 3) := by decide +kernel
theorem dX9_refuseToken_25 : decode cX9_refuseToken 25 = .ok (.bipush (-8), 2) := by decide +kernel
theorem dX9_refuseToken_27 : decode cX9_refuseToken 27 = .ok (.ireturn, 1) := by decide +kernel
set_option maxRecDepth 20000 in
theorem ggX9_putInto_J0_length_8abf5 : GoodIn wsX9_putInto wsJ0_length_8abf5 := goodIn_r _ [5, 6, 7, 8, 9, 4, 10, 11, 12, 14, 15, 16, 17] (by decide +kernel) (by decide +kernel)
set_option maxRecDepth 20000 in
theorem gX9_putInto_J0_length_8abf5 : GoodIn wsX9_putInto (wsV RX9 74 RJ0 yJ0_length_8abf5 wsJ0_length_8abf5) := goodIn_app (goodIn_of _ (by decide +kernel)) ggX9_putInto_J0_length_8abf5
theorem dX9_putInto_0 : decode cX9_putInto 0 = .ok (.aload_n 0, 1) := by decide +kernel
theorem dX9_putInto_1 : decode cX9_putInto 1 = .ok (.aload_n 1, 1) := by decide +kernel
theorem dX9_putInto_2 : decode cX9_putInto 2 = .ok (.putfield 64, 3) := by decide +kernel
theorem dX9_putInto_5 : decode cX9_putInto 5 = .ok (.aload_n 1, 1) := by decide +kernel
theorem dX9_putInto_6 : decode cX9_putInto 6 = .ok (.invokevirtual 74, 3) := by decide +kernel
theorem dX9_putInto_9 : decode cX9_putInto 9 = .ok (.ireturn, 1) := by decide +kernel
set_option maxRecDepth 20000 in
theorem ggX9_addTo_X2_lengthWith : GoodIn wsX9_addTo wsX2_lengthWith := goodIn_r _ [5, 6, 7, 8, 9, 10, 11, 12, 13, 14, 15, 16, 17, 18, 19, 20, 21, 232, 233, 234, 235, 236, 237, 238, 239, 240] (by decide +kernel) (by decide +kernel)
set_option maxRecDepth 20000 in
theorem gX9_addTo_X2_lengthWith : GoodIn wsX9_addTo (wsV RX9 263 RX2 yX2_lengthWith wsX2_lengthWith) := goodIn_app (goodIn_of _ (by decide +kernel)) ggX9_addTo_X2_lengthWith
set_option maxRecDepth 20000 in
theorem ggX9_addTo_X2_addElement : GoodIn wsX9_addTo wsX2_addElement := goodIn_r _ [25, 6, 7, 26, 27, 4, 28, 29, 30, 31, 32, 33, 34, 35, 36, 37, 38, 39, 40, 41, 42, 43, 44, 45, 46, 47, 48, 49, 50, 51, 52, 53, 54, 55, 56, 57, 58, 59, 60, 61, 62, 63, 64, 65, 66, 67, 68, 69, 70, 71, 72, 73, 74, 75, 76, 77, 78, 79, 80, 81, 82, 83, 84, 85, 86, 87, 88, 89, 90, 91, 92, 93, 94, 95, 96, 97, 98, 99, 100, 101, 102, 103, 104, 105, 106, 107, 108, 109, 110, 111, 112, 113, 114, 115, 116, 117, 118, 119, 120, 121, 122, 123, 124, 125, 13, 126, 127, 128, 129, 130, 131, 132, 133, 134, 135, 136, 137, 11, 12, 14, 15, 16, 17, 18, 19, 20, 21, 138, 139, 140, 141, 142, 143, 144, 145, 146, 147, 148, 149, 150, 151, 152, 153, 154, 155, 156, 157, 158, 159, 160, 161, 162, 163, 164, 165, 166, 167, 168, 169, 170, 171, 172, 173, 174, 175, 176, 177, 178, 179, 180, 181, 182, 183, 184, 185, 186, 187, 188, 189, 190, 191, 192, 193, 194, 195, 196, 197, 198, 199, 200, 201, 202, 203, 204, 205, 206, 207, 208, 209, 210, 211, 212, 213, 214, 215, 216, 217, 218, 219, 220, 221, 222, 223, 224, 225, 226, 232, 233, 234, 235, 236, 241, 242, 243, 244, 237, 238, 239, 240] (by decide +kernel) (by decide +kernel)
set_option maxRecDepth 20000 in
theorem gX9_addTo_X2_addElement : GoodIn wsX9_addTo (wsV RX9 266 RX2 yX2_addElement wsX2_addElement) := goodIn_app (goodIn_of _ (by decide +kernel)) ggX9_addTo_X2_addElement
set_option maxRecDepth 20000 in
theorem ggX9_addTo_X2_resultLength : GoodIn wsX9_addTo wsX2_resultLength := goodIn_r _ [230, 6, 8, 9, 231, 10, 11, 12, 13, 14, 15, 16, 17, 18, 19, 20, 21, 232, 233, 234, 235, 236, 237, 238, 239, 240] (by decide +kernel) (by decide +kernel)
set_option maxRecDepth 20000 in
theorem gX9_addTo_X2_resultLength : GoodIn wsX9_addTo (wsV RX9 235 RX2 yX2_resultLength wsX2_resultLength) := goodIn_app (goodIn_of _ (by decide +kernel)) ggX9_addTo_X2_resultLength
theorem dX9_addTo_0 : decode cX9_addTo 0 = .ok (.aload_n 0, 1) := by decide +kernel
theorem dX9_addTo_1 : decode cX9_addTo 1 = .ok (.aload_n 1, 1) := by decide +kernel
theorem dX9_addTo_2 : decode cX9_addTo 2 = .ok (.invokevirtual 263, 3) := by decide +kernel
theorem dX9_addTo_5 : decode cX9_addTo 5 = .ok (.sipush 300, 3) := by decide +kernel
theorem dX9_addTo_8 : decode cX9_addTo 8 = .ok (.if_icmp .le 6, 3) := by decide +kernel
theorem dX9_addTo_11 : decode cX9_addTo 11 = .ok (.bipush (-3), 2) := by decide +kernel
theorem dX9_addTo_13 : decode cX9_addTo 13 = .ok (.ireturn, 1) := by decide +kernel
theorem dX9_addTo_14 : decode cX9_addTo 14 = .ok (.aload_n 0, 1) := by decide +kernel
theorem dX9_addTo_15 : decode cX9_addTo 15 = .ok (.aload_n 1, 1) := by decide +kernel
theorem dX9_addTo_16 : decode cX9_addTo 16 = .ok (.invokevirtual 266, 3) := by decide +kernel
theorem dX9_addTo_19 : decode cX9_addTo 19 = .ok (.aload_n 0, 1) := by decide +kernel
theorem dX9_addTo_20 : decode cX9_addTo 20 = .ok (.invokevirtual 235, 3) := by decide +kernel
theorem dX9_addTo_23 : decode cX9_addTo 23 = .ok (.ireturn, 1) := by decide +kernel
set_option maxRecDepth 20000 in
theorem ggX9_lengthOrNothing_J0_length_8abf5 : GoodIn wsX9_lengthOrNothing wsJ0_length_8abf5 := goodIn_r _ [5, 6, 7, 8, 9, 4, 10, 11, 12, 13, 14, 15, 16] (by decide +kernel) (by decide +kernel)
set_option maxRecDepth 20000 in
theorem gX9_lengthOrNothing_J0_length_8abf5 : GoodIn wsX9_lengthOrNothing (wsV RX9 74 RJ0 yJ0_length_8abf5 wsJ0_length_8abf5) := goodIn_app (goodIn_of _ (by decide +kernel)) ggX9_lengthOrNothing_J0_length_8abf5
theorem dX9_lengthOrNothing_0 : decode cX9_lengthOrNothing 0 = .ok (.aload_n 0, 1) := by decide +kernel
theorem dX9_lengthOrNothing_1 : decode cX9_lengthOrNothing 1 = .ok (.ifnonnull 8, 3) := by decide +kernel
theorem dX9_lengthOrNothing_4 : decode cX9_lengthOrNothing 4 = .ok (.bipush (-2), 2) := by decide +kernel
theorem dX9_lengthOrNothing_6 : decode cX9_lengthOrNothing 6 = .ok (.goto 7, 3) := by decide +kernel
theorem dX9_lengthOrNothing_9 : decode cX9_lengthOrNothing 9 = .ok (.aload_n 0, 1) := by decide +kernel
theorem dX9_lengthOrNothing_10 : decode cX9_lengthOrNothing 10 = .ok (.invokevirtual 74, 3) := by decide +kernel
theorem dX9_lengthOrNothing_13 : decode cX9_lengthOrNothing 13 = .ok (.ireturn, 1) := by decide +kernel
theorem dX9_isWithin_0 : decode cX9_isWithin 0 = .ok (.iload_n 0, 1) := by decide +kernel
theorem dX9_isWithin_1 : decode cX9_isWithin 1 = .ok (.ifCond .lt 12, 3) := by decide +kernel
theorem dX9_isWithin_4 : decode cX9_isWithin 4 = .ok (.iload_n 0, 1) := by decide +kernel
theorem dX9_isWithin_5 : decode cX9_isWithin 5 = .ok (.iload_n 1, 1) := by decide +kernel
theorem dX9_isWithin_6 : decode cX9_isWithin 6 = .ok (.if_icmp .ge 7, 3) := by decide +kernel
theorem dX9_isWithin_9 : decode cX9_isWithin 9 = .ok (.iconst 1, 1) := by decide +kernel
theorem dX9_isWithin_10 : decode cX9_isWithin 10 = .ok (.goto 4, 3) := by decide +kernel
theorem dX9_isWithin_13 : decode cX9_isWithin 13 = .ok (.iconst 0, 1) := by decide +kernel
theorem dX9_isWithin_14 : decode cX9_isWithin 14 = .ok (.ireturn, 1) := by decide +kernel
set_option maxRecDepth 20000 in
theorem ggX9_isTyped_X9_isPrinted : GoodIn wsX9_isTyped wsX9_isPrinted := goodIn_r _ [4] (by decide +kernel) (by decide +kernel)
set_option maxRecDepth 20000 in
theorem gX9_isTyped_X9_isPrinted : GoodIn wsX9_isTyped (va_wsS RX9 269 yX9_isPrinted wsX9_isPrinted) := goodIn_app (goodIn_of _ (by decide +kernel)) ggX9_isTyped_X9_isPrinted
theorem dX9_isTyped_0 : decode cX9_isTyped 0 = .ok (.iload_n 0, 1) := by decide +kernel
theorem dX9_isTyped_1 : decode cX9_isTyped 1 = .ok (.bipush 9, 2) := by decide +kernel
theorem dX9_isTyped_3 : decode cX9_isTyped 3 = .ok (.if_icmp .eq 22, 3) := by decide +kernel
theorem dX9_isTyped_6 : decode cX9_isTyped 6 = .ok (.iload_n 0, 1) := by decide +kernel
theorem dX9_isTyped_7 : decode cX9_isTyped 7 = .ok (.bipush 10, 2) := by decide +kernel
theorem dX9_isTyped_9 : decode cX9_isTyped 9 = .ok (.if_icmp .eq 16, 3) := by decide +kernel
theorem dX9_isTyped_12 : decode cX9_isTyped 12 = .ok (.iload_n 0, 1) := by decide +kernel
theorem dX9_isTyped_13 : decode cX9_isTyped 13 = .ok (.bipush 13, 2) := by decide +kernel
theorem dX9_isTyped_15 : decode cX9_isTyped 15 = .ok (.if_icmp .eq 10, 3) := by decide +kernel
theorem dX9_isTyped_18 : decode cX9_isTyped 18 = .ok (.iload_n 0, 1) := by decide +kernel
theorem dX9_isTyped_19 : decode cX9_isTyped 19 = .ok (.invokestatic 269, 3) := by decide +kernel
theorem dX9_isTyped_22 : decode cX9_isTyped 22 = .ok (.ifCond .eq 7, 3) := by decide +kernel
theorem dX9_isTyped_25 : decode cX9_isTyped 25 = .ok (.iconst 1, 1) := by decide +kernel
theorem dX9_isTyped_26 : decode cX9_isTyped 26 = .ok (.goto 4, 3) := by decide +kernel
theorem dX9_isTyped_29 : decode cX9_isTyped 29 = .ok (.iconst 0, 1) := by decide +kernel
theorem dX9_isTyped_30 : decode cX9_isTyped 30 = .ok (.ireturn, 1) := by decide +kernel
theorem dX9_isPrinted_0 : decode cX9_isPrinted 0 = .ok (.iload_n 0, 1) := by decide +kernel
theorem dX9_isPrinted_1 : decode cX9_isPrinted 1 = .ok (.bipush 32, 2) := by decide +kernel
theorem dX9_isPrinted_3 : decode cX9_isPrinted 3 = .ok (.if_icmp .lt 13, 3) := by decide +kernel
theorem dX9_isPrinted_6 : decode cX9_isPrinted 6 = .ok (.iload_n 0, 1) := by decide +kernel
theorem dX9_isPrinted_7 : decode cX9_isPrinted 7 = .ok (.bipush 126, 2) := by decide +kernel
theorem dX9_isPrinted_9 : decode cX9_isPrinted 9 = .ok (.if_icmp .gt 7, 3) := by decide +kernel
theorem dX9_isPrinted_12 : decode cX9_isPrinted 12 = .ok (.iconst 1, 1) := by decide +kernel
theorem dX9_isPrinted_13 : decode cX9_isPrinted 13 = .ok (.goto 4, 3) := by decide +kernel
theorem dX9_isPrinted_16 : decode cX9_isPrinted 16 = .ok (.iconst 0, 1) := by decide +kernel
theorem dX9_isPrinted_17 : decode cX9_isPrinted 17 = .ok (.ireturn, 1) := by decide +kernel
theorem dX9_isBlank_0 : decode cX9_isBlank 0 = .ok (.iload_n 0, 1) := by decide +kernel
theorem dX9_isBlank_1 : decode cX9_isBlank 1 = .ok (.bipush 32, 2) := by decide +kernel
theorem dX9_isBlank_3 : decode cX9_isBlank 3 = .ok (.if_icmp .eq 9, 3) := by decide +kernel
theorem dX9_isBlank_6 : decode cX9_isBlank 6 = .ok (.iload_n 0, 1) := by decide +kernel
theorem dX9_isBlank_7 : decode cX9_isBlank 7 = .ok (.bipush 9, 2) := by decide +kernel
theorem dX9_isBlank_9 : decode cX9_isBlank 9 = .ok (.if_icmp .ne 7, 3) := by decide +kernel
theorem dX9_isBlank_12 : decode cX9_isBlank 12 = .ok (.iconst 1, 1) := by decide +kernel
theorem dX9_isBlank_13 : decode cX9_isBlank 13 = .ok (.goto 4, 3) := by decide +kernel
theorem dX9_isBlank_16 : decode cX9_isBlank 16 = .ok (.iconst 0, 1) := by decide +kernel
theorem dX9_isBlank_17 : decode cX9_isBlank 17 = .ok (.ireturn, 1) := by decide +kernel
set_option maxRecDepth 20000 in
theorem ggX9_compareTexts_J0_length_8abf5 : GoodIn wsX9_compareTexts wsJ0_length_8abf5 := goodIn_r _ [9, 10, 11, 12, 13, 8, 14, 15, 16, 54, 55, 56, 57] (by decide +kernel) (by decide +kernel)
set_option maxRecDepth 20000 in
theorem gX9_compareTexts_J0_length_8abf5 : GoodIn wsX9_compareTexts (wsV RX9 74 RJ0 yJ0_length_8abf5 wsJ0_length_8abf5) := goodIn_app (goodIn_of _ (by decide +kernel)) ggX9_compareTexts_J0_length_8abf5
set_option maxRecDepth 20000 in
theorem ggX9_compareTexts_J0_charAt_5068e : GoodIn wsX9_compareTexts wsJ0_charAt_5068e := goodIn_r _ [20, 10, 21, 22, 23, 8, 24, 15, 16, 25, 26, 27, 28, 29, 30, 31, 32, 33, 34, 35, 36, 37, 38, 39, 40, 41, 42, 43, 44, 45, 46, 47, 48, 49, 50, 51, 52, 53, 54, 55, 56, 57] (by decide +kernel) (by decide +kernel)
set_option maxRecDepth 20000 in
theorem gX9_compareTexts_J0_charAt_5068e : GoodIn wsX9_compareTexts (wsV RX9 98 RJ0 yJ0_charAt_5068e wsJ0_charAt_5068e) := goodIn_app (goodIn_of _ (by decide +kernel)) ggX9_compareTexts_J0_charAt_5068e
theorem dX9_compareTexts_0 : decode cX9_compareTexts 0 = .ok (.aload_n 0, 1) := by decide +kernel
theorem dX9_compareTexts_1 : decode cX9_compareTexts 1 = .ok (.invokevirtual 74, 3) := by decide +kernel
theorem dX9_compareTexts_4 : decode cX9_compareTexts 4 = .ok (.aload_n 1, 1) := by decide +kernel
theorem dX9_compareTexts_5 : decode cX9_compareTexts 5 = .ok (.invokevirtual 74, 3) := by decide +kernel
theorem dX9_compareTexts_8 : decode cX9_compareTexts 8 = .ok (.invokestatic 272, 3) := by decide +kernel
theorem dX9_compareTexts_11 : decode cX9_compareTexts 11 = .ok (.istore_n 2, 1) := by decide +kernel
theorem dX9_compareTexts_12 : decode cX9_compareTexts 12 = .ok (.iconst 0, 1) := by decide +kernel
theorem dX9_compareTexts_13 : decode cX9_compareTexts 13 = .ok (.istore_n 3, 1) := by decide +kernel
theorem dX9_compareTexts_14 : decode cX9_compareTexts 14 = .ok (.iload_n 3, 1) := by decide +kernel
theorem dX9_compareTexts_15 : decode cX9_compareTexts 15 = .ok (.iload_n 2, 1) := by decide +kernel
theorem dX9_compareTexts_16 : decode cX9_compareTexts 16 = .ok (.if_icmp .ge 30, 3) := by decide +kernel
theorem dX9_compareTexts_19 : decode cX9_compareTexts 19 = .ok (.aload_n 0, 1) := by decide +kernel
theorem dX9_compareTexts_20 : decode cX9_compareTexts 20 = .ok (.iload_n 3, 1) := by decide +kernel
theorem dX9_compareTexts_21 : decode cX9_compareTexts 21 = .ok (.invokevirtual 98, 3) := by decide +kernel
theorem dX9_compareTexts_24 : decode cX9_compareTexts 24 = .ok (.aload_n 1, 1) := by decide +kernel
theorem dX9_compareTexts_25 : decode cX9_compareTexts 25 = .ok (.iload_n 3, 1) := by decide +kernel
theorem dX9_compareTexts_26 : decode cX9_compareTexts 26 = .ok (.invokevirtual 98, 3) := by decide +kernel
theorem dX9_compareTexts_29 : decode cX9_compareTexts 29 = .ok (.isub, 1) := by decide +kernel
theorem dX9_compareTexts_30 : decode cX9_compareTexts 30 = .ok (.istore 4, 2) := by decide +kernel
theorem dX9_compareTexts_32 : decode cX9_compareTexts 32 = .ok (.iload 4, 2) := by decide +kernel
theorem dX9_compareTexts_34 : decode cX9_compareTexts 34 = .ok (.ifCond .eq 6, 3) := by decide +kernel
theorem dX9_compareTexts_37 : decode cX9_compareTexts 37 = .ok (.iload 4, 2) := by decide +kernel
theorem dX9_compareTexts_39 : decode cX9_compareTexts 39 = .ok (.ireturn, 1) := by decide +kernel
theorem dX9_compareTexts_40 : decode cX9_compareTexts 40 = .ok (.iinc 3 1, 3) := by decide +kernel
theorem dX9_compareTexts_43 : decode cX9_compareTexts 43 = .ok (.goto (-29), 3) := by decide +kernel
theorem dX9_compareTexts_46 : decode cX9_compareTexts 46 = .ok (.aload_n 0, 1) := by decide +kernel
theorem dX9_compareTexts_47 : decode cX9_compareTexts 47 = .ok (.invokevirtual 74, 3) := by decide +kernel
theorem dX9_compareTexts_50 : decode cX9_compareTexts 50 = .ok (.aload_n 1, 1) := by decide +kernel
theorem dX9_compareTexts_51 : decode cX9_compareTexts 51 = .ok (.invokevirtual 74, 3) := by decide +kernel
theorem dX9_compareTexts_54 : decode cX9_compareTexts 54 = .ok (.isub, 1) := by decide +kernel
theorem dX9_compareTexts_55 : decode cX9_compareTexts 55 = .ok (.ireturn, 1) := by decide +kernel
