theorem dX10_init_0 : decode cX10_init 0 = .ok (.aload_n 0, 1) := by decide +kernel
theorem dX10_init_1 : decode cX10_init 1 = .ok (.invokespecial 1, 3) := by decide +kernel
theorem dX10_init_4 : decode cX10_init 4 = .ok (.aload_n 0, 1) := by decide +kernel
theorem dX10_init_5 : decode cX10_init 5 = .ok (.ldc 7, 2) := by decide +kernel
theorem dX10_init_7 : decode cX10_init 7 = .ok (.newarray .int, 2) := by decide +kernel
theorem dX10_init_9 : decode cX10_init 9 = .ok (.putfield 8, 3) := by decide +kernel
theorem dX10_init_12 : decode cX10_init 12 = .ok (.aload_n 0, 1) := by decide +kernel
theorem dX10_init_13 : decode cX10_init 13 = .ok (.bipush 13, 2) := by decide +kernel
theorem dX10_init_15 : decode cX10_init 15 = .ok (.newarray .int, 2) := by decide +kernel
theorem dX10_init_17 : decode cX10_init 17 = .ok (.putfield 14, 3) := by decide +kernel
theorem dX10_init_20 : decode cX10_init 20 = .ok (.aload_n 0, 1) := by decide +kernel
theorem dX10_init_21 : decode cX10_init 21 = .ok (.iconst 2, 1) := by decide +kernel
theorem dX10_init_22 : decode cX10_init 22 = .ok (.newarray .boolean, 2) := by decide +kernel
theorem dX10_init_24 : decode cX10_init 24 = .ok (.putfield 17, 3) := by decide +kernel
theorem dX10_init_27 : decode cX10_init 27 = .ok (.aload_n 0, 1) := by decide +kernel
theorem dX10_init_28 : decode cX10_init 28 = .ok (.sipush 300, 3) := by decide +kernel
theorem dX10_init_31 : decode cX10_init 31 = .ok (.newarray .int, 2) := by decide +kernel
theorem dX10_init_33 : decode cX10_init 33 = .ok (.putfield 21, 3) := by decide +kernel
theorem dX10_init_36 : decode cX10_init 36 = .ok (.aload_n 0, 1) := by decide +kernel
theorem dX10_init_37 : decode cX10_init 37 = .ok (.sipush 300, 3) := by decide +kernel
theorem dX10_init_40 : decode cX10_init 40 = .ok (.newarray .int, 2) := by decide +kernel
theorem dX10_init_42 : decode cX10_init 42 = .ok (.putfield 24, 3) := by decide +kernel
theorem dX10_init_45 : decode cX10_init 45 = .ok (.aload_n 0, 1) := by decide +kernel
theorem dX10_init_46 : decode cX10_init 46 = .ok (.iconst 2, 1) := by decide +kernel
theorem dX10_init_47 : decode cX10_init 47 = .ok (.newarray .boolean, 2) := by decide +kernel
theorem dX10_init_49 : decode cX10_init 49 = .ok (.putfield 27, 3) := by decide +kernel
theorem dX10_init_52 : decode cX10_init 52 = .ok (.aload_n 0, 1) := by decide +kernel
theorem dX10_init_53 : decode cX10_init 53 = .ok (.iconst 2, 1) := by decide +kernel
theorem dX10_init_54 : decode cX10_init 54 = .ok (.newarray .boolean, 2) := by decide +kernel
theorem dX10_init_56 : decode cX10_init 56 = .ok (.putfield 30, 3) := by decide +kernel
theorem dX10_init_59 : decode cX10_init 59 = .ok (.aload_n 0, 1) := by decide +kernel
theorem dX10_init_60 : decode cX10_init 60 = .ok (.iconst 2, 1) := by decide +kernel
theorem dX10_init_61 : decode cX10_init 61 = .ok (.newarray .int, 2) := by decide +kernel
theorem dX10_init_63 : decode cX10_init 63 = .ok (.putfield 33, 3) := by decide +kernel
theorem dX10_init_66 : decode cX10_init 66 = .ok (.aload_n 0, 1) := by decide +kernel
theorem dX10_init_67 : decode cX10_init 67 = .ok (.iconst 3, 1) := by decide +kernel
theorem dX10_init_68 : decode cX10_init 68 = .ok (.newarray .boolean, 2) := by decide +kernel
theorem dX10_init_70 : decode cX10_init 70 = .ok (.putfield 36, 3) := by decide +kernel
theorem dX10_init_73 : decode cX10_init 73 = .ok (.aload_n 0, 1) := by decide +kernel
theorem dX10_init_74 : decode cX10_init 74 = .ok (.iconst 3, 1) := by decide +kernel
theorem dX10_init_75 : decode cX10_init 75 = .ok (.newarray .boolean, 2) := by decide +kernel
theorem dX10_init_77 : decode cX10_init 77 = .ok (.putfield 39, 3) := by decide +kernel
theorem dX10_init_80 : decode cX10_init 80 = .ok (.aload_n 0, 1) := by decide +kernel
theorem dX10_init_81 : decode cX10_init 81 = .ok (.sipush 300, 3) := by decide +kernel
theorem dX10_init_84 : decode cX10_init 84 = .ok (.newarray .int, 2) := by decide +kernel
theorem dX10_init_86 : decode cX10_init 86 = .ok (.putfield 42, 3) := by decide +kernel
theorem dX10_init_89 : decode cX10_init 89 = .ok (.aload_n 0, 1) := by decide +kernel
theorem dX10_init_90 : decode cX10_init 90 = .ok (.sipush 300, 3) := by decide +kernel
theorem dX10_init_93 : decode cX10_init 93 = .ok (.newarray .int, 2) := by decide +kernel
theorem dX10_init_95 : decode cX10_init 95 = .ok (.putfield 45, 3) := by decide +kernel
theorem dX10_init_98 : decode cX10_init 98 = .ok (.aload_n 0, 1) := by decide +kernel
theorem dX10_init_99 : decode cX10_init 99 = .ok (.iconst 4, 1) := by decide +kernel
theorem dX10_init_100 : decode cX10_init 100 = .ok (.newarray .int, 2) := by decide +kernel
theorem dX10_init_102 : decode cX10_init 102 = .ok (.putfield 48, 3) := by decide +kernel
theorem dX10_init_105 : decode cX10_init 105 = .ok (.iconst 0, 1) := by decide +kernel
theorem dX10_init_106 : decode cX10_init 106 = .ok (.istore_n 1, 1) := by decide +kernel
theorem dX10_init_107 : decode cX10_init 107 = .ok (.iload_n 1, 1) := by decide +kernel
theorem dX10_init_108 : decode cX10_init 108 = .ok (.bipush 6, 2) := by decide +kernel
theorem dX10_init_110 : decode cX10_init 110 = .ok (.if_icmp .ge 21, 3) := by decide +kernel
theorem dX10_init_113 : decode cX10_init 113 = .ok (.aload_n 0, 1) := by decide +kernel
theorem dX10_init_114 : decode cX10_init 114 = .ok (.getfield 8, 3) := by decide +kernel
theorem dX10_init_117 : decode cX10_init 117 = .ok (.sipush 301, 3) := by decide +kernel
theorem dX10_init_120 : decode cX10_init 120 = .ok (.iload_n 1, 1) := by decide +kernel
theorem dX10_init_121 : decode cX10_init 121 = .ok (.imul, 1) := by decide +kernel
theorem dX10_init_122 : decode cX10_init 122 = .ok (.bipush (-5), 2) := by decide +kernel
theorem dX10_init_124 : decode cX10_init 124 = .ok (.iastore, 1) := by decide +kernel
theorem dX10_init_125 : decode cX10_init 125 = .ok (.iinc 1 1, 3) := by decide +kernel
theorem dX10_init_128 : decode cX10_init 128 = .ok (.goto (-21), 3) := by decide +kernel
theorem dX10_init_131 : decode cX10_init 131 = .ok (.return_, 1) := by decide +kernel
theorem dX10_isSlot_0 : decode cX10_isSlot 0 = .ok (.iload_n 0, 1) := by decide +kernel
theorem dX10_isSlot_1 : decode cX10_isSlot 1 = .ok (.ifCond .lt 13, 3) := by decide +kernel
theorem dX10_isSlot_4 : decode cX10_isSlot 4 = .ok (.iload_n 0, 1) := by decide +kernel
theorem dX10_isSlot_5 : decode cX10_isSlot 5 = .ok (.bipush 6, 2) := by decide +kernel
theorem dX10_isSlot_7 : decode cX10_isSlot 7 = .ok (.if_icmp .ge 7, 3) := by decide +kernel
theorem dX10_isSlot_10 : decode cX10_isSlot 10 = .ok (.iconst 1, 1) := by decide +kernel
theorem dX10_isSlot_11 : decode cX10_isSlot 11 = .ok (.goto 4, 3) := by decide +kernel
theorem dX10_isSlot_14 : decode cX10_isSlot 14 = .ok (.iconst 0, 1) := by decide +kernel
theorem dX10_isSlot_15 : decode cX10_isSlot 15 = .ok (.ireturn, 1) := by decide +kernel
theorem dX10_isLayer_0 : decode cX10_isLayer 0 = .ok (.iload_n 0, 1) := by decide +kernel
theorem dX10_isLayer_1 : decode cX10_isLayer 1 = .ok (.ifCond .lt 12, 3) := by decide +kernel
theorem dX10_isLayer_4 : decode cX10_isLayer 4 = .ok (.iload_n 0, 1) := by decide +kernel
theorem dX10_isLayer_5 : decode cX10_isLayer 5 = .ok (.iconst 4, 1) := by decide +kernel
theorem dX10_isLayer_6 : decode cX10_isLayer 6 = .ok (.if_icmp .ge 7, 3) := by decide +kernel
theorem dX10_isLayer_9 : decode cX10_isLayer 9 = .ok (.iconst 1, 1) := by decide +kernel
theorem dX10_isLayer_10 : decode cX10_isLayer 10 = .ok (.goto 4, 3) := by decide +kernel
theorem dX10_isLayer_13 : decode cX10_isLayer 13 = .ok (.iconst 0, 1) := by decide +kernel
theorem dX10_isLayer_14 : decode cX10_isLayer 14 = .ok (.ireturn, 1) := by decide +kernel
theorem dX10_at_0 : decode cX10_at 0 = .ok (.sipush 301, 3) := by decide +kernel
theorem dX10_at_3 : decode cX10_at 3 = .ok (.iload_n 0, 1) := by decide +kernel
theorem dX10_at_4 : decode cX10_at 4 = .ok (.imul, 1) := by decide +kernel
theorem dX10_at_5 : decode cX10_at 5 = .ok (.ireturn, 1) := by decide +kernel
set_option maxRecDepth 20000 in
theorem ggX10_hasNothing_X10_at : GoodIn wsX10_hasNothing wsX10_at := goodIn_r _ [5] (by decide +kernel) (by decide +kernel)
set_option maxRecDepth 20000 in
theorem gX10_hasNothing_X10_at : GoodIn wsX10_hasNothing (va_wsS RX10 51 yX10_at wsX10_at) := goodIn_app (goodIn_of _ (by decide +kernel)) ggX10_hasNothing_X10_at
theorem dX10_hasNothing_0 : decode cX10_hasNothing 0 = .ok (.aload_n 0, 1) := by decide +kernel
theorem dX10_hasNothing_1 : decode cX10_hasNothing 1 = .ok (.getfield 8, 3) := by decide +kernel
theorem dX10_hasNothing_4 : decode cX10_hasNothing 4 = .ok (.iload_n 1, 1) := by decide +kernel
theorem dX10_hasNothing_5 : decode cX10_hasNothing 5 = .ok (.invokestatic 51, 3) := by decide +kernel
theorem dX10_hasNothing_8 : decode cX10_hasNothing 8 = .ok (.iaload, 1) := by decide +kernel
theorem dX10_hasNothing_9 : decode cX10_hasNothing 9 = .ok (.ifCond .ge 7, 3) := by decide +kernel
theorem dX10_hasNothing_12 : decode cX10_hasNothing 12 = .ok (.iconst 1, 1) := by decide +kernel
theorem dX10_hasNothing_13 : decode cX10_hasNothing 13 = .ok (.goto 4, 3) := by decide +kernel
theorem dX10_hasNothing_16 : decode cX10_hasNothing 16 = .ok (.iconst 0, 1) := by decide +kernel
theorem dX10_hasNothing_17 : decode cX10_hasNothing 17 = .ok (.ireturn, 1) := by decide +kernel
theorem dX10_copyText_0 : decode cX10_copyText 0 = .ok (.aload_n 0, 1) := by decide +kernel
theorem dX10_copyText_1 : decode cX10_copyText 1 = .ok (.getfield 8, 3) := by decide +kernel
theorem dX10_copyText_4 : decode cX10_copyText 4 = .ok (.iload_n 2, 1) := by decide +kernel
theorem dX10_copyText_5 : decode cX10_copyText 5 = .ok (.aload_n 0, 1) := by decide +kernel
theorem dX10_copyText_6 : decode cX10_copyText 6 = .ok (.getfield 8, 3) := by decide +kernel
theorem dX10_copyText_9 : decode cX10_copyText 9 = .ok (.iload_n 1, 1) := by decide +kernel
theorem dX10_copyText_10 : decode cX10_copyText 10 = .ok (.iaload, 1) := by decide +kernel
theorem dX10_copyText_11 : decode cX10_copyText 11 = .ok (.iastore, 1) := by decide +kernel
theorem dX10_copyText_12 : decode cX10_copyText 12 = .ok (.iconst 1, 1) := by decide +kernel
theorem dX10_copyText_13 : decode cX10_copyText 13 = .ok (.istore_n 3, 1) := by decide +kernel
theorem dX10_copyText_14 : decode cX10_copyText 14 = .ok (.iload_n 3, 1) := by decide +kernel
theorem dX10_copyText_15 : decode cX10_copyText 15 = .ok (.aload_n 0, 1) := by decide +kernel
theorem dX10_copyText_16 : decode cX10_copyText 16 = .ok (.getfield 8, 3) := by decide +kernel
theorem dX10_copyText_19 : decode cX10_copyText 19 = .ok (.iload_n 1, 1) := by decide +kernel
theorem dX10_copyText_20 : decode cX10_copyText 20 = .ok (.iaload, 1) := by decide +kernel
theorem dX10_copyText_21 : decode cX10_copyText 21 = .ok (.if_icmp .gt 25, 3) := by decide +kernel
theorem dX10_copyText_24 : decode cX10_copyText 24 = .ok (.aload_n 0, 1) := by decide +kernel
theorem dX10_copyText_25 : decode cX10_copyText 25 = .ok (.getfield 8, 3) := by decide +kernel
theorem dX10_copyText_28 : decode cX10_copyText 28 = .ok (.iload_n 2, 1) := by decide +kernel
theorem dX10_copyText_29 : decode cX10_copyText 29 = .ok (.iload_n 3, 1) := by decide +kernel
theorem dX10_copyText_30 : decode cX10_copyText 30 = .ok (.iadd, 1) := by decide +kernel
theorem dX10_copyText_31 : decode cX10_copyText 31 = .ok (.aload_n 0, 1) := by decide +kernel
theorem dX10_copyText_32 : decode cX10_copyText 32 = .ok (.getfield 8, 3) := by decide +kernel
theorem dX10_copyText_35 : decode cX10_copyText 35 = .ok (.iload_n 1, 1) := by decide +kernel
theorem dX10_copyText_36 : decode cX10_copyText 36 = .ok (.iload_n 3, 1) := by decide +kernel
theorem dX10_copyText_37 : decode cX10_copyText 37 = .ok (.iadd, 1) := by decide +kernel
theorem dX10_copyText_38 : decode cX10_copyText 38 = .ok (.iaload, 1) := by decide +kernel
theorem dX10_copyText_39 : decode cX10_copyText 39 = .ok (.iastore, 1) := by decide +kernel
theorem dX10_copyText_40 : decode cX10_copyText 40 = .ok (.iinc 3 1, 3) := by decide +kernel
theorem dX10_copyText_43 : decode cX10_copyText 43 = .ok (.goto (-29), 3) := by decide +kernel
theorem dX10_copyText_46 : decode cX10_copyText 46 = .ok (.return_, 1) := by decide +kernel
theorem dX10_addText_0 : decode cX10_addText 0 = .ok (.aload_n 0, 1) := by decide +kernel
theorem dX10_addText_1 : decode cX10_addText 1 = .ok (.getfield 8, 3) := by decide +kernel
theorem dX10_addText_4 : decode cX10_addText 4 = .ok (.iload_n 2, 1) := by decide +kernel
theorem dX10_addText_5 : decode cX10_addText 5 = .ok (.iaload, 1) := by decide +kernel
theorem dX10_addText_6 : decode cX10_addText 6 = .ok (.istore_n 3, 1) := by decide +kernel
theorem dX10_addText_7 : decode cX10_addText 7 = .ok (.iconst 1, 1) := by decide +kernel
theorem dX10_addText_8 : decode cX10_addText 8 = .ok (.istore 4, 2) := by decide +kernel
theorem dX10_addText_10 : decode cX10_addText 10 = .ok (.iload 4, 2) := by decide +kernel
theorem dX10_addText_12 : decode cX10_addText 12 = .ok (.aload_n 0, 1) := by decide +kernel
theorem dX10_addText_13 : decode cX10_addText 13 = .ok (.getfield 8, 3) := by decide +kernel
theorem dX10_addText_16 : decode cX10_addText 16 = .ok (.iload_n 1, 1) := by decide +kernel
theorem dX10_addText_17 : decode cX10_addText 17 = .ok (.iaload, 1) := by decide +kernel
theorem dX10_addText_18 : decode cX10_addText 18 = .ok (.if_icmp .gt 29, 3) := by decide +kernel
theorem dX10_addText_21 : decode cX10_addText 21 = .ok (.aload_n 0, 1) := by decide +kernel
theorem dX10_addText_22 : decode cX10_addText 22 = .ok (.getfield 8, 3) := by decide +kernel
theorem dX10_addText_25 : decode cX10_addText 25 = .ok (.iload_n 2, 1) := by decide +kernel
theorem dX10_addText_26 : decode cX10_addText 26 = .ok (.iload_n 3, 1) := by decide +kernel
theorem dX10_addText_27 : decode cX10_addText 27 = .ok (.iadd, 1) := by decide +kernel
theorem dX10_addText_28 : decode cX10_addText 28 = .ok (.iload 4, 2) := by decide +kernel
theorem dX10_addText_30 : decode cX10_addText 30 = .ok (.iadd, 1) := by decide +kernel
theorem dX10_addText_31 : decode cX10_addText 31 = .ok (.aload_n 0, 1) := by decide +kernel
theorem dX10_addText_32 : decode cX10_addText 32 = .ok (.getfield 8, 3) := by decide +kernel
theorem dX10_addText_35 : decode cX10_addText 35 = .ok (.iload_n 1, 1) := by decide +kernel
theorem dX10_addText_36 : decode cX10_addText 36 = .ok (.iload 4, 2) := by decide +kernel
theorem dX10_addText_38 : decode cX10_addText 38 = .ok (.iadd, 1) := by decide +kernel
theorem dX10_addText_39 : decode cX10_addText 39 = .ok (.iaload, 1) := by decide +kernel
theorem dX10_addText_40 : decode cX10_addText 40 = .ok (.iastore, 1) := by decide +kernel
theorem dX10_addText_41 : decode cX10_addText 41 = .ok (.iinc 4 1, 3) := by decide +kernel
theorem dX10_addText_44 : decode cX10_addText 44 = .ok (.goto (-34), 3) := by decide +kernel
theorem dX10_addText_47 : decode cX10_addText 47 = .ok (.aload_n 0, 1) := by decide +kernel
theorem dX10_addText_48 : decode cX10_addText 48 = .ok (.getfield 8, 3) := by decide +kernel
theorem dX10_addText_51 : decode cX10_addText 51 = .ok (.iload_n 2, 1) := by decide +kernel
theorem dX10_addText_52 : decode cX10_addText 52 = .ok (.iload_n 3, 1) := by decide +kernel
theorem dX10_addText_53 : decode cX10_addText 53 = .ok (.aload_n 0, 1) := by decide +kernel
theorem dX10_addText_54 : decode cX10_addText 54 = .ok (.getfield 8, 3) := by decide +kernel
theorem dX10_addText_57 : decode cX10_addText 57 = .ok (.iload_n 1, 1) := by decide +kernel
theorem dX10_addText_58 : decode cX10_addText 58 = .ok (.iaload, 1) := by decide +kernel
theorem dX10_addText_59 : decode cX10_addText 59 = .ok (.iadd, 1) := by decide +kernel
theorem dX10_addText_60 : decode cX10_addText 60 = .ok (.iastore, 1) := by decide +kernel
theorem dX10_addText_61 : decode cX10_addText 61 = .ok (.return_, 1) := by decide +kernel
theorem dX10_addSign_0 : decode cX10_addSign 0 = .ok (.aload_n 0, 1) := by decide +kernel
theorem dX10_addSign_1 : decode cX10_addSign 1 = .ok (.getfield 8, 3) := by decide +kernel
theorem dX10_addSign_4 : decode cX10_addSign 4 = .ok (.iload_n 1, 1) := by decide +kernel
theorem dX10_addSign_5 : decode cX10_addSign 5 = .ok (.dup2, 1) := by decide +kernel
theorem dX10_addSign_6 : decode cX10_addSign 6 = .ok (.iaload, 1) := by decide +kernel
theorem dX10_addSign_7 : decode cX10_addSign 7 = .ok (.iconst 1, 1) := by decide +kernel
theorem dX10_addSign_8 : decode cX10_addSign 8 = .ok (.iadd, 1) := by decide +kernel
theorem dX10_addSign_9 : decode cX10_addSign 9 = .ok (.iastore, 1) := by decide +kernel
theorem dX10_addSign_10 : decode cX10_addSign 10 = .ok (.aload_n 0, 1) := by decide +kernel
theorem dX10_addSign_11 : decode cX10_addSign 11 = .ok (.getfield 8, 3) := by decide +kernel
theorem dX10_addSign_14 : decode cX10_addSign 14 = .ok (.iload_n 1, 1) := by decide +kernel
theorem dX10_addSign_15 : decode cX10_addSign 15 = .ok (.aload_n 0, 1) := by decide +kernel
theorem dX10_addSign_16 : decode cX10_addSign 16 = .ok (.getfield 8, 3) := by decide +kernel
theorem dX10_addSign_19 : decode cX10_addSign 19 = .ok (.iload_n 1, 1) := by decide +kernel
theorem dX10_addSign_20 : decode cX10_addSign 20 = .ok (.iaload, 1) := by decide +kernel
theorem dX10_addSign_21 : decode cX10_addSign 21 = .ok (.iadd, 1) := by decide +kernel
theorem dX10_addSign_22 : decode cX10_addSign 22 = .ok (.iload_n 2, 1) := by decide +kernel
theorem dX10_addSign_23 : decode cX10_addSign 23 = .ok (.iastore, 1) := by decide +kernel
theorem dX10_addSign_24 : decode cX10_addSign 24 = .ok (.return_, 1) := by decide +kernel
theorem dX10_compare_0 : decode cX10_compare 0 = .ok (.aload_n 0, 1) := by decide +kernel
theorem dX10_compare_1 : decode cX10_compare 1 = .ok (.getfield 8, 3) := by decide +kernel
theorem dX10_compare_4 : decode cX10_compare 4 = .ok (.iload_n 1, 1) := by decide +kernel
theorem dX10_compare_5 : decode cX10_compare 5 = .ok (.iaload, 1) := by decide +kernel
theorem dX10_compare_6 : decode cX10_compare 6 = .ok (.aload_n 0, 1) := by decide +kernel
theorem dX10_compare_7 : decode cX10_compare 7 = .ok (.getfield 8, 3) := by decide +kernel
theorem dX10_compare_10 : decode cX10_compare 10 = .ok (.iload_n 2, 1) := by decide +kernel
theorem dX10_compare_11 : decode cX10_compare 11 = .ok (.iaload, 1) := by decide +kernel
theorem dX10_compare_12 : decode cX10_compare 12 = .ok (.if_icmp .ge 12, 3) := by decide +kernel
theorem dX10_compare_15 : decode cX10_compare 15 = .ok (.aload_n 0, 1) := by decide +kernel
theorem dX10_compare_16 : decode cX10_compare 16 = .ok (.getfield 8, 3) := by decide +kernel
theorem dX10_compare_19 : decode cX10_compare 19 = .ok (.iload_n 1, 1) := by decide +kernel
theorem dX10_compare_20 : decode cX10_compare 20 = .ok (.iaload, 1) := by decide +kernel
theorem dX10_compare_21 : decode cX10_compare 21 = .ok (.goto 9, 3) := by decide +kernel
theorem dX10_compare_24 : decode cX10_compare 24 = .ok (.aload_n 0, 1) := by decide +kernel
theorem dX10_compare_25 : decode cX10_compare 25 = .ok (.getfield 8, 3) := by decide +kernel
theorem dX10_compare_28 : decode cX10_compare 28 = .ok (.iload_n 2, 1) := by decide +kernel
theorem dX10_compare_29 : decode cX10_compare 29 = .ok (.iaload, 1) := by decide +kernel
theorem dX10_compare_30 : decode cX10_compare 30 = .ok (.istore_n 3, 1) := by decide +kernel
theorem dX10_compare_31 : decode cX10_compare 31 = .ok (.iconst 1, 1) := by decide +kernel
theorem dX10_compare_32 : decode cX10_compare 32 = .ok (.istore 4, 2) := by decide +kernel
theorem dX10_compare_34 : decode cX10_compare 34 = .ok (.iload 4, 2) := by decide +kernel
theorem dX10_compare_36 : decode cX10_compare 36 = .ok (.iload_n 3, 1) := by decide +kernel
theorem dX10_compare_37 : decode cX10_compare 37 = .ok (.if_icmp .gt 50, 3) := by decide +kernel
theorem dX10_compare_40 : decode cX10_compare 40 = .ok (.aload_n 0, 1) := by decide +kernel
theorem dX10_compare_41 : decode cX10_compare 41 = .ok (.getfield 8, 3) := by decide +kernel
theorem dX10_compare_44 : decode cX10_compare 44 = .ok (.iload_n 1, 1) := by decide +kernel
theorem dX10_compare_45 : decode cX10_compare 45 = .ok (.iload 4, 2) := by decide +kernel
theorem dX10_compare_47 : decode cX10_compare 47 = .ok (.iadd, 1) := by decide +kernel
theorem dX10_compare_48 : decode cX10_compare 48 = .ok (.iaload, 1) := by decide +kernel
theorem dX10_compare_49 : decode cX10_compare 49 = .ok (.aload_n 0, 1) := by decide +kernel
theorem dX10_compare_50 : decode cX10_compare 50 = .ok (.getfield 8, 3) := by decide +kernel
theorem dX10_compare_53 : decode cX10_compare 53 = .ok (.iload_n 2, 1) := by decide +kernel
theorem dX10_compare_54 : decode cX10_compare 54 = .ok (.iload 4, 2) := by decide +kernel
theorem dX10_compare_56 : decode cX10_compare 56 = .ok (.iadd, 1) := by decide +kernel
theorem dX10_compare_57 : decode cX10_compare 57 = .ok (.iaload, 1) := by decide +kernel
theorem dX10_compare_58 : decode cX10_compare 58 = .ok (.if_icmp .eq 23, 3) := by decide +kernel
theorem dX10_compare_61 : decode cX10_compare 61 = .ok (.aload_n 0, 1) := by decide +kernel
theorem dX10_compare_62 : decode cX10_compare 62 = .ok (.getfield 8, 3) := by decide +kernel
theorem dX10_compare_65 : decode cX10_compare 65 = .ok (.iload_n 1, 1) := by decide +kernel
theorem dX10_compare_66 : decode cX10_compare 66 = .ok (.iload 4, 2) := by decide +kernel
theorem dX10_compare_68 : decode cX10_compare 68 = .ok (.iadd, 1) := by decide +kernel
theorem dX10_compare_69 : decode cX10_compare 69 = .ok (.iaload, 1) := by decide +kernel
theorem dX10_compare_70 : decode cX10_compare 70 = .ok (.aload_n 0, 1) := by decide +kernel
theorem dX10_compare_71 : decode cX10_compare 71 = .ok (.getfield 8, 3) := by decide +kernel
theorem dX10_compare_74 : decode cX10_compare 74 = .ok (.iload_n 2, 1) := by decide +kernel
theorem dX10_compare_75 : decode cX10_compare 75 = .ok (.iload 4, 2) := by decide +kernel
theorem dX10_compare_77 : decode cX10_compare 77 = .ok (.iadd, 1) := by decide +kernel
theorem dX10_compare_78 : decode cX10_compare 78 = .ok (.iaload, 1) := by decide +kernel
theorem dX10_compare_79 : decode cX10_compare 79 = .ok (.isub, 1) := by decide +kernel
theorem dX10_compare_80 : decode cX10_compare 80 = .ok (.ireturn, 1) := by decide +kernel
theorem dX10_compare_81 : decode cX10_compare 81 = .ok (.iinc 4 1, 3) := by decide +kernel
theorem dX10_compare_84 : decode cX10_compare 84 = .ok (.goto (-50), 3) := by decide +kernel
theorem dX10_compare_87 : decode cX10_compare 87 = .ok (.aload_n 0, 1) := by decide +kernel
theorem dX10_compare_88 : decode cX10_compare 88 = .ok (.getfield 8, 3) := by decide +kernel
theorem dX10_compare_91 : decode cX10_compare 91 = .ok (.iload_n 1, 1) := by decide +kernel
theorem dX10_compare_92 : decode cX10_compare 92 = .ok (.iaload, 1) := by decide +kernel
theorem dX10_compare_93 : decode cX10_compare 93 = .ok (.aload_n 0, 1) := by decide +kernel
theorem dX10_compare_94 : decode cX10_compare 94 = .ok (.getfield 8, 3) := by decide +kernel
theorem dX10_compare_97 : decode cX10_compare 97 = .ok (.iload_n 2, 1) := by decide +kernel
theorem dX10_compare_98 : decode cX10_compare 98 = .ok (.iaload, 1) := by decide +kernel
theorem dX10_compare_99 : decode cX10_compare 99 = .ok (.isub, 1) := by decide +kernel
theorem dX10_compare_100 : decode cX10_compare 100 = .ok (.ireturn, 1) := by decide +kernel
theorem dX10_refusedNull_0 : decode cX10_refusedNull 0 = .ok (.aload_n 0, 1) := by decide +kernel
theorem dX10_refusedNull_1 : decode cX10_refusedNull 1 = .ok (.dup, 1) := by decide +kernel
theorem dX10_refusedNull_2 : decode cX10_refusedNull 2 = .ok (.getfield 55, 3) := by decide +kernel
theorem dX10_refusedNull_5 : decode cX10_refusedNull 5 = .ok (.iconst 1, 1) := by decide +kernel
theorem dX10_refusedNull_6 : decode cX10_refusedNull 6 = .ok (.iadd, 1) := by decide +kernel
theorem dX10_refusedNull_7 : decode cX10_refusedNull 7 = .ok (.putfield 55, 3) := by decide +kernel
theorem dX10_refusedNull_10 : decode cX10_refusedNull 10 = .ok (.bipush (-7), 2) := by decide +kernel
theorem dX10_refusedNull_12 : decode cX10_refusedNull 12 = .ok (.ireturn, 1) := by decide +kernel
set_option maxRecDepth 20000 in
theorem ggX10_erase_X10_isSlot : GoodIn wsX10_erase wsX10_isSlot := goodIn_r _ [5] (by decide +kernel) (by decide +kernel)
set_option maxRecDepth 20000 in
theorem gX10_erase_X10_isSlot : GoodIn wsX10_erase (va_wsS RX10 59 yX10_isSlot wsX10_isSlot) := goodIn_app (goodIn_of _ (by decide +kernel)) ggX10_erase_X10_isSlot
set_option maxRecDepth 20000 in
theorem ggX10_erase_X10_at : GoodIn wsX10_erase wsX10_at := goodIn_r _ [8] (by decide +kernel) (by decide +kernel)
set_option maxRecDepth 20000 in
theorem gX10_erase_X10_at : GoodIn wsX10_erase (va_wsS RX10 51 yX10_at wsX10_at) := goodIn_app (goodIn_of _ (by decide +kernel)) ggX10_erase_X10_at
theorem dX10_erase_0 : decode cX10_erase 0 = .ok (.iload_n 1, 1) := by decide +kernel
theorem dX10_erase_1 : decode cX10_erase 1 = .ok (.invokestatic 59, 3) := by decide +kernel
theorem dX10_erase_4 : decode cX10_erase 4 = .ok (.ifCond .ne 5, 3) := by decide +kernel
theorem dX10_erase_7 : decode cX10_erase 7 = .ok (.iconst (-1), 1) := by decide +kernel
theorem dX10_erase_8 : decode cX10_erase 8 = .ok (.ireturn, 1) := by decide +kernel
theorem dX10_erase_9 : decode cX10_erase 9 = .ok (.aload_n 0, 1) := by decide +kernel
theorem dX10_erase_10 : decode cX10_erase 10 = .ok (.getfield 8, 3) := by decide +kernel
theorem dX10_erase_13 : decode cX10_erase 13 = .ok (.iload_n 1, 1) := by decide +kernel
theorem dX10_erase_14 : decode cX10_erase 14 = .ok (.invokestatic 51, 3) := by decide +kernel
theorem dX10_erase_17 : decode cX10_erase 17 = .ok (.iaload, 1) := by decide +kernel
theorem dX10_erase_18 : decode cX10_erase 18 = .ok (.istore_n 2, 1) := by decide +kernel
theorem dX10_erase_19 : decode cX10_erase 19 = .ok (.aload_n 0, 1) := by decide +kernel
theorem dX10_erase_20 : decode cX10_erase 20 = .ok (.getfield 8, 3) := by decide +kernel
theorem dX10_erase_23 : decode cX10_erase 23 = .ok (.iload_n 1, 1) := by decide +kernel
theorem dX10_erase_24 : decode cX10_erase 24 = .ok (.invokestatic 51, 3) := by decide +kernel
theorem dX10_erase_27 : decode cX10_erase 27 = .ok (.iconst 0, 1) := by decide +kernel
theorem dX10_erase_28 : decode cX10_erase 28 = .ok (.iastore, 1) := by decide +kernel
theorem dX10_erase_29 : decode cX10_erase 29 = .ok (.iload_n 2, 1) := by decide +kernel
theorem dX10_erase_30 : decode cX10_erase 30 = .ok (.ifCond .ge 8, 3) := by decide +kernel
theorem dX10_erase_33 : decode cX10_erase 33 = .ok (.bipush (-2), 2) := by decide +kernel
theorem dX10_erase_35 : decode cX10_erase 35 = .ok (.goto 4, 3) := by decide +kernel
theorem dX10_erase_38 : decode cX10_erase 38 = .ok (.iload_n 2, 1) := by decide +kernel
theorem dX10_erase_39 : decode cX10_erase 39 = .ok (.ireturn, 1) := by decide +kernel
set_option maxRecDepth 20000 in
theorem ggX10_forget_X10_isSlot : GoodIn wsX10_forget wsX10_isSlot := goodIn_r _ [5] (by decide +kernel) (by decide +kernel)
set_option maxRecDepth 20000 in
theorem gX10_forget_X10_isSlot : GoodIn wsX10_forget (va_wsS RX10 59 yX10_isSlot wsX10_isSlot) := goodIn_app (goodIn_of _ (by decide +kernel)) ggX10_forget_X10_isSlot
set_option maxRecDepth 20000 in
theorem ggX10_forget_X10_at : GoodIn wsX10_forget wsX10_at := goodIn_r _ [8] (by decide +kernel) (by decide +kernel)
set_option maxRecDepth 20000 in
theorem gX10_forget_X10_at : GoodIn wsX10_forget (va_wsS RX10 51 yX10_at wsX10_at) := goodIn_app (goodIn_of _ (by decide +kernel)) ggX10_forget_X10_at
theorem dX10_forget_0 : decode cX10_forget 0 = .ok (.iload_n 1, 1) := by decide +kernel
theorem dX10_forget_1 : decode cX10_forget 1 = .ok (.invokestatic 59, 3) := by decide +kernel
theorem dX10_forget_4 : decode cX10_forget 4 = .ok (.ifCond .ne 5, 3) := by decide +kernel
theorem dX10_forget_7 : decode cX10_forget 7 = .ok (.iconst (-1), 1) := by decide +kernel
theorem dX10_forget_8 : decode cX10_forget 8 = .ok (.ireturn, 1) := by decide +kernel
theorem dX10_forget_9 : decode cX10_forget 9 = .ok (.aload_n 0, 1) := by decide +kernel
theorem dX10_forget_10 : decode cX10_forget 10 = .ok (.getfield 8, 3) := by decide +kernel
theorem dX10_forget_13 : decode cX10_forget 13 = .ok (.iload_n 1, 1) := by decide +kernel
theorem dX10_forget_14 : decode cX10_forget 14 = .ok (.invokestatic 51, 3) := by decide +kernel
theorem dX10_forget_17 : decode cX10_forget 17 = .ok (.iaload, 1) := by decide +kernel
theorem dX10_forget_18 : decode cX10_forget 18 = .ok (.istore_n 2, 1) := by decide +kernel
theorem dX10_forget_19 : decode cX10_forget 19 = .ok (.aload_n 0, 1) := by decide +kernel
theorem dX10_forget_20 : decode cX10_forget 20 = .ok (.getfield 8, 3) := by decide +kernel
theorem dX10_forget_23 : decode cX10_forget 23 = .ok (.iload_n 1, 1) := by decide +kernel
theorem dX10_forget_24 : decode cX10_forget 24 = .ok (.invokestatic 51, 3) := by decide +kernel
theorem dX10_forget_27 : decode cX10_forget 27 = .ok (.bipush (-5), 2) := by decide +kernel
theorem dX10_forget_29 : decode cX10_forget 29 = .ok (.iastore, 1) := by decide +kernel
theorem dX10_forget_30 : decode cX10_forget 30 = .ok (.iload_n 2, 1) := by decide +kernel
theorem dX10_forget_31 : decode cX10_forget 31 = .ok (.ifCond .ge 8, 3) := by decide +kernel
theorem dX10_forget_34 : decode cX10_forget 34 = .ok (.bipush (-2), 2) := by decide +kernel
theorem dX10_forget_36 : decode cX10_forget 36 = .ok (.goto 4, 3) := by decide +kernel
theorem dX10_forget_39 : decode cX10_forget 39 = .ok (.iload_n 2, 1) := by decide +kernel
theorem dX10_forget_40 : decode cX10_forget 40 = .ok (.ireturn, 1) := by decide +kernel
set_option maxRecDepth 20000 in
theorem ggX10_append_X10_isSlot : GoodIn wsX10_append wsX10_isSlot := goodIn_r _ [5] (by decide +kernel) (by decide +kernel)
set_option maxRecDepth 20000 in
theorem gX10_append_X10_isSlot : GoodIn wsX10_append (va_wsS RX10 59 yX10_isSlot wsX10_isSlot) := goodIn_app (goodIn_of _ (by decide +kernel)) ggX10_append_X10_isSlot
set_option maxRecDepth 20000 in
theorem ggX10_append_X10_hasNothing : GoodIn wsX10_append wsX10_hasNothing := goodIn_r _ [9, 1, 10, 11, 4, 12, 17, 18, 19, 20, 21, 22, 23, 24, 25, 26, 27, 28, 29, 30, 31, 32, 33, 34, 35, 36, 37] (by decide +kernel) (by decide +kernel)
set_option maxRecDepth 20000 in
theorem gX10_append_X10_hasNothing : GoodIn wsX10_append (wsV RX10 63 RX10 yX10_hasNothing wsX10_hasNothing) := goodIn_app (goodIn_of _ (by decide +kernel)) ggX10_append_X10_hasNothing
set_option maxRecDepth 20000 in
theorem ggX10_append_X10_at : GoodIn wsX10_append wsX10_at := goodIn_r _ [12] (by decide +kernel) (by decide +kernel)
set_option maxRecDepth 20000 in
theorem gX10_append_X10_at : GoodIn wsX10_append (va_wsS RX10 51 yX10_at wsX10_at) := goodIn_app (goodIn_of _ (by decide +kernel)) ggX10_append_X10_at
set_option maxRecDepth 20000 in
theorem ggX10_append_X10_addSign : GoodIn wsX10_append wsX10_addSign := goodIn_r _ [16, 1, 17, 18, 19, 20, 21, 22, 23, 24, 25, 26, 27, 28, 29, 30, 31, 32, 33, 34, 35, 36, 37] (by decide +kernel) (by decide +kernel)
set_option maxRecDepth 20000 in
theorem gX10_append_X10_addSign : GoodIn wsX10_append (wsV RX10 66 RX10 yX10_addSign wsX10_addSign) := goodIn_app (goodIn_of _ (by decide +kernel)) ggX10_append_X10_addSign
theorem dX10_append_0 : decode cX10_append 0 = .ok (.iload_n 1, 1) := by decide +kernel
theorem dX10_append_1 : decode cX10_append 1 = .ok (.invokestatic 59, 3) := by decide +kernel
theorem dX10_append_4 : decode cX10_append 4 = .ok (.ifCond .eq 14, 3) := by decide +kernel
theorem dX10_append_7 : decode cX10_append 7 = .ok (.iload_n 2, 1) := by decide +kernel
theorem dX10_append_8 : decode cX10_append 8 = .ok (.ifCond .lt 10, 3) := by decide +kernel
theorem dX10_append_11 : decode cX10_append 11 = .ok (.iload_n 2, 1) := by decide +kernel
theorem dX10_append_12 : decode cX10_append 12 = .ok (.sipush 255, 3) := by decide +kernel
theorem dX10_append_15 : decode cX10_append 15 = .ok (.if_icmp .le 5, 3) := by decide +kernel
theorem dX10_append_18 : decode cX10_append 18 = .ok (.iconst (-1), 1) := by decide +kernel
theorem dX10_append_19 : decode cX10_append 19 = .ok (.ireturn, 1) := by decide +kernel
theorem dX10_append_20 : decode cX10_append 20 = .ok (.aload_n 0, 1) := by decide +kernel
theorem dX10_append_21 : decode cX10_append 21 = .ok (.iload_n 1, 1) := by decide +kernel
theorem dX10_append_22 : decode cX10_append 22 = .ok (.invokevirtual 63, 3) := by decide +kernel
theorem dX10_append_25 : decode cX10_append 25 = .ok (.ifCond .eq 6, 3) := by decide +kernel
theorem dX10_append_28 : decode cX10_append 28 = .ok (.bipush (-2), 2) := by decide +kernel
theorem dX10_append_30 : decode cX10_append 30 = .ok (.ireturn, 1) := by decide +kernel
theorem dX10_append_31 : decode cX10_append 31 = .ok (.aload_n 0, 1) := by decide +kernel
theorem dX10_append_32 : decode cX10_append 32 = .ok (.getfield 8, 3) := by decide +kernel
theorem dX10_append_35 : decode cX10_append 35 = .ok (.iload_n 1, 1) := by decide +kernel
theorem dX10_append_36 : decode cX10_append 36 = .ok (.invokestatic 51, 3) := by decide +kernel
theorem dX10_append_39 : decode cX10_append 39 = .ok (.iaload, 1) := by decide +kernel
theorem dX10_append_40 : decode cX10_append 40 = .ok (.sipush 300, 3) := by decide +kernel
theorem dX10_append_43 : decode cX10_append 43 = .ok (.if_icmp .ne 6, 3) := by decide +kernel
theorem dX10_append_46 : decode cX10_append 46 = .ok (.bipush (-3), 2) := by decide +kernel
theorem dX10_append_48 : decode cX10_append 48 = .ok (.ireturn, 1) := by decide +kernel
theorem dX10_append_49 : decode cX10_append 49 = .ok (.aload_n 0, 1) := by decide +kernel
theorem dX10_append_50 : decode cX10_append 50 = .ok (.iload_n 1, 1) := by decide +kernel
theorem dX10_append_51 : decode cX10_append 51 = .ok (.invokestatic 51, 3) := by decide +kernel
theorem dX10_append_54 : decode cX10_append 54 = .ok (.iload_n 2, 1) := by decide +kernel
theorem dX10_append_55 : decode cX10_append 55 = .ok (.invokevirtual 66, 3) := by decide +kernel
theorem dX10_append_58 : decode cX10_append 58 = .ok (.aload_n 0, 1) := by decide +kernel
theorem dX10_append_59 : decode cX10_append 59 = .ok (.getfield 8, 3) := by decide +kernel
theorem dX10_append_62 : decode cX10_append 62 = .ok (.iload_n 1, 1) := by decide +kernel
theorem dX10_append_63 : decode cX10_append 63 = .ok (.invokestatic 51, 3) := by decide +kernel
theorem dX10_append_66 : decode cX10_append 66 = .ok (.iaload, 1) := by decide +kernel
theorem dX10_append_67 : decode cX10_append 67 = .ok (.ireturn, 1) := by decide +kernel
set_option maxRecDepth 20000 in
theorem ggX10_length_X10_isSlot : GoodIn wsX10_length wsX10_isSlot := goodIn_r _ [5] (by decide +kernel) (by decide +kernel)
set_option maxRecDepth 20000 in
theorem gX10_length_X10_isSlot : GoodIn wsX10_length (va_wsS RX10 59 yX10_isSlot wsX10_isSlot) := goodIn_app (goodIn_of _ (by decide +kernel)) ggX10_length_X10_isSlot
set_option maxRecDepth 20000 in
theorem ggX10_length_X10_hasNothing : GoodIn wsX10_length wsX10_hasNothing := goodIn_r _ [9, 1, 10, 11, 4, 12, 13, 14, 15, 16, 17, 18, 19, 20, 21, 22, 23, 24, 25, 26, 27, 28, 29, 30, 31, 32, 33] (by decide +kernel) (by decide +kernel)
set_option maxRecDepth 20000 in
theorem gX10_length_X10_hasNothing : GoodIn wsX10_length (wsV RX10 63 RX10 yX10_hasNothing wsX10_hasNothing) := goodIn_app (goodIn_of _ (by decide +kernel)) ggX10_length_X10_hasNothing
set_option maxRecDepth 20000 in
theorem ggX10_length_X10_at : GoodIn wsX10_length wsX10_at := goodIn_r _ [12] (by decide +kernel) (by decide +kernel)
set_option maxRecDepth 20000 in
theorem gX10_length_X10_at : GoodIn wsX10_length (va_wsS RX10 51 yX10_at wsX10_at) := goodIn_app (goodIn_of _ (by decide +kernel)) ggX10_length_X10_at
theorem dX10_length_0 : decode cX10_length 0 = .ok (.iload_n 1, 1) := by decide +kernel
theorem dX10_length_1 : decode cX10_length 1 = .ok (.invokestatic 59, 3) := by decide +kernel
theorem dX10_length_4 : decode cX10_length 4 = .ok (.ifCond .ne 7, 3) := by decide +kernel
theorem dX10_length_7 : decode cX10_length 7 = .ok (.iconst (-1), 1) := by decide +kernel
theorem dX10_length_8 : decode cX10_length 8 = .ok (.goto 25, 3) := by decide +kernel
theorem dX10_length_11 : decode cX10_length 11 = .ok (.aload_n 0, 1) := by decide +kernel
theorem dX10_length_12 : decode cX10_length 12 = .ok (.iload_n 1, 1) := by decide +kernel
theorem dX10_length_13 : decode cX10_length 13 = .ok (.invokevirtual 63, 3) := by decide +kernel
theorem dX10_length_16 : decode cX10_length 16 = .ok (.ifCond .eq 8, 3) := by decide +kernel
theorem dX10_length_19 : decode cX10_length 19 = .ok (.bipush (-2), 2) := by decide +kernel
theorem dX10_length_21 : decode cX10_length 21 = .ok (.goto 12, 3) := by decide +kernel
theorem dX10_length_24 : decode cX10_length 24 = .ok (.aload_n 0, 1) := by decide +kernel
theorem dX10_length_25 : decode cX10_length 25 = .ok (.getfield 8, 3) := by decide +kernel
theorem dX10_length_28 : decode cX10_length 28 = .ok (.iload_n 1, 1) := by decide +kernel
theorem dX10_length_29 : decode cX10_length 29 = .ok (.invokestatic 51, 3) := by decide +kernel
theorem dX10_length_32 : decode cX10_length 32 = .ok (.iaload, 1) := by decide +kernel
theorem dX10_length_33 : decode cX10_length 33 = .ok (.ireturn, 1) := by decide +kernel
set_option maxRecDepth 20000 in
theorem ggX10_characterAt_X10_isSlot : GoodIn wsX10_characterAt wsX10_isSlot := goodIn_r _ [5] (by decide +kernel) (by decide +kernel)
set_option maxRecDepth 20000 in
theorem gX10_characterAt_X10_isSlot : GoodIn wsX10_characterAt (va_wsS RX10 59 yX10_isSlot wsX10_isSlot) := goodIn_app (goodIn_of _ (by decide +kernel)) ggX10_characterAt_X10_isSlot
set_option maxRecDepth 20000 in
theorem ggX10_characterAt_X10_hasNothing : GoodIn wsX10_characterAt wsX10_hasNothing := goodIn_r _ [9, 1, 10, 11, 4, 12, 13, 14, 15, 16, 17, 18, 19, 20, 21, 22, 23, 24, 25, 26, 27, 28, 29, 30, 31, 32, 33] (by decide +kernel) (by decide +kernel)
set_option maxRecDepth 20000 in
theorem gX10_characterAt_X10_hasNothing : GoodIn wsX10_characterAt (wsV RX10 63 RX10 yX10_hasNothing wsX10_hasNothing) := goodIn_app (goodIn_of _ (by decide +kernel)) ggX10_characterAt_X10_hasNothing
set_option maxRecDepth 20000 in
theorem ggX10_characterAt_X10_at : GoodIn wsX10_characterAt wsX10_at := goodIn_r _ [12] (by decide +kernel) (by decide +kernel)
set_option maxRecDepth 20000 in
theorem gX10_characterAt_X10_at : GoodIn wsX10_characterAt (va_wsS RX10 51 yX10_at wsX10_at) := goodIn_app (goodIn_of _ (by decide +kernel)) ggX10_characterAt_X10_at
theorem dX10_characterAt_0 : decode cX10_characterAt 0 = .ok (.iload_n 1, 1) := by decide +kernel
theorem dX10_characterAt_1 : decode cX10_characterAt 1 = .ok (.invokestatic 59, 3) := by decide +kernel
theorem dX10_characterAt_4 : decode cX10_characterAt 4 = .ok (.ifCond .ne 5, 3) := by decide +kernel
theorem dX10_characterAt_7 : decode cX10_characterAt 7 = .ok (.iconst (-1), 1) := by decide +kernel
theorem dX10_characterAt_8 : decode cX10_characterAt 8 = .ok (.ireturn, 1) := by decide +kernel
theorem dX10_characterAt_9 : decode cX10_characterAt 9 = .ok (.aload_n 0, 1) := by decide +kernel
theorem dX10_characterAt_10 : decode cX10_characterAt 10 = .ok (.iload_n 1, 1) := by decide +kernel
theorem dX10_characterAt_11 : decode cX10_characterAt 11 = .ok (.invokevirtual 63, 3) := by decide +kernel
theorem dX10_characterAt_14 : decode cX10_characterAt 14 = .ok (.ifCond .eq 6, 3) := by decide +kernel
theorem dX10_characterAt_17 : decode cX10_characterAt 17 = .ok (.bipush (-2), 2) := by decide +kernel
theorem dX10_characterAt_19 : decode cX10_characterAt 19 = .ok (.ireturn, 1) := by decide +kernel
theorem dX10_characterAt_20 : decode cX10_characterAt 20 = .ok (.iload_n 2, 1) := by decide +kernel
theorem dX10_characterAt_21 : decode cX10_characterAt 21 = .ok (.ifCond .lt 16, 3) := by decide +kernel
theorem dX10_characterAt_24 : decode cX10_characterAt 24 = .ok (.iload_n 2, 1) := by decide +kernel
theorem dX10_characterAt_25 : decode cX10_characterAt 25 = .ok (.aload_n 0, 1) := by decide +kernel
theorem dX10_characterAt_26 : decode cX10_characterAt 26 = .ok (.getfield 8, 3) := by decide +kernel
theorem dX10_characterAt_29 : decode cX10_characterAt 29 = .ok (.iload_n 1, 1) := by decide +kernel
theorem dX10_characterAt_30 : decode cX10_characterAt 30 = .ok (.invokestatic 51, 3) := by decide +kernel
theorem dX10_characterAt_33 : decode cX10_characterAt 33 = .ok (.iaload, 1) := by decide +kernel
theorem dX10_characterAt_34 : decode cX10_characterAt 34 = .ok (.if_icmp .lt 8, 3) := by decide +kernel
theorem dX10_characterAt_37 : decode cX10_characterAt 37 = .ok (.bipush (-5), 2) := by decide +kernel
theorem dX10_characterAt_39 : decode cX10_characterAt 39 = .ok (.goto 16, 3) := by decide +kernel
theorem dX10_characterAt_42 : decode cX10_characterAt 42 = .ok (.aload_n 0, 1) := by decide +kernel
theorem dX10_characterAt_43 : decode cX10_characterAt 43 = .ok (.getfield 8, 3) := by decide +kernel
theorem dX10_characterAt_46 : decode cX10_characterAt 46 = .ok (.iload_n 1, 1) := by decide +kernel
theorem dX10_characterAt_47 : decode cX10_characterAt 47 = .ok (.invokestatic 51, 3) := by decide +kernel
theorem dX10_characterAt_50 : decode cX10_characterAt 50 = .ok (.iconst 1, 1) := by decide +kernel
theorem dX10_characterAt_51 : decode cX10_characterAt 51 = .ok (.iadd, 1) := by decide +kernel
theorem dX10_characterAt_52 : decode cX10_characterAt 52 = .ok (.iload_n 2, 1) := by decide +kernel
theorem dX10_characterAt_53 : decode cX10_characterAt 53 = .ok (.iadd, 1) := by decide +kernel
theorem dX10_characterAt_54 : decode cX10_characterAt 54 = .ok (.iaload, 1) := by decide +kernel
theorem dX10_characterAt_55 : decode cX10_characterAt 55 = .ok (.ireturn, 1) := by decide +kernel
set_option maxRecDepth 20000 in
theorem ggX10_copy_X10_isSlot : GoodIn wsX10_copy wsX10_isSlot := goodIn_r _ [5] (by decide +kernel) (by decide +kernel)
set_option maxRecDepth 20000 in
theorem gX10_copy_X10_isSlot : GoodIn wsX10_copy (va_wsS RX10 59 yX10_isSlot wsX10_isSlot) := goodIn_app (goodIn_of _ (by decide +kernel)) ggX10_copy_X10_isSlot
set_option maxRecDepth 20000 in
theorem ggX10_copy_X10_hasNothing : GoodIn wsX10_copy wsX10_hasNothing := goodIn_r _ [9, 1, 10, 11, 4, 12, 17, 18, 19, 20, 21, 22, 23, 24, 25, 26, 27, 28, 29, 30, 31, 32, 33, 34, 35, 36, 37] (by decide +kernel) (by decide +kernel)
set_option maxRecDepth 20000 in
theorem gX10_copy_X10_hasNothing : GoodIn wsX10_copy (wsV RX10 63 RX10 yX10_hasNothing wsX10_hasNothing) := goodIn_app (goodIn_of _ (by decide +kernel)) ggX10_copy_X10_hasNothing
set_option maxRecDepth 20000 in
theorem ggX10_copy_X10_at : GoodIn wsX10_copy wsX10_at := goodIn_r _ [12] (by decide +kernel) (by decide +kernel)
set_option maxRecDepth 20000 in
theorem gX10_copy_X10_at : GoodIn wsX10_copy (va_wsS RX10 51 yX10_at wsX10_at) := goodIn_app (goodIn_of _ (by decide +kernel)) ggX10_copy_X10_at
set_option maxRecDepth 20000 in
theorem ggX10_copy_X10_copyText : GoodIn wsX10_copy wsX10_copyText := goodIn_r _ [16, 1, 17, 18, 19, 20, 21, 22, 23, 24, 25, 26, 27, 28, 29, 30, 31, 32, 33, 34, 35, 36, 37] (by decide +kernel) (by decide +kernel)
set_option maxRecDepth 20000 in
theorem gX10_copy_X10_copyText : GoodIn wsX10_copy (wsV RX10 70 RX10 yX10_copyText wsX10_copyText) := goodIn_app (goodIn_of _ (by decide +kernel)) ggX10_copy_X10_copyText
theorem dX10_copy_0 : decode cX10_copy 0 = .ok (.iload_n 1, 1) := by decide +kernel
theorem dX10_copy_1 : decode cX10_copy 1 = .ok (.invokestatic 59, 3) := by decide +kernel
theorem dX10_copy_4 : decode cX10_copy 4 = .ok (.ifCond .eq 10, 3) := by decide +kernel
theorem dX10_copy_7 : decode cX10_copy 7 = .ok (.iload_n 2, 1) := by decide +kernel
theorem dX10_copy_8 : decode cX10_copy 8 = .ok (.invokestatic 59, 3) := by decide +kernel
theorem dX10_copy_11 : decode cX10_copy 11 = .ok (.ifCond .ne 5, 3) := by decide +kernel
theorem dX10_copy_14 : decode cX10_copy 14 = .ok (.iconst (-1), 1) := by decide +kernel
theorem dX10_copy_15 : decode cX10_copy 15 = .ok (.ireturn, 1) := by decide +kernel
theorem dX10_copy_16 : decode cX10_copy 16 = .ok (.aload_n 0, 1) := by decide +kernel
theorem dX10_copy_17 : decode cX10_copy 17 = .ok (.iload_n 1, 1) := by decide +kernel
theorem dX10_copy_18 : decode cX10_copy 18 = .ok (.invokevirtual 63, 3) := by decide +kernel
theorem dX10_copy_21 : decode cX10_copy 21 = .ok (.istore_n 3, 1) := by decide +kernel
theorem dX10_copy_22 : decode cX10_copy 22 = .ok (.aload_n 0, 1) := by decide +kernel
theorem dX10_copy_23 : decode cX10_copy 23 = .ok (.iload_n 1, 1) := by decide +kernel
theorem dX10_copy_24 : decode cX10_copy 24 = .ok (.invokestatic 51, 3) := by decide +kernel
theorem dX10_copy_27 : decode cX10_copy 27 = .ok (.iload_n 2, 1) := by decide +kernel
theorem dX10_copy_28 : decode cX10_copy 28 = .ok (.invokestatic 51, 3) := by decide +kernel
theorem dX10_copy_31 : decode cX10_copy 31 = .ok (.invokevirtual 70, 3) := by decide +kernel
theorem dX10_copy_34 : decode cX10_copy 34 = .ok (.iload_n 3, 1) := by decide +kernel
theorem dX10_copy_35 : decode cX10_copy 35 = .ok (.ifCond .eq 8, 3) := by decide +kernel
theorem dX10_copy_38 : decode cX10_copy 38 = .ok (.bipush (-2), 2) := by decide +kernel
theorem dX10_copy_40 : decode cX10_copy 40 = .ok (.goto 12, 3) := by decide +kernel
theorem dX10_copy_43 : decode cX10_copy 43 = .ok (.aload_n 0, 1) := by decide +kernel
theorem dX10_copy_44 : decode cX10_copy 44 = .ok (.getfield 8, 3) := by decide +kernel
theorem dX10_copy_47 : decode cX10_copy 47 = .ok (.iload_n 2, 1) := by decide +kernel
theorem dX10_copy_48 : decode cX10_copy 48 = .ok (.invokestatic 51, 3) := by decide +kernel
theorem dX10_copy_51 : decode cX10_copy 51 = .ok (.iaload, 1) := by decide +kernel
theorem dX10_copy_52 : decode cX10_copy 52 = .ok (.ireturn, 1) := by decide +kernel
set_option maxRecDepth 20000 in
theorem ggX10_same_X10_isSlot : GoodIn wsX10_same wsX10_isSlot := goodIn_r _ [4] (by decide +kernel) (by decide +kernel)
set_option maxRecDepth 20000 in
theorem gX10_same_X10_isSlot : GoodIn wsX10_same (va_wsS RX10 59 yX10_isSlot wsX10_isSlot) := goodIn_app (goodIn_of _ (by decide +kernel)) ggX10_same_X10_isSlot
set_option maxRecDepth 20000 in
theorem ggX10_same_X10_hasNothing : GoodIn wsX10_same wsX10_hasNothing := goodIn_r _ [8, 9, 10, 11, 3, 12, 17, 18, 19, 20, 21, 22, 23, 24, 25, 26, 27, 28, 29, 30, 31, 32, 33, 34, 35, 36, 37] (by decide +kernel) (by decide +kernel)
set_option maxRecDepth 20000 in
theorem gX10_same_X10_hasNothing : GoodIn wsX10_same (wsV RX10 63 RX10 yX10_hasNothing wsX10_hasNothing) := goodIn_app (goodIn_of _ (by decide +kernel)) ggX10_same_X10_hasNothing
set_option maxRecDepth 20000 in
theorem ggX10_same_X10_at : GoodIn wsX10_same wsX10_at := goodIn_r _ [12] (by decide +kernel) (by decide +kernel)
set_option maxRecDepth 20000 in
theorem gX10_same_X10_at : GoodIn wsX10_same (va_wsS RX10 51 yX10_at wsX10_at) := goodIn_app (goodIn_of _ (by decide +kernel)) ggX10_same_X10_at
set_option maxRecDepth 20000 in
theorem ggX10_same_X10_compare : GoodIn wsX10_same wsX10_compare := goodIn_r _ [16, 9, 17, 18, 19, 20, 21, 22, 23, 24, 25, 26, 27, 28, 29, 30, 31, 32, 33, 34, 35, 36, 37] (by decide +kernel) (by decide +kernel)
set_option maxRecDepth 20000 in
theorem gX10_same_X10_compare : GoodIn wsX10_same (wsV RX10 73 RX10 yX10_compare wsX10_compare) := goodIn_app (goodIn_of _ (by decide +kernel)) ggX10_same_X10_compare
theorem dX10_same_0 : decode cX10_same 0 = .ok (.iload_n 1, 1) := by decide +kernel
theorem dX10_same_1 : decode cX10_same 1 = .ok (.invokestatic 59, 3) := by decide +kernel
theorem dX10_same_4 : decode cX10_same 4 = .ok (.ifCond .eq 10, 3) := by decide +kernel
theorem dX10_same_7 : decode cX10_same 7 = .ok (.iload_n 2, 1) := by decide +kernel
theorem dX10_same_8 : decode cX10_same 8 = .ok (.invokestatic 59, 3) := by decide +kernel
theorem dX10_same_11 : decode cX10_same 11 = .ok (.ifCond .ne 5, 3) := by decide +kernel
theorem dX10_same_14 : decode cX10_same 14 = .ok (.iconst (-1), 1) := by decide +kernel
theorem dX10_same_15 : decode cX10_same 15 = .ok (.ireturn, 1) := by decide +kernel
theorem dX10_same_16 : decode cX10_same 16 = .ok (.aload_n 0, 1) := by decide +kernel
theorem dX10_same_17 : decode cX10_same 17 = .ok (.iload_n 1, 1) := by decide +kernel
theorem dX10_same_18 : decode cX10_same 18 = .ok (.invokevirtual 63, 3) := by decide +kernel
theorem dX10_same_21 : decode cX10_same 21 = .ok (.ifCond .ne 11, 3) := by decide +kernel
theorem dX10_same_24 : decode cX10_same 24 = .ok (.aload_n 0, 1) := by decide +kernel
theorem dX10_same_25 : decode cX10_same 25 = .ok (.iload_n 2, 1) := by decide +kernel
theorem dX10_same_26 : decode cX10_same 26 = .ok (.invokevirtual 63, 3) := by decide +kernel
theorem dX10_same_29 : decode cX10_same 29 = .ok (.ifCond .eq 7, 3) := by decide +kernel
theorem dX10_same_32 : decode cX10_same 32 = .ok (.iconst 1, 1) := by decide +kernel
theorem dX10_same_33 : decode cX10_same 33 = .ok (.goto 4, 3) := by decide +kernel
theorem dX10_same_36 : decode cX10_same 36 = .ok (.iconst 0, 1) := by decide +kernel
theorem dX10_same_37 : decode cX10_same 37 = .ok (.istore_n 3, 1) := by decide +kernel
theorem dX10_same_38 : decode cX10_same 38 = .ok (.iload_n 3, 1) := by decide +kernel
theorem dX10_same_39 : decode cX10_same 39 = .ok (.ifCond .eq 27, 3) := by decide +kernel
theorem dX10_same_42 : decode cX10_same 42 = .ok (.aload_n 0, 1) := by decide +kernel
theorem dX10_same_43 : decode cX10_same 43 = .ok (.iload_n 1, 1) := by decide +kernel
theorem dX10_same_44 : decode cX10_same 44 = .ok (.invokevirtual 63, 3) := by decide +kernel
theorem dX10_same_47 : decode cX10_same 47 = .ok (.ifCond .eq 15, 3) := by decide +kernel
theorem dX10_same_50 : decode cX10_same 50 = .ok (.aload_n 0, 1) := by decide +kernel
theorem dX10_same_51 : decode cX10_same 51 = .ok (.iload_n 2, 1) := by decide +kernel
theorem dX10_same_52 : decode cX10_same 52 = .ok (.invokevirtual 63, 3) := by decide +kernel
theorem dX10_same_55 : decode cX10_same 55 = .ok (.ifCond .eq 7, 3) := by decide +kernel
theorem dX10_same_58 : decode cX10_same 58 = .ok (.iconst 1, 1) := by decide +kernel
theorem dX10_same_59 : decode cX10_same 59 = .ok (.goto 27, 3) := by decide +kernel
theorem dX10_same_62 : decode cX10_same 62 = .ok (.iconst 0, 1) := by decide +kernel
theorem dX10_same_63 : decode cX10_same 63 = .ok (.goto 23, 3) := by decide +kernel
theorem dX10_same_66 : decode cX10_same 66 = .ok (.aload_n 0, 1) := by decide +kernel
theorem dX10_same_67 : decode cX10_same 67 = .ok (.iload_n 1, 1) := by decide +kernel
theorem dX10_same_68 : decode cX10_same 68 = .ok (.invokestatic 51, 3) := by decide +kernel
theorem dX10_same_71 : decode cX10_same 71 = .ok (.iload_n 2, 1) := by decide +kernel
theorem dX10_same_72 : decode cX10_same 72 = .ok (.invokestatic 51, 3) := by decide +kernel
theorem dX10_same_75 : decode cX10_same 75 = .ok (.invokevirtual 73, 3) := by decide +kernel
theorem dX10_same_78 : decode cX10_same 78 = .ok (.ifCond .ne 7, 3) := by decide +kernel
theorem dX10_same_81 : decode cX10_same 81 = .ok (.iconst 1, 1) := by decide +kernel
theorem dX10_same_82 : decode cX10_same 82 = .ok (.goto 4, 3) := by decide +kernel
theorem dX10_same_85 : decode cX10_same 85 = .ok (.iconst 0, 1) := by decide +kernel
theorem dX10_same_86 : decode cX10_same 86 = .ok (.istore 4, 2) := by decide +kernel
theorem dX10_same_88 : decode cX10_same 88 = .ok (.iload 4, 2) := by decide +kernel
theorem dX10_same_90 : decode cX10_same 90 = .ok (.ifCond .eq 7, 3) := by decide +kernel
theorem dX10_same_93 : decode cX10_same 93 = .ok (.iconst 1, 1) := by decide +kernel
theorem dX10_same_94 : decode cX10_same 94 = .ok (.goto 4, 3) := by decide +kernel
theorem dX10_same_97 : decode cX10_same 97 = .ok (.iconst 0, 1) := by decide +kernel
theorem dX10_same_98 : decode cX10_same 98 = .ok (.ireturn, 1) := by decide +kernel
theorem dX10_mayBeTyped_0 : decode cX10_mayBeTyped 0 = .ok (.iload_n 0, 1) := by decide +kernel
theorem dX10_mayBeTyped_1 : decode cX10_mayBeTyped 1 = .ok (.bipush 9, 2) := by decide +kernel
theorem dX10_mayBeTyped_3 : decode cX10_mayBeTyped 3 = .ok (.if_icmp .eq 27, 3) := by decide +kernel
theorem dX10_mayBeTyped_6 : decode cX10_mayBeTyped 6 = .ok (.iload_n 0, 1) := by decide +kernel
theorem dX10_mayBeTyped_7 : decode cX10_mayBeTyped 7 = .ok (.bipush 10, 2) := by decide +kernel
theorem dX10_mayBeTyped_9 : decode cX10_mayBeTyped 9 = .ok (.if_icmp .eq 21, 3) := by decide +kernel
theorem dX10_mayBeTyped_12 : decode cX10_mayBeTyped 12 = .ok (.iload_n 0, 1) := by decide +kernel
theorem dX10_mayBeTyped_13 : decode cX10_mayBeTyped 13 = .ok (.bipush 13, 2) := by decide +kernel
theorem dX10_mayBeTyped_15 : decode cX10_mayBeTyped 15 = .ok (.if_icmp .eq 15, 3) := by decide +kernel
theorem dX10_mayBeTyped_18 : decode cX10_mayBeTyped 18 = .ok (.iload_n 0, 1) := by decide +kernel
theorem dX10_mayBeTyped_19 : decode cX10_mayBeTyped 19 = .ok (.bipush 32, 2) := by decide +kernel
theorem dX10_mayBeTyped_21 : decode cX10_mayBeTyped 21 = .ok (.if_icmp .lt 13, 3) := by decide +kernel
theorem dX10_mayBeTyped_24 : decode cX10_mayBeTyped 24 = .ok (.iload_n 0, 1) := by decide +kernel
theorem dX10_mayBeTyped_25 : decode cX10_mayBeTyped 25 = .ok (.bipush 126, 2) := by decide +kernel
theorem dX10_mayBeTyped_27 : decode cX10_mayBeTyped 27 = .ok (.if_icmp .gt 7, 3) := by decide +kernel
theorem dX10_mayBeTyped_30 : decode cX10_mayBeTyped 30 = .ok (.iconst 1, 1) := by decide +kernel
theorem dX10_mayBeTyped_31 : decode cX10_mayBeTyped 31 = .ok (.goto 4, 3) := by decide +kernel
theorem dX10_mayBeTyped_34 : decode cX10_mayBeTyped 34 = .ok (.iconst 0, 1) := by decide +kernel
theorem dX10_mayBeTyped_35 : decode cX10_mayBeTyped 35 = .ok (.ireturn, 1) := by decide +kernel
set_option maxRecDepth 20000 in
theorem ggX10_type_X10_mayBeTyped : GoodIn wsX10_type wsX10_mayBeTyped := goodIn_r _ [6] (by decide +kernel) (by decide +kernel)
set_option maxRecDepth 20000 in
theorem gX10_type_X10_mayBeTyped : GoodIn wsX10_type (va_wsS RX10 77 yX10_mayBeTyped wsX10_mayBeTyped) := goodIn_app (goodIn_of _ (by decide +kernel)) ggX10_type_X10_mayBeTyped
theorem dX10_type_0 : decode cX10_type 0 = .ok (.iload_n 1, 1) := by decide +kernel
theorem dX10_type_1 : decode cX10_type 1 = .ok (.invokestatic 77, 3) := by decide +kernel
theorem dX10_type_4 : decode cX10_type 4 = .ok (.ifCond .ne 5, 3) := by decide +kernel
theorem dX10_type_7 : decode cX10_type 7 = .ok (.iconst (-1), 1) := by decide +kernel
theorem dX10_type_8 : decode cX10_type 8 = .ok (.ireturn, 1) := by decide +kernel
theorem dX10_type_9 : decode cX10_type 9 = .ok (.aload_n 0, 1) := by decide +kernel
theorem dX10_type_10 : decode cX10_type 10 = .ok (.getfield 80, 3) := by decide +kernel
theorem dX10_type_13 : decode cX10_type 13 = .ok (.sipush 300, 3) := by decide +kernel
theorem dX10_type_16 : decode cX10_type 16 = .ok (.if_icmp .ne 6, 3) := by decide +kernel
theorem dX10_type_19 : decode cX10_type 19 = .ok (.bipush (-3), 2) := by decide +kernel
theorem dX10_type_21 : decode cX10_type 21 = .ok (.ireturn, 1) := by decide +kernel
theorem dX10_type_22 : decode cX10_type 22 = .ok (.aload_n 0, 1) := by decide +kernel
theorem dX10_type_23 : decode cX10_type 23 = .ok (.getfield 21, 3) := by decide +kernel
theorem dX10_type_26 : decode cX10_type 26 = .ok (.aload_n 0, 1) := by decide +kernel
theorem dX10_type_27 : decode cX10_type 27 = .ok (.getfield 80, 3) := by decide +kernel
theorem dX10_type_30 : decode cX10_type 30 = .ok (.iload_n 1, 1) := by decide +kernel
theorem dX10_type_31 : decode cX10_type 31 = .ok (.iastore, 1) := by decide +kernel
theorem dX10_type_32 : decode cX10_type 32 = .ok (.aload_n 0, 1) := by decide +kernel
theorem dX10_type_33 : decode cX10_type 33 = .ok (.dup, 1) := by decide +kernel
theorem dX10_type_34 : decode cX10_type 34 = .ok (.getfield 80, 3) := by decide +kernel
theorem dX10_type_37 : decode cX10_type 37 = .ok (.iconst 1, 1) := by decide +kernel
theorem dX10_type_38 : decode cX10_type 38 = .ok (.iadd, 1) := by decide +kernel
theorem dX10_type_39 : decode cX10_type 39 = .ok (.putfield 80, 3) := by decide +kernel
theorem dX10_type_42 : decode cX10_type 42 = .ok (.aload_n 0, 1) := by decide +kernel
theorem dX10_type_43 : decode cX10_type 43 = .ok (.getfield 80, 3) := by decide +kernel
theorem dX10_type_46 : decode cX10_type 46 = .ok (.ireturn, 1) := by decide +kernel
theorem dX10_tapeLength_0 : decode cX10_tapeLength 0 = .ok (.aload_n 0, 1) := by decide +kernel
theorem dX10_tapeLength_1 : decode cX10_tapeLength 1 = .ok (.getfield 80, 3) := by decide +kernel
theorem dX10_tapeLength_4 : decode cX10_tapeLength 4 = .ok (.ireturn, 1) := by decide +kernel
theorem dX10_tapeAt_0 : decode cX10_tapeAt 0 = .ok (.iload_n 1, 1) := by decide +kernel
theorem dX10_tapeAt_1 : decode cX10_tapeAt 1 = .ok (.ifCond .lt 11, 3) := by decide +kernel
theorem dX10_tapeAt_4 : decode cX10_tapeAt 4 = .ok (.iload_n 1, 1) := by decide +kernel
theorem dX10_tapeAt_5 : decode cX10_tapeAt 5 = .ok (.aload_n 0, 1) := by decide +kernel
theorem dX10_tapeAt_6 : decode cX10_tapeAt 6 = .ok (.getfield 80, 3) := by decide +kernel
theorem dX10_tapeAt_9 : decode cX10_tapeAt 9 = .ok (.if_icmp .lt 8, 3) := by decide +kernel
theorem dX10_tapeAt_12 : decode cX10_tapeAt 12 = .ok (.bipush (-5), 2) := by decide +kernel
theorem dX10_tapeAt_14 : decode cX10_tapeAt 14 = .ok (.goto 9, 3) := by decide +kernel
theorem dX10_tapeAt_17 : decode cX10_tapeAt 17 = .ok (.aload_n 0, 1) := by decide +kernel
theorem dX10_tapeAt_18 : decode cX10_tapeAt 18 = .ok (.getfield 21, 3) := by decide +kernel
theorem dX10_tapeAt_21 : decode cX10_tapeAt 21 = .ok (.iload_n 1, 1) := by decide +kernel
theorem dX10_tapeAt_22 : decode cX10_tapeAt 22 = .ok (.iaload, 1) := by decide +kernel
theorem dX10_tapeAt_23 : decode cX10_tapeAt 23 = .ok (.ireturn, 1) := by decide +kernel
theorem dX10_wipe_0 : decode cX10_wipe 0 = .ok (.aload_n 0, 1) := by decide +kernel
theorem dX10_wipe_1 : decode cX10_wipe 1 = .ok (.getfield 80, 3) := by decide +kernel
theorem dX10_wipe_4 : decode cX10_wipe 4 = .ok (.istore_n 1, 1) := by decide +kernel
theorem dX10_wipe_5 : decode cX10_wipe 5 = .ok (.aload_n 0, 1) := by decide +kernel
theorem dX10_wipe_6 : decode cX10_wipe 6 = .ok (.iconst 0, 1) := by decide +kernel
theorem dX10_wipe_7 : decode cX10_wipe 7 = .ok (.putfield 80, 3) := by decide +kernel
theorem dX10_wipe_10 : decode cX10_wipe 10 = .ok (.iload_n 1, 1) := by decide +kernel
theorem dX10_wipe_11 : decode cX10_wipe 11 = .ok (.ireturn, 1) := by decide +kernel
theorem dX10_isBlank_0 : decode cX10_isBlank 0 = .ok (.iload_n 0, 1) := by decide +kernel
theorem dX10_isBlank_1 : decode cX10_isBlank 1 = .ok (.bipush 32, 2) := by decide +kernel
theorem dX10_isBlank_3 : decode cX10_isBlank 3 = .ok (.if_icmp .eq 9, 3) := by decide +kernel
theorem dX10_isBlank_6 : decode cX10_isBlank 6 = .ok (.iload_n 0, 1) := by decide +kernel
theorem dX10_isBlank_7 : decode cX10_isBlank 7 = .ok (.bipush 9, 2) := by decide +kernel
theorem dX10_isBlank_9 : decode cX10_isBlank 9 = .ok (.if_icmp .ne 7, 3) := by decide +kernel
theorem dX10_isBlank_12 : decode cX10_isBlank 12 = .ok (.iconst 1, 1) := by decide +kernel
theorem dX10_isBlank_13 : decode cX10_isBlank 13 = .ok (.goto 4, 3) := by decide +kernel
theorem dX10_isBlank_16 : decode cX10_isBlank 16 = .ok (.iconst 0, 1) := by decide +kernel
theorem dX10_isBlank_17 : decode cX10_isBlank 17 = .ok (.ireturn, 1) := by decide +kernel
set_option maxRecDepth 20000 in
theorem ggX10_layLine_X10_isBlank : GoodIn wsX10_layLine wsX10_isBlank := goodIn_r _ [9] (by decide +kernel) (by decide +kernel)
set_option maxRecDepth 20000 in
theorem gX10_layLine_X10_isBlank : GoodIn wsX10_layLine (va_wsS RX10 92 yX10_isBlank wsX10_isBlank) := goodIn_app (goodIn_of _ (by decide +kernel)) ggX10_layLine_X10_isBlank
theorem dX10_layLine_0 : decode cX10_layLine 0 = .ok (.aload_n 0, 1) := by decide +kernel
theorem dX10_layLine_1 : decode cX10_layLine 1 = .ok (.iload_n 1, 1) := by decide +kernel
theorem dX10_layLine_2 : decode cX10_layLine 2 = .ok (.putfield 83, 3) := by decide +kernel
theorem dX10_layLine_5 : decode cX10_layLine 5 = .ok (.aload_n 0, 1) := by decide +kernel
theorem dX10_layLine_6 : decode cX10_layLine 6 = .ok (.getfield 83, 3) := by decide +kernel
theorem dX10_layLine_9 : decode cX10_layLine 9 = .ok (.aload_n 0, 1) := by decide +kernel
theorem dX10_layLine_10 : decode cX10_layLine 10 = .ok (.getfield 80, 3) := by decide +kernel
theorem dX10_layLine_13 : decode cX10_layLine 13 = .ok (.if_icmp .ge 44, 3) := by decide +kernel
theorem dX10_layLine_16 : decode cX10_layLine 16 = .ok (.aload_n 0, 1) := by decide +kernel
theorem dX10_layLine_17 : decode cX10_layLine 17 = .ok (.getfield 21, 3) := by decide +kernel
theorem dX10_layLine_20 : decode cX10_layLine 20 = .ok (.aload_n 0, 1) := by decide +kernel
theorem dX10_layLine_21 : decode cX10_layLine 21 = .ok (.getfield 83, 3) := by decide +kernel
theorem dX10_layLine_24 : decode cX10_layLine 24 = .ok (.iaload, 1) := by decide +kernel
theorem dX10_layLine_25 : decode cX10_layLine 25 = .ok (.bipush 10, 2) := by decide +kernel
theorem dX10_layLine_27 : decode cX10_layLine 27 = .ok (.if_icmp .eq 30, 3) := by decide +kernel
theorem dX10_layLine_30 : decode cX10_layLine 30 = .ok (.aload_n 0, 1) := by decide +kernel
theorem dX10_layLine_31 : decode cX10_layLine 31 = .ok (.getfield 21, 3) := by decide +kernel
theorem dX10_layLine_34 : decode cX10_layLine 34 = .ok (.aload_n 0, 1) := by decide +kernel
theorem dX10_layLine_35 : decode cX10_layLine 35 = .ok (.getfield 83, 3) := by decide +kernel
theorem dX10_layLine_38 : decode cX10_layLine 38 = .ok (.iaload, 1) := by decide +kernel
theorem dX10_layLine_39 : decode cX10_layLine 39 = .ok (.bipush 13, 2) := by decide +kernel
theorem dX10_layLine_41 : decode cX10_layLine 41 = .ok (.if_icmp .eq 16, 3) := by decide +kernel
theorem dX10_layLine_44 : decode cX10_layLine 44 = .ok (.aload_n 0, 1) := by decide +kernel
theorem dX10_layLine_45 : decode cX10_layLine 45 = .ok (.dup, 1) := by decide +kernel
theorem dX10_layLine_46 : decode cX10_layLine 46 = .ok (.getfield 83, 3) := by decide +kernel
theorem dX10_layLine_49 : decode cX10_layLine 49 = .ok (.iconst 1, 1) := by decide +kernel
theorem dX10_layLine_50 : decode cX10_layLine 50 = .ok (.iadd, 1) := by decide +kernel
theorem dX10_layLine_51 : decode cX10_layLine 51 = .ok (.putfield 83, 3) := by decide +kernel
theorem dX10_layLine_54 : decode cX10_layLine 54 = .ok (.goto (-49), 3) := by decide +kernel
theorem dX10_layLine_57 : decode cX10_layLine 57 = .ok (.aload_n 0, 1) := by decide +kernel
theorem dX10_layLine_58 : decode cX10_layLine 58 = .ok (.getfield 83, 3) := by decide +kernel
theorem dX10_layLine_61 : decode cX10_layLine 61 = .ok (.iconst 1, 1) := by decide +kernel
theorem dX10_layLine_62 : decode cX10_layLine 62 = .ok (.iadd, 1) := by decide +kernel
theorem dX10_layLine_63 : decode cX10_layLine 63 = .ok (.aload_n 0, 1) := by decide +kernel
theorem dX10_layLine_64 : decode cX10_layLine 64 = .ok (.getfield 80, 3) := by decide +kernel
theorem dX10_layLine_67 : decode cX10_layLine 67 = .ok (.if_icmp .ge 37, 3) := by decide +kernel
theorem dX10_layLine_70 : decode cX10_layLine 70 = .ok (.aload_n 0, 1) := by decide +kernel
theorem dX10_layLine_71 : decode cX10_layLine 71 = .ok (.getfield 21, 3) := by decide +kernel
theorem dX10_layLine_74 : decode cX10_layLine 74 = .ok (.aload_n 0, 1) := by decide +kernel
theorem dX10_layLine_75 : decode cX10_layLine 75 = .ok (.getfield 83, 3) := by decide +kernel
theorem dX10_layLine_78 : decode cX10_layLine 78 = .ok (.iaload, 1) := by decide +kernel
theorem dX10_layLine_79 : decode cX10_layLine 79 = .ok (.bipush 13, 2) := by decide +kernel
theorem dX10_layLine_81 : decode cX10_layLine 81 = .ok (.if_icmp .ne 23, 3) := by decide +kernel
theorem dX10_layLine_84 : decode cX10_layLine 84 = .ok (.aload_n 0, 1) := by decide +kernel
theorem dX10_layLine_85 : decode cX10_layLine 85 = .ok (.getfield 21, 3) := by decide +kernel
theorem dX10_layLine_88 : decode cX10_layLine 88 = .ok (.aload_n 0, 1) := by decide +kernel
theorem dX10_layLine_89 : decode cX10_layLine 89 = .ok (.getfield 83, 3) := by decide +kernel
theorem dX10_layLine_92 : decode cX10_layLine 92 = .ok (.iconst 1, 1) := by decide +kernel
theorem dX10_layLine_93 : decode cX10_layLine 93 = .ok (.iadd, 1) := by decide +kernel
theorem dX10_layLine_94 : decode cX10_layLine 94 = .ok (.iaload, 1) := by decide +kernel
theorem dX10_layLine_95 : decode cX10_layLine 95 = .ok (.bipush 10, 2) := by decide +kernel
theorem dX10_layLine_97 : decode cX10_layLine 97 = .ok (.if_icmp .ne 7, 3) := by decide +kernel
theorem dX10_layLine_100 : decode cX10_layLine 100 = .ok (.iconst 1, 1) := by decide +kernel
theorem dX10_layLine_101 : decode cX10_layLine 101 = .ok (.goto 4, 3) := by decide +kernel
theorem dX10_layLine_104 : decode cX10_layLine 104 = .ok (.iconst 0, 1) := by decide +kernel
theorem dX10_layLine_105 : decode cX10_layLine 105 = .ok (.istore_n 2, 1) := by decide +kernel
theorem dX10_layLine_106 : decode cX10_layLine 106 = .ok (.aload_n 0, 1) := by decide +kernel
theorem dX10_layLine_107 : decode cX10_layLine 107 = .ok (.aload_n 0, 1) := by decide +kernel
theorem dX10_layLine_108 : decode cX10_layLine 108 = .ok (.getfield 83, 3) := by decide +kernel
theorem dX10_layLine_111 : decode cX10_layLine 111 = .ok (.aload_n 0, 1) := by decide +kernel
theorem dX10_layLine_112 : decode cX10_layLine 112 = .ok (.getfield 80, 3) := by decide +kernel
theorem dX10_layLine_115 : decode cX10_layLine 115 = .ok (.if_icmp .ne 8, 3) := by decide +kernel
theorem dX10_layLine_118 : decode cX10_layLine 118 = .ok (.bipush (-5), 2) := by decide +kernel
theorem dX10_layLine_120 : decode cX10_layLine 120 = .ok (.goto 17, 3) := by decide +kernel
theorem dX10_layLine_123 : decode cX10_layLine 123 = .ok (.aload_n 0, 1) := by decide +kernel
theorem dX10_layLine_124 : decode cX10_layLine 124 = .ok (.getfield 83, 3) := by decide +kernel
theorem dX10_layLine_127 : decode cX10_layLine 127 = .ok (.iload_n 2, 1) := by decide +kernel
theorem dX10_layLine_128 : decode cX10_layLine 128 = .ok (.ifCond .eq 7, 3) := by decide +kernel
theorem dX10_layLine_131 : decode cX10_layLine 131 = .ok (.iconst 2, 1) := by decide +kernel
theorem dX10_layLine_132 : decode cX10_layLine 132 = .ok (.goto 4, 3) := by decide +kernel
theorem dX10_layLine_135 : decode cX10_layLine 135 = .ok (.iconst 1, 1) := by decide +kernel
theorem dX10_layLine_136 : decode cX10_layLine 136 = .ok (.iadd, 1) := by decide +kernel
theorem dX10_layLine_137 : decode cX10_layLine 137 = .ok (.putfield 86, 3) := by decide +kernel
theorem dX10_layLine_140 : decode cX10_layLine 140 = .ok (.aload_n 0, 1) := by decide +kernel
theorem dX10_layLine_141 : decode cX10_layLine 141 = .ok (.iload_n 1, 1) := by decide +kernel
theorem dX10_layLine_142 : decode cX10_layLine 142 = .ok (.putfield 89, 3) := by decide +kernel
theorem dX10_layLine_145 : decode cX10_layLine 145 = .ok (.aload_n 0, 1) := by decide +kernel
theorem dX10_layLine_146 : decode cX10_layLine 146 = .ok (.getfield 89, 3) := by decide +kernel
theorem dX10_layLine_149 : decode cX10_layLine 149 = .ok (.aload_n 0, 1) := by decide +kernel
theorem dX10_layLine_150 : decode cX10_layLine 150 = .ok (.getfield 83, 3) := by decide +kernel
theorem dX10_layLine_153 : decode cX10_layLine 153 = .ok (.if_icmp .ge 31, 3) := by decide +kernel
theorem dX10_layLine_156 : decode cX10_layLine 156 = .ok (.aload_n 0, 1) := by decide +kernel
theorem dX10_layLine_157 : decode cX10_layLine 157 = .ok (.getfield 21, 3) := by decide +kernel
theorem dX10_layLine_160 : decode cX10_layLine 160 = .ok (.aload_n 0, 1) := by decide +kernel
theorem dX10_layLine_161 : decode cX10_layLine 161 = .ok (.getfield 89, 3) := by decide +kernel
theorem dX10_layLine_164 : decode cX10_layLine 164 = .ok (.iaload, 1) := by decide +kernel
theorem dX10_layLine_165 : decode cX10_layLine 165 = .ok (.invokestatic 92, 3) := by decide +kernel
theorem dX10_layLine_168 : decode cX10_layLine 168 = .ok (.ifCond .eq 16, 3) := by decide +kernel
theorem dX10_layLine_171 : decode cX10_layLine 171 = .ok (.aload_n 0, 1) := by decide +kernel
theorem dX10_layLine_172 : decode cX10_layLine 172 = .ok (.dup, 1) := by decide +kernel
theorem dX10_layLine_173 : decode cX10_layLine 173 = .ok (.getfield 89, 3) := by decide +kernel
theorem dX10_layLine_176 : decode cX10_layLine 176 = .ok (.iconst 1, 1) := by decide +kernel
theorem dX10_layLine_177 : decode cX10_layLine 177 = .ok (.iadd, 1) := by decide +kernel
theorem dX10_layLine_178 : decode cX10_layLine 178 = .ok (.putfield 89, 3) := by decide +kernel
theorem dX10_layLine_181 : decode cX10_layLine 181 = .ok (.goto (-36), 3) := by decide +kernel
theorem dX10_layLine_184 : decode cX10_layLine 184 = .ok (.return_, 1) := by decide +kernel
theorem dX10_addLine_0 : decode cX10_addLine 0 = .ok (.iconst 0, 1) := by decide +kernel
theorem dX10_addLine_1 : decode cX10_addLine 1 = .ok (.istore_n 1, 1) := by decide +kernel
theorem dX10_addLine_2 : decode cX10_addLine 2 = .ok (.aload_n 0, 1) := by decide +kernel
theorem dX10_addLine_3 : decode cX10_addLine 3 = .ok (.getfield 83, 3) := by decide +kernel
theorem dX10_addLine_6 : decode cX10_addLine 6 = .ok (.iload_n 1, 1) := by decide +kernel
theorem dX10_addLine_7 : decode cX10_addLine 7 = .ok (.isub, 1) := by decide +kernel
theorem dX10_addLine_8 : decode cX10_addLine 8 = .ok (.aload_n 0, 1) := by decide +kernel
theorem dX10_addLine_9 : decode cX10_addLine 9 = .ok (.getfield 89, 3) := by decide +kernel
theorem dX10_addLine_12 : decode cX10_addLine 12 = .ok (.if_icmp .le 27, 3) := by decide +kernel
theorem dX10_addLine_15 : decode cX10_addLine 15 = .ok (.aload_n 0, 1) := by decide +kernel
theorem dX10_addLine_16 : decode cX10_addLine 16 = .ok (.getfield 21, 3) := by decide +kernel
theorem dX10_addLine_19 : decode cX10_addLine 19 = .ok (.aload_n 0, 1) := by decide +kernel
theorem dX10_addLine_20 : decode cX10_addLine 20 = .ok (.getfield 83, 3) := by decide +kernel
theorem dX10_addLine_23 : decode cX10_addLine 23 = .ok (.iload_n 1, 1) := by decide +kernel
theorem dX10_addLine_24 : decode cX10_addLine 24 = .ok (.isub, 1) := by decide +kernel
theorem dX10_addLine_25 : decode cX10_addLine 25 = .ok (.iconst 1, 1) := by decide +kernel
theorem dX10_addLine_26 : decode cX10_addLine 26 = .ok (.isub, 1) := by decide +kernel
theorem dX10_addLine_27 : decode cX10_addLine 27 = .ok (.iaload, 1) := by decide +kernel
theorem dX10_addLine_28 : decode cX10_addLine 28 = .ok (.bipush 92, 2) := by decide +kernel
theorem dX10_addLine_30 : decode cX10_addLine 30 = .ok (.if_icmp .ne 9, 3) := by decide +kernel
theorem dX10_addLine_33 : decode cX10_addLine 33 = .ok (.iinc 1 1, 3) := by decide +kernel
theorem dX10_addLine_36 : decode cX10_addLine 36 = .ok (.goto (-34), 3) := by decide +kernel
theorem dX10_addLine_39 : decode cX10_addLine 39 = .ok (.iload_n 1, 1) := by decide +kernel
theorem dX10_addLine_40 : decode cX10_addLine 40 = .ok (.iconst 2, 1) := by decide +kernel
theorem dX10_addLine_41 : decode cX10_addLine 41 = .ok (.irem, 1) := by decide +kernel
theorem dX10_addLine_42 : decode cX10_addLine 42 = .ok (.iconst 1, 1) := by decide +kernel
theorem dX10_addLine_43 : decode cX10_addLine 43 = .ok (.if_icmp .ne 7, 3) := by decide +kernel
theorem dX10_addLine_46 : decode cX10_addLine 46 = .ok (.iconst 1, 1) := by decide +kernel
theorem dX10_addLine_47 : decode cX10_addLine 47 = .ok (.goto 4, 3) := by decide +kernel
theorem dX10_addLine_50 : decode cX10_addLine 50 = .ok (.iconst 0, 1) := by decide +kernel
theorem dX10_addLine_51 : decode cX10_addLine 51 = .ok (.istore_n 2, 1) := by decide +kernel
theorem dX10_addLine_52 : decode cX10_addLine 52 = .ok (.aload_n 0, 1) := by decide +kernel
theorem dX10_addLine_53 : decode cX10_addLine 53 = .ok (.getfield 89, 3) := by decide +kernel
theorem dX10_addLine_56 : decode cX10_addLine 56 = .ok (.istore_n 3, 1) := by decide +kernel
theorem dX10_addLine_57 : decode cX10_addLine 57 = .ok (.iload_n 3, 1) := by decide +kernel
theorem dX10_addLine_58 : decode cX10_addLine 58 = .ok (.iload_n 2, 1) := by decide +kernel
theorem dX10_addLine_59 : decode cX10_addLine 59 = .ok (.ifCond .eq 12, 3) := by decide +kernel
theorem dX10_addLine_62 : decode cX10_addLine 62 = .ok (.aload_n 0, 1) := by decide +kernel
theorem dX10_addLine_63 : decode cX10_addLine 63 = .ok (.getfield 83, 3) := by decide +kernel
theorem dX10_addLine_66 : decode cX10_addLine 66 = .ok (.iconst 1, 1) := by decide +kernel
theorem dX10_addLine_67 : decode cX10_addLine 67 = .ok (.isub, 1) := by decide +kernel
theorem dX10_addLine_68 : decode cX10_addLine 68 = .ok (.goto 7, 3) := by decide +kernel
theorem dX10_addLine_71 : decode cX10_addLine 71 = .ok (.aload_n 0, 1) := by decide +kernel
theorem dX10_addLine_72 : decode cX10_addLine 72 = .ok (.getfield 83, 3) := by decide +kernel
theorem dX10_addLine_75 : decode cX10_addLine 75 = .ok (.if_icmp .ge 44, 3) := by decide +kernel
theorem dX10_addLine_78 : decode cX10_addLine 78 = .ok (.aload_n 0, 1) := by decide +kernel
theorem dX10_addLine_79 : decode cX10_addLine 79 = .ok (.getfield 42, 3) := by decide +kernel
theorem dX10_addLine_82 : decode cX10_addLine 82 = .ok (.aload_n 0, 1) := by decide +kernel
theorem dX10_addLine_83 : decode cX10_addLine 83 = .ok (.getfield 95, 3) := by decide +kernel
theorem dX10_addLine_86 : decode cX10_addLine 86 = .ok (.aload_n 0, 1) := by decide +kernel
theorem dX10_addLine_87 : decode cX10_addLine 87 = .ok (.getfield 21, 3) := by decide +kernel
theorem dX10_addLine_90 : decode cX10_addLine 90 = .ok (.iload_n 3, 1) := by decide +kernel
theorem dX10_addLine_91 : decode cX10_addLine 91 = .ok (.iaload, 1) := by decide +kernel
theorem dX10_addLine_92 : decode cX10_addLine 92 = .ok (.iastore, 1) := by decide +kernel
theorem dX10_addLine_93 : decode cX10_addLine 93 = .ok (.aload_n 0, 1) := by decide +kernel
theorem dX10_addLine_94 : decode cX10_addLine 94 = .ok (.getfield 45, 3) := by decide +kernel
theorem dX10_addLine_97 : decode cX10_addLine 97 = .ok (.aload_n 0, 1) := by decide +kernel
theorem dX10_addLine_98 : decode cX10_addLine 98 = .ok (.getfield 95, 3) := by decide +kernel
theorem dX10_addLine_101 : decode cX10_addLine 101 = .ok (.iload_n 3, 1) := by decide +kernel
theorem dX10_addLine_102 : decode cX10_addLine 102 = .ok (.iastore, 1) := by decide +kernel
theorem dX10_addLine_103 : decode cX10_addLine 103 = .ok (.aload_n 0, 1) := by decide +kernel
theorem dX10_addLine_104 : decode cX10_addLine 104 = .ok (.dup, 1) := by decide +kernel
theorem dX10_addLine_105 : decode cX10_addLine 105 = .ok (.getfield 95, 3) := by decide +kernel
theorem dX10_addLine_108 : decode cX10_addLine 108 = .ok (.iconst 1, 1) := by decide +kernel
theorem dX10_addLine_109 : decode cX10_addLine 109 = .ok (.iadd, 1) := by decide +kernel
theorem dX10_addLine_110 : decode cX10_addLine 110 = .ok (.putfield 95, 3) := by decide +kernel
theorem dX10_addLine_113 : decode cX10_addLine 113 = .ok (.iinc 3 1, 3) := by decide +kernel
theorem dX10_addLine_116 : decode cX10_addLine 116 = .ok (.goto (-59), 3) := by decide +kernel
theorem dX10_addLine_119 : decode cX10_addLine 119 = .ok (.iload_n 2, 1) := by decide +kernel
theorem dX10_addLine_120 : decode cX10_addLine 120 = .ok (.ireturn, 1) := by decide +kernel
set_option maxRecDepth 20000 in
theorem ggX10_layEntry_X10_layLine : GoodIn wsX10_layEntry wsX10_layLine := goodIn_r _ [10, 3, 11, 4, 5, 2, 12, 13, 9, 14, 21, 22, 23, 24, 25, 26, 27, 28, 29, 30, 31, 32, 33, 34, 35, 36, 37, 38, 39, 40, 41] (by decide +kernel) (by decide +kernel)
set_option maxRecDepth 20000 in
theorem gX10_layEntry_X10_layLine : GoodIn wsX10_layEntry (wsV RX10 98 RX10 yX10_layLine wsX10_layLine) := goodIn_app (goodIn_of _ (by decide +kernel)) ggX10_layEntry_X10_layLine
set_option maxRecDepth 20000 in
theorem ggX10_layEntry_X10_addLine : GoodIn wsX10_layEntry wsX10_addLine := goodIn_r _ [18, 3, 2, 4, 19, 1, 20, 21, 22, 23, 24, 25, 26, 27, 28, 29, 30, 31, 32, 33, 34, 35, 36, 37, 38, 39, 40, 41] (by decide +kernel) (by decide +kernel)
set_option maxRecDepth 20000 in
theorem gX10_layEntry_X10_addLine : GoodIn wsX10_layEntry (wsV RX10 102 RX10 yX10_addLine wsX10_addLine) := goodIn_app (goodIn_of _ (by decide +kernel)) ggX10_layEntry_X10_addLine
theorem dX10_layEntry_0 : decode cX10_layEntry 0 = .ok (.aload_n 0, 1) := by decide +kernel
theorem dX10_layEntry_1 : decode cX10_layEntry 1 = .ok (.iconst 0, 1) := by decide +kernel
theorem dX10_layEntry_2 : decode cX10_layEntry 2 = .ok (.putfield 95, 3) := by decide +kernel
theorem dX10_layEntry_5 : decode cX10_layEntry 5 = .ok (.aload_n 0, 1) := by decide +kernel
theorem dX10_layEntry_6 : decode cX10_layEntry 6 = .ok (.iload_n 1, 1) := by decide +kernel
theorem dX10_layEntry_7 : decode cX10_layEntry 7 = .ok (.invokevirtual 98, 3) := by decide +kernel
theorem dX10_layEntry_10 : decode cX10_layEntry 10 = .ok (.aload_n 0, 1) := by decide +kernel
theorem dX10_layEntry_11 : decode cX10_layEntry 11 = .ok (.getfield 89, 3) := by decide +kernel
theorem dX10_layEntry_14 : decode cX10_layEntry 14 = .ok (.aload_n 0, 1) := by decide +kernel
theorem dX10_layEntry_15 : decode cX10_layEntry 15 = .ok (.getfield 83, 3) := by decide +kernel
theorem dX10_layEntry_18 : decode cX10_layEntry 18 = .ok (.if_icmp .eq 31, 3) := by decide +kernel
theorem dX10_layEntry_21 : decode cX10_layEntry 21 = .ok (.aload_n 0, 1) := by decide +kernel
theorem dX10_layEntry_22 : decode cX10_layEntry 22 = .ok (.getfield 21, 3) := by decide +kernel
theorem dX10_layEntry_25 : decode cX10_layEntry 25 = .ok (.aload_n 0, 1) := by decide +kernel
theorem dX10_layEntry_26 : decode cX10_layEntry 26 = .ok (.getfield 89, 3) := by decide +kernel
theorem dX10_layEntry_29 : decode cX10_layEntry 29 = .ok (.iaload, 1) := by decide +kernel
theorem dX10_layEntry_30 : decode cX10_layEntry 30 = .ok (.bipush 35, 2) := by decide +kernel
theorem dX10_layEntry_32 : decode cX10_layEntry 32 = .ok (.if_icmp .eq 17, 3) := by decide +kernel
theorem dX10_layEntry_35 : decode cX10_layEntry 35 = .ok (.aload_n 0, 1) := by decide +kernel
theorem dX10_layEntry_36 : decode cX10_layEntry 36 = .ok (.getfield 21, 3) := by decide +kernel
theorem dX10_layEntry_39 : decode cX10_layEntry 39 = .ok (.aload_n 0, 1) := by decide +kernel
theorem dX10_layEntry_40 : decode cX10_layEntry 40 = .ok (.getfield 89, 3) := by decide +kernel
theorem dX10_layEntry_43 : decode cX10_layEntry 43 = .ok (.iaload, 1) := by decide +kernel
theorem dX10_layEntry_44 : decode cX10_layEntry 44 = .ok (.bipush 33, 2) := by decide +kernel
theorem dX10_layEntry_46 : decode cX10_layEntry 46 = .ok (.if_icmp .ne 7, 3) := by decide +kernel
theorem dX10_layEntry_49 : decode cX10_layEntry 49 = .ok (.iconst 1, 1) := by decide +kernel
theorem dX10_layEntry_50 : decode cX10_layEntry 50 = .ok (.goto 4, 3) := by decide +kernel
theorem dX10_layEntry_53 : decode cX10_layEntry 53 = .ok (.iconst 0, 1) := by decide +kernel
theorem dX10_layEntry_54 : decode cX10_layEntry 54 = .ok (.istore_n 2, 1) := by decide +kernel
theorem dX10_layEntry_55 : decode cX10_layEntry 55 = .ok (.iload_n 2, 1) := by decide +kernel
theorem dX10_layEntry_56 : decode cX10_layEntry 56 = .ok (.ifCond .ne 14, 3) := by decide +kernel
theorem dX10_layEntry_59 : decode cX10_layEntry 59 = .ok (.aload_n 0, 1) := by decide +kernel
theorem dX10_layEntry_60 : decode cX10_layEntry 60 = .ok (.invokevirtual 102, 3) := by decide +kernel
theorem dX10_layEntry_63 : decode cX10_layEntry 63 = .ok (.ifCond .eq 7, 3) := by decide +kernel
theorem dX10_layEntry_66 : decode cX10_layEntry 66 = .ok (.iconst 1, 1) := by decide +kernel
theorem dX10_layEntry_67 : decode cX10_layEntry 67 = .ok (.goto 4, 3) := by decide +kernel
theorem dX10_layEntry_70 : decode cX10_layEntry 70 = .ok (.iconst 0, 1) := by decide +kernel
theorem dX10_layEntry_71 : decode cX10_layEntry 71 = .ok (.istore_n 3, 1) := by decide +kernel
theorem dX10_layEntry_72 : decode cX10_layEntry 72 = .ok (.iload_n 3, 1) := by decide +kernel
theorem dX10_layEntry_73 : decode cX10_layEntry 73 = .ok (.ifCond .eq 28, 3) := by decide +kernel
theorem dX10_layEntry_76 : decode cX10_layEntry 76 = .ok (.aload_n 0, 1) := by decide +kernel
theorem dX10_layEntry_77 : decode cX10_layEntry 77 = .ok (.getfield 86, 3) := by decide +kernel
theorem dX10_layEntry_80 : decode cX10_layEntry 80 = .ok (.bipush (-5), 2) := by decide +kernel
theorem dX10_layEntry_82 : decode cX10_layEntry 82 = .ok (.if_icmp .eq 19, 3) := by decide +kernel
theorem dX10_layEntry_85 : decode cX10_layEntry 85 = .ok (.aload_n 0, 1) := by decide +kernel
theorem dX10_layEntry_86 : decode cX10_layEntry 86 = .ok (.aload_n 0, 1) := by decide +kernel
theorem dX10_layEntry_87 : decode cX10_layEntry 87 = .ok (.getfield 86, 3) := by decide +kernel
theorem dX10_layEntry_90 : decode cX10_layEntry 90 = .ok (.invokevirtual 98, 3) := by decide +kernel
theorem dX10_layEntry_93 : decode cX10_layEntry 93 = .ok (.aload_n 0, 1) := by decide +kernel
theorem dX10_layEntry_94 : decode cX10_layEntry 94 = .ok (.invokevirtual 102, 3) := by decide +kernel
theorem dX10_layEntry_97 : decode cX10_layEntry 97 = .ok (.istore_n 3, 1) := by decide +kernel
theorem dX10_layEntry_98 : decode cX10_layEntry 98 = .ok (.goto (-26), 3) := by decide +kernel
theorem dX10_layEntry_101 : decode cX10_layEntry 101 = .ok (.aload_n 0, 1) := by decide +kernel
theorem dX10_layEntry_102 : decode cX10_layEntry 102 = .ok (.getfield 86, 3) := by decide +kernel
theorem dX10_layEntry_105 : decode cX10_layEntry 105 = .ok (.ireturn, 1) := by decide +kernel
set_option maxRecDepth 20000 in
theorem ggX10_keyEnd_X10_isBlank : GoodIn wsX10_keyEnd wsX10_isBlank := goodIn_r _ [6] (by decide +kernel) (by decide +kernel)
set_option maxRecDepth 20000 in
theorem gX10_keyEnd_X10_isBlank : GoodIn wsX10_keyEnd (va_wsS RX10 92 yX10_isBlank wsX10_isBlank) := goodIn_app (goodIn_of _ (by decide +kernel)) ggX10_keyEnd_X10_isBlank
theorem dX10_keyEnd_0 : decode cX10_keyEnd 0 = .ok (.iconst 0, 1) := by decide +kernel
theorem dX10_keyEnd_1 : decode cX10_keyEnd 1 = .ok (.istore_n 1, 1) := by decide +kernel
theorem dX10_keyEnd_2 : decode cX10_keyEnd 2 = .ok (.iload_n 1, 1) := by decide +kernel
theorem dX10_keyEnd_3 : decode cX10_keyEnd 3 = .ok (.aload_n 0, 1) := by decide +kernel
theorem dX10_keyEnd_4 : decode cX10_keyEnd 4 = .ok (.getfield 95, 3) := by decide +kernel
theorem dX10_keyEnd_7 : decode cX10_keyEnd 7 = .ok (.if_icmp .ge 59, 3) := by decide +kernel
theorem dX10_keyEnd_10 : decode cX10_keyEnd 10 = .ok (.aload_n 0, 1) := by decide +kernel
theorem dX10_keyEnd_11 : decode cX10_keyEnd 11 = .ok (.getfield 42, 3) := by decide +kernel
theorem dX10_keyEnd_14 : decode cX10_keyEnd 14 = .ok (.iload_n 1, 1) := by decide +kernel
theorem dX10_keyEnd_15 : decode cX10_keyEnd 15 = .ok (.iaload, 1) := by decide +kernel
theorem dX10_keyEnd_16 : decode cX10_keyEnd 16 = .ok (.bipush 61, 2) := by decide +kernel
theorem dX10_keyEnd_18 : decode cX10_keyEnd 18 = .ok (.if_icmp .eq 48, 3) := by decide +kernel
theorem dX10_keyEnd_21 : decode cX10_keyEnd 21 = .ok (.aload_n 0, 1) := by decide +kernel
theorem dX10_keyEnd_22 : decode cX10_keyEnd 22 = .ok (.getfield 42, 3) := by decide +kernel
theorem dX10_keyEnd_25 : decode cX10_keyEnd 25 = .ok (.iload_n 1, 1) := by decide +kernel
theorem dX10_keyEnd_26 : decode cX10_keyEnd 26 = .ok (.iaload, 1) := by decide +kernel
theorem dX10_keyEnd_27 : decode cX10_keyEnd 27 = .ok (.bipush 58, 2) := by decide +kernel
theorem dX10_keyEnd_29 : decode cX10_keyEnd 29 = .ok (.if_icmp .eq 37, 3) := by decide +kernel
theorem dX10_keyEnd_32 : decode cX10_keyEnd 32 = .ok (.aload_n 0, 1) := by decide +kernel
theorem dX10_keyEnd_33 : decode cX10_keyEnd 33 = .ok (.getfield 42, 3) := by decide +kernel
theorem dX10_keyEnd_36 : decode cX10_keyEnd 36 = .ok (.iload_n 1, 1) := by decide +kernel
theorem dX10_keyEnd_37 : decode cX10_keyEnd 37 = .ok (.iaload, 1) := by decide +kernel
theorem dX10_keyEnd_38 : decode cX10_keyEnd 38 = .ok (.invokestatic 92, 3) := by decide +kernel
theorem dX10_keyEnd_41 : decode cX10_keyEnd 41 = .ok (.ifCond .ne 25, 3) := by decide +kernel
theorem dX10_keyEnd_44 : decode cX10_keyEnd 44 = .ok (.iload_n 1, 1) := by decide +kernel
theorem dX10_keyEnd_45 : decode cX10_keyEnd 45 = .ok (.aload_n 0, 1) := by decide +kernel
theorem dX10_keyEnd_46 : decode cX10_keyEnd 46 = .ok (.getfield 42, 3) := by decide +kernel
theorem dX10_keyEnd_49 : decode cX10_keyEnd 49 = .ok (.iload_n 1, 1) := by decide +kernel
theorem dX10_keyEnd_50 : decode cX10_keyEnd 50 = .ok (.iaload, 1) := by decide +kernel
theorem dX10_keyEnd_51 : decode cX10_keyEnd 51 = .ok (.bipush 92, 2) := by decide +kernel
theorem dX10_keyEnd_53 : decode cX10_keyEnd 53 = .ok (.if_icmp .ne 7, 3) := by decide +kernel
theorem dX10_keyEnd_56 : decode cX10_keyEnd 56 = .ok (.iconst 2, 1) := by decide +kernel
theorem dX10_keyEnd_57 : decode cX10_keyEnd 57 = .ok (.goto 4, 3) := by decide +kernel
theorem dX10_keyEnd_60 : decode cX10_keyEnd 60 = .ok (.iconst 1, 1) := by decide +kernel
theorem dX10_keyEnd_61 : decode cX10_keyEnd 61 = .ok (.iadd, 1) := by decide +kernel
theorem dX10_keyEnd_62 : decode cX10_keyEnd 62 = .ok (.istore_n 1, 1) := by decide +kernel
theorem dX10_keyEnd_63 : decode cX10_keyEnd 63 = .ok (.goto (-61), 3) := by decide +kernel
theorem dX10_keyEnd_66 : decode cX10_keyEnd 66 = .ok (.iload_n 1, 1) := by decide +kernel
theorem dX10_keyEnd_67 : decode cX10_keyEnd 67 = .ok (.ireturn, 1) := by decide +kernel
set_option maxRecDepth 20000 in
theorem ggX10_overBlanks_X10_isBlank : GoodIn wsX10_overBlanks wsX10_isBlank := goodIn_r _ [6] (by decide +kernel) (by decide +kernel)
set_option maxRecDepth 20000 in
theorem gX10_overBlanks_X10_isBlank : GoodIn wsX10_overBlanks (va_wsS RX10 92 yX10_isBlank wsX10_isBlank) := goodIn_app (goodIn_of _ (by decide +kernel)) ggX10_overBlanks_X10_isBlank
theorem dX10_overBlanks_0 : decode cX10_overBlanks 0 = .ok (.iload_n 1, 1) := by decide +kernel
theorem dX10_overBlanks_1 : decode cX10_overBlanks 1 = .ok (.istore_n 2, 1) := by decide +kernel
theorem dX10_overBlanks_2 : decode cX10_overBlanks 2 = .ok (.iload_n 2, 1) := by decide +kernel
theorem dX10_overBlanks_3 : decode cX10_overBlanks 3 = .ok (.aload_n 0, 1) := by decide +kernel
theorem dX10_overBlanks_4 : decode cX10_overBlanks 4 = .ok (.getfield 95, 3) := by decide +kernel
theorem dX10_overBlanks_7 : decode cX10_overBlanks 7 = .ok (.if_icmp .ge 21, 3) := by decide +kernel
theorem dX10_overBlanks_10 : decode cX10_overBlanks 10 = .ok (.aload_n 0, 1) := by decide +kernel
theorem dX10_overBlanks_11 : decode cX10_overBlanks 11 = .ok (.getfield 42, 3) := by decide +kernel
theorem dX10_overBlanks_14 : decode cX10_overBlanks 14 = .ok (.iload_n 2, 1) := by decide +kernel
theorem dX10_overBlanks_15 : decode cX10_overBlanks 15 = .ok (.iaload, 1) := by decide +kernel
theorem dX10_overBlanks_16 : decode cX10_overBlanks 16 = .ok (.invokestatic 92, 3) := by decide +kernel
theorem dX10_overBlanks_19 : decode cX10_overBlanks 19 = .ok (.ifCond .eq 9, 3) := by decide +kernel
theorem dX10_overBlanks_22 : decode cX10_overBlanks 22 = .ok (.iinc 2 1, 3) := by decide +kernel
theorem dX10_overBlanks_25 : decode cX10_overBlanks 25 = .ok (.goto (-23), 3) := by decide +kernel
theorem dX10_overBlanks_28 : decode cX10_overBlanks 28 = .ok (.iload_n 2, 1) := by decide +kernel
theorem dX10_overBlanks_29 : decode cX10_overBlanks 29 = .ok (.ireturn, 1) := by decide +kernel
set_option maxRecDepth 20000 in
theorem ggX10_valueBegin_X10_overBlanks : GoodIn wsX10_valueBegin wsX10_overBlanks := goodIn_r _ [7, 1, 2, 8, 9, 6, 10, 11, 12, 13, 14, 15, 16, 17, 18, 19, 20, 21, 22, 23, 24, 25, 26, 27, 28, 29, 30, 31] (by decide +kernel) (by decide +kernel)
set_option maxRecDepth 20000 in
theorem gX10_valueBegin_X10_overBlanks : GoodIn wsX10_valueBegin (wsV RX10 106 RX10 yX10_overBlanks wsX10_overBlanks) := goodIn_app (goodIn_of _ (by decide +kernel)) ggX10_valueBegin_X10_overBlanks
theorem dX10_valueBegin_0 : decode cX10_valueBegin 0 = .ok (.aload_n 0, 1) := by decide +kernel
theorem dX10_valueBegin_1 : decode cX10_valueBegin 1 = .ok (.iload_n 1, 1) := by decide +kernel
theorem dX10_valueBegin_2 : decode cX10_valueBegin 2 = .ok (.invokevirtual 106, 3) := by decide +kernel
theorem dX10_valueBegin_5 : decode cX10_valueBegin 5 = .ok (.istore_n 2, 1) := by decide +kernel
theorem dX10_valueBegin_6 : decode cX10_valueBegin 6 = .ok (.iload_n 2, 1) := by decide +kernel
theorem dX10_valueBegin_7 : decode cX10_valueBegin 7 = .ok (.aload_n 0, 1) := by decide +kernel
theorem dX10_valueBegin_8 : decode cX10_valueBegin 8 = .ok (.getfield 95, 3) := by decide +kernel
theorem dX10_valueBegin_11 : decode cX10_valueBegin 11 = .ok (.if_icmp .ge 29, 3) := by decide +kernel
theorem dX10_valueBegin_14 : decode cX10_valueBegin 14 = .ok (.aload_n 0, 1) := by decide +kernel
theorem dX10_valueBegin_15 : decode cX10_valueBegin 15 = .ok (.getfield 42, 3) := by decide +kernel
theorem dX10_valueBegin_18 : decode cX10_valueBegin 18 = .ok (.iload_n 2, 1) := by decide +kernel
theorem dX10_valueBegin_19 : decode cX10_valueBegin 19 = .ok (.iaload, 1) := by decide +kernel
theorem dX10_valueBegin_20 : decode cX10_valueBegin 20 = .ok (.bipush 61, 2) := by decide +kernel
theorem dX10_valueBegin_22 : decode cX10_valueBegin 22 = .ok (.if_icmp .eq 14, 3) := by decide +kernel
theorem dX10_valueBegin_25 : decode cX10_valueBegin 25 = .ok (.aload_n 0, 1) := by decide +kernel
theorem dX10_valueBegin_26 : decode cX10_valueBegin 26 = .ok (.getfield 42, 3) := by decide +kernel
theorem dX10_valueBegin_29 : decode cX10_valueBegin 29 = .ok (.iload_n 2, 1) := by decide +kernel
theorem dX10_valueBegin_30 : decode cX10_valueBegin 30 = .ok (.iaload, 1) := by decide +kernel
theorem dX10_valueBegin_31 : decode cX10_valueBegin 31 = .ok (.bipush 58, 2) := by decide +kernel
theorem dX10_valueBegin_33 : decode cX10_valueBegin 33 = .ok (.if_icmp .ne 7, 3) := by decide +kernel
theorem dX10_valueBegin_36 : decode cX10_valueBegin 36 = .ok (.iconst 1, 1) := by decide +kernel
theorem dX10_valueBegin_37 : decode cX10_valueBegin 37 = .ok (.goto 4, 3) := by decide +kernel
theorem dX10_valueBegin_40 : decode cX10_valueBegin 40 = .ok (.iconst 0, 1) := by decide +kernel
theorem dX10_valueBegin_41 : decode cX10_valueBegin 41 = .ok (.istore_n 3, 1) := by decide +kernel
theorem dX10_valueBegin_42 : decode cX10_valueBegin 42 = .ok (.iload_n 3, 1) := by decide +kernel
theorem dX10_valueBegin_43 : decode cX10_valueBegin 43 = .ok (.ifCond .eq 13, 3) := by decide +kernel
theorem dX10_valueBegin_46 : decode cX10_valueBegin 46 = .ok (.aload_n 0, 1) := by decide +kernel
theorem dX10_valueBegin_47 : decode cX10_valueBegin 47 = .ok (.iload_n 2, 1) := by decide +kernel
theorem dX10_valueBegin_48 : decode cX10_valueBegin 48 = .ok (.iconst 1, 1) := by decide +kernel
theorem dX10_valueBegin_49 : decode cX10_valueBegin 49 = .ok (.iadd, 1) := by decide +kernel
theorem dX10_valueBegin_50 : decode cX10_valueBegin 50 = .ok (.invokevirtual 106, 3) := by decide +kernel
theorem dX10_valueBegin_53 : decode cX10_valueBegin 53 = .ok (.goto 4, 3) := by decide +kernel
theorem dX10_valueBegin_56 : decode cX10_valueBegin 56 = .ok (.iload_n 2, 1) := by decide +kernel
theorem dX10_valueBegin_57 : decode cX10_valueBegin 57 = .ok (.ireturn, 1) := by decide +kernel
theorem dX10_hexOf_0 : decode cX10_hexOf 0 = .ok (.iload_n 0, 1) := by decide +kernel
theorem dX10_hexOf_1 : decode cX10_hexOf 1 = .ok (.bipush 48, 2) := by decide +kernel
theorem dX10_hexOf_3 : decode cX10_hexOf 3 = .ok (.if_icmp .lt 16, 3) := by decide +kernel
theorem dX10_hexOf_6 : decode cX10_hexOf 6 = .ok (.iload_n 0, 1) := by decide +kernel
theorem dX10_hexOf_7 : decode cX10_hexOf 7 = .ok (.bipush 57, 2) := by decide +kernel
theorem dX10_hexOf_9 : decode cX10_hexOf 9 = .ok (.if_icmp .gt 10, 3) := by decide +kernel
theorem dX10_hexOf_12 : decode cX10_hexOf 12 = .ok (.iload_n 0, 1) := by decide +kernel
theorem dX10_hexOf_13 : decode cX10_hexOf 13 = .ok (.bipush 48, 2) := by decide +kernel
theorem dX10_hexOf_15 : decode cX10_hexOf 15 = .ok (.isub, 1) := by decide +kernel
theorem dX10_hexOf_16 : decode cX10_hexOf 16 = .ok (.goto 49, 3) := by decide +kernel
theorem dX10_hexOf_19 : decode cX10_hexOf 19 = .ok (.iload_n 0, 1) := by decide +kernel
theorem dX10_hexOf_20 : decode cX10_hexOf 20 = .ok (.bipush 97, 2) := by decide +kernel
theorem dX10_hexOf_22 : decode cX10_hexOf 22 = .ok (.if_icmp .lt 19, 3) := by decide +kernel
theorem dX10_hexOf_25 : decode cX10_hexOf 25 = .ok (.iload_n 0, 1) := by decide +kernel
theorem dX10_hexOf_26 : decode cX10_hexOf 26 = .ok (.bipush 102, 2) := by decide +kernel
theorem dX10_hexOf_28 : decode cX10_hexOf 28 = .ok (.if_icmp .gt 13, 3) := by decide +kernel
theorem dX10_hexOf_31 : decode cX10_hexOf 31 = .ok (.iload_n 0, 1) := by decide +kernel
theorem dX10_hexOf_32 : decode cX10_hexOf 32 = .ok (.bipush 97, 2) := by decide +kernel
theorem dX10_hexOf_34 : decode cX10_hexOf 34 = .ok (.isub, 1) := by decide +kernel
theorem dX10_hexOf_35 : decode cX10_hexOf 35 = .ok (.bipush 10, 2) := by decide +kernel
theorem dX10_hexOf_37 : decode cX10_hexOf 37 = .ok (.iadd, 1) := by decide +kernel
theorem dX10_hexOf_38 : decode cX10_hexOf 38 = .ok (.goto 27, 3) := by decide +kernel
theorem dX10_hexOf_41 : decode cX10_hexOf 41 = .ok (.iload_n 0, 1) := by decide +kernel
theorem dX10_hexOf_42 : decode cX10_hexOf 42 = .ok (.bipush 65, 2) := by decide +kernel
theorem dX10_hexOf_44 : decode cX10_hexOf 44 = .ok (.if_icmp .lt 19, 3) := by decide +kernel
theorem dX10_hexOf_47 : decode cX10_hexOf 47 = .ok (.iload_n 0, 1) := by decide +kernel
theorem dX10_hexOf_48 : decode cX10_hexOf 48 = .ok (.bipush 70, 2) := by decide +kernel
theorem dX10_hexOf_50 : decode cX10_hexOf 50 = .ok (.if_icmp .gt 13, 3) := by decide +kernel
theorem dX10_hexOf_53 : decode cX10_hexOf 53 = .ok (.iload_n 0, 1) := by decide +kernel
theorem dX10_hexOf_54 : decode cX10_hexOf 54 = .ok (.bipush 65, 2) := by decide +kernel
theorem dX10_hexOf_56 : decode cX10_hexOf 56 = .ok (.isub, 1) := by decide +kernel
theorem dX10_hexOf_57 : decode cX10_hexOf 57 = .ok (.bipush 10, 2) := by decide +kernel
theorem dX10_hexOf_59 : decode cX10_hexOf 59 = .ok (.iadd, 1) := by decide +kernel
theorem dX10_hexOf_60 : decode cX10_hexOf 60 = .ok (.goto 5, 3) := by decide +kernel
theorem dX10_hexOf_63 : decode cX10_hexOf 63 = .ok (.bipush (-5), 2) := by decide +kernel
theorem dX10_hexOf_65 : decode cX10_hexOf 65 = .ok (.ireturn, 1) := by decide +kernel
set_option maxRecDepth 20000 in
theorem ggX10_numberAt_X10_hexOf : GoodIn wsX10_numberAt wsX10_hexOf := goodIn_r _ [5] (by decide +kernel) (by decide +kernel)
set_option maxRecDepth 20000 in
theorem gX10_numberAt_X10_hexOf : GoodIn wsX10_numberAt (va_wsS RX10 109 yX10_hexOf wsX10_hexOf) := goodIn_app (goodIn_of _ (by decide +kernel)) ggX10_numberAt_X10_hexOf
theorem dX10_numberAt_0 : decode cX10_numberAt 0 = .ok (.iload_n 1, 1) := by decide +kernel
theorem dX10_numberAt_1 : decode cX10_numberAt 1 = .ok (.iconst 4, 1) := by decide +kernel
theorem dX10_numberAt_2 : decode cX10_numberAt 2 = .ok (.iadd, 1) := by decide +kernel
theorem dX10_numberAt_3 : decode cX10_numberAt 3 = .ok (.iload_n 2, 1) := by decide +kernel
theorem dX10_numberAt_4 : decode cX10_numberAt 4 = .ok (.if_icmp .le 6, 3) := by decide +kernel
theorem dX10_numberAt_7 : decode cX10_numberAt 7 = .ok (.bipush (-5), 2) := by decide +kernel
theorem dX10_numberAt_9 : decode cX10_numberAt 9 = .ok (.ireturn, 1) := by decide +kernel
theorem dX10_numberAt_10 : decode cX10_numberAt 10 = .ok (.iconst 0, 1) := by decide +kernel
theorem dX10_numberAt_11 : decode cX10_numberAt 11 = .ok (.istore_n 3, 1) := by decide +kernel
theorem dX10_numberAt_12 : decode cX10_numberAt 12 = .ok (.iload_n 1, 1) := by decide +kernel
theorem dX10_numberAt_13 : decode cX10_numberAt 13 = .ok (.istore 4, 2) := by decide +kernel
theorem dX10_numberAt_15 : decode cX10_numberAt 15 = .ok (.iload 4, 2) := by decide +kernel
theorem dX10_numberAt_17 : decode cX10_numberAt 17 = .ok (.iload_n 1, 1) := by decide +kernel
theorem dX10_numberAt_18 : decode cX10_numberAt 18 = .ok (.iconst 4, 1) := by decide +kernel
theorem dX10_numberAt_19 : decode cX10_numberAt 19 = .ok (.iadd, 1) := by decide +kernel
theorem dX10_numberAt_20 : decode cX10_numberAt 20 = .ok (.if_icmp .ge 37, 3) := by decide +kernel
theorem dX10_numberAt_23 : decode cX10_numberAt 23 = .ok (.aload_n 0, 1) := by decide +kernel
theorem dX10_numberAt_24 : decode cX10_numberAt 24 = .ok (.getfield 42, 3) := by decide +kernel
theorem dX10_numberAt_27 : decode cX10_numberAt 27 = .ok (.iload 4, 2) := by decide +kernel
theorem dX10_numberAt_29 : decode cX10_numberAt 29 = .ok (.iaload, 1) := by decide +kernel
theorem dX10_numberAt_30 : decode cX10_numberAt 30 = .ok (.invokestatic 109, 3) := by decide +kernel
theorem dX10_numberAt_33 : decode cX10_numberAt 33 = .ok (.istore 5, 2) := by decide +kernel
theorem dX10_numberAt_35 : decode cX10_numberAt 35 = .ok (.iload 5, 2) := by decide +kernel
theorem dX10_numberAt_37 : decode cX10_numberAt 37 = .ok (.ifCond .ge 6, 3) := by decide +kernel
theorem dX10_numberAt_40 : decode cX10_numberAt 40 = .ok (.bipush (-5), 2) := by decide +kernel
theorem dX10_numberAt_42 : decode cX10_numberAt 42 = .ok (.ireturn, 1) := by decide +kernel
theorem dX10_numberAt_43 : decode cX10_numberAt 43 = .ok (.bipush 16, 2) := by decide +kernel
theorem dX10_numberAt_45 : decode cX10_numberAt 45 = .ok (.iload_n 3, 1) := by decide +kernel
theorem dX10_numberAt_46 : decode cX10_numberAt 46 = .ok (.imul, 1) := by decide +kernel
theorem dX10_numberAt_47 : decode cX10_numberAt 47 = .ok (.iload 5, 2) := by decide +kernel
theorem dX10_numberAt_49 : decode cX10_numberAt 49 = .ok (.iadd, 1) := by decide +kernel
theorem dX10_numberAt_50 : decode cX10_numberAt 50 = .ok (.istore_n 3, 1) := by decide +kernel
theorem dX10_numberAt_51 : decode cX10_numberAt 51 = .ok (.iinc 4 1, 3) := by decide +kernel
theorem dX10_numberAt_54 : decode cX10_numberAt 54 = .ok (.goto (-39), 3) := by decide +kernel
theorem dX10_numberAt_57 : decode cX10_numberAt 57 = .ok (.iload_n 3, 1) := by decide +kernel
theorem dX10_numberAt_58 : decode cX10_numberAt 58 = .ok (.sipush 255, 3) := by decide +kernel
theorem dX10_numberAt_61 : decode cX10_numberAt 61 = .ok (.if_icmp .le 8, 3) := by decide +kernel
theorem dX10_numberAt_64 : decode cX10_numberAt 64 = .ok (.bipush (-5), 2) := by decide +kernel
theorem dX10_numberAt_66 : decode cX10_numberAt 66 = .ok (.goto 4, 3) := by decide +kernel
theorem dX10_numberAt_69 : decode cX10_numberAt 69 = .ok (.iload_n 3, 1) := by decide +kernel
theorem dX10_numberAt_70 : decode cX10_numberAt 70 = .ok (.ireturn, 1) := by decide +kernel
set_option maxRecDepth 20000 in
theorem ggX10_decode_X10_addSign : GoodIn wsX10_decode wsX10_addSign := goodIn_r _ [8, 1, 16, 17, 18, 19, 20, 21, 22, 23, 24, 25, 26, 27, 28, 29, 30, 31, 32, 33, 34, 35, 36] (by decide +kernel) (by decide +kernel)
set_option maxRecDepth 20000 in
theorem gX10_decode_X10_addSign : GoodIn wsX10_decode (wsV RX10 66 RX10 yX10_addSign wsX10_addSign) := goodIn_app (goodIn_of _ (by decide +kernel)) ggX10_decode_X10_addSign
set_option maxRecDepth 20000 in
theorem ggX10_decode_X10_numberAt : GoodIn wsX10_decode wsX10_numberAt := goodIn_r _ [12, 2, 13, 14, 7, 15, 16, 17, 18, 19, 20, 21, 22, 23, 24, 25, 26, 27, 28, 29, 30, 31, 32, 33, 34, 35, 36] (by decide +kernel) (by decide +kernel)
set_option maxRecDepth 20000 in
theorem gX10_decode_X10_numberAt : GoodIn wsX10_decode (wsV RX10 112 RX10 yX10_numberAt wsX10_numberAt) := goodIn_app (goodIn_of _ (by decide +kernel)) ggX10_decode_X10_numberAt
theorem dX10_decode_0 : decode cX10_decode 0 = .ok (.aload_n 0, 1) := by decide +kernel
theorem dX10_decode_1 : decode cX10_decode 1 = .ok (.getfield 8, 3) := by decide +kernel
theorem dX10_decode_4 : decode cX10_decode 4 = .ok (.iload_n 3, 1) := by decide +kernel
theorem dX10_decode_5 : decode cX10_decode 5 = .ok (.iconst 0, 1) := by decide +kernel
theorem dX10_decode_6 : decode cX10_decode 6 = .ok (.iastore, 1) := by decide +kernel
theorem dX10_decode_7 : decode cX10_decode 7 = .ok (.iload_n 1, 1) := by decide +kernel
theorem dX10_decode_8 : decode cX10_decode 8 = .ok (.istore 4, 2) := by decide +kernel
theorem dX10_decode_10 : decode cX10_decode 10 = .ok (.iload 4, 2) := by decide +kernel
theorem dX10_decode_12 : decode cX10_decode 12 = .ok (.iload_n 2, 1) := by decide +kernel
theorem dX10_decode_13 : decode cX10_decode 13 = .ok (.if_icmp .ge 144, 3) := by decide +kernel
theorem dX10_decode_16 : decode cX10_decode 16 = .ok (.aload_n 0, 1) := by decide +kernel
theorem dX10_decode_17 : decode cX10_decode 17 = .ok (.getfield 42, 3) := by decide +kernel
theorem dX10_decode_20 : decode cX10_decode 20 = .ok (.iload 4, 2) := by decide +kernel
theorem dX10_decode_22 : decode cX10_decode 22 = .ok (.iaload, 1) := by decide +kernel
theorem dX10_decode_23 : decode cX10_decode 23 = .ok (.bipush 92, 2) := by decide +kernel
theorem dX10_decode_25 : decode cX10_decode 25 = .ok (.if_icmp .eq 21, 3) := by decide +kernel
theorem dX10_decode_28 : decode cX10_decode 28 = .ok (.aload_n 0, 1) := by decide +kernel
theorem dX10_decode_29 : decode cX10_decode 29 = .ok (.iload_n 3, 1) := by decide +kernel
theorem dX10_decode_30 : decode cX10_decode 30 = .ok (.aload_n 0, 1) := by decide +kernel
theorem dX10_decode_31 : decode cX10_decode 31 = .ok (.getfield 42, 3) := by decide +kernel
theorem dX10_decode_34 : decode cX10_decode 34 = .ok (.iload 4, 2) := by decide +kernel
theorem dX10_decode_36 : decode cX10_decode 36 = .ok (.iaload, 1) := by decide +kernel
theorem dX10_decode_37 : decode cX10_decode 37 = .ok (.invokevirtual 66, 3) := by decide +kernel
theorem dX10_decode_40 : decode cX10_decode 40 = .ok (.iinc 4 1, 3) := by decide +kernel
theorem dX10_decode_43 : decode cX10_decode 43 = .ok (.goto (-33), 3) := by decide +kernel
theorem dX10_decode_46 : decode cX10_decode 46 = .ok (.aload_n 0, 1) := by decide +kernel
theorem dX10_decode_47 : decode cX10_decode 47 = .ok (.getfield 42, 3) := by decide +kernel
theorem dX10_decode_50 : decode cX10_decode 50 = .ok (.iload 4, 2) := by decide +kernel
theorem dX10_decode_52 : decode cX10_decode 52 = .ok (.iconst 1, 1) := by decide +kernel
theorem dX10_decode_53 : decode cX10_decode 53 = .ok (.iadd, 1) := by decide +kernel
theorem dX10_decode_54 : decode cX10_decode 54 = .ok (.iaload, 1) := by decide +kernel
theorem dX10_decode_55 : decode cX10_decode 55 = .ok (.bipush 117, 2) := by decide +kernel
theorem dX10_decode_57 : decode cX10_decode 57 = .ok (.if_icmp .ne 40, 3) := by decide +kernel
theorem dX10_decode_60 : decode cX10_decode 60 = .ok (.aload_n 0, 1) := by decide +kernel
theorem dX10_decode_61 : decode cX10_decode 61 = .ok (.iload 4, 2) := by decide +kernel
theorem dX10_decode_63 : decode cX10_decode 63 = .ok (.iconst 2, 1) := by decide +kernel
theorem dX10_decode_64 : decode cX10_decode 64 = .ok (.iadd, 1) := by decide +kernel
theorem dX10_decode_65 : decode cX10_decode 65 = .ok (.iload_n 2, 1) := by decide +kernel
theorem dX10_decode_66 : decode cX10_decode 66 = .ok (.invokevirtual 112, 3) := by decide +kernel
theorem dX10_decode_69 : decode cX10_decode 69 = .ok (.istore 5, 2) := by decide +kernel
theorem dX10_decode_71 : decode cX10_decode 71 = .ok (.iload 5, 2) := by decide +kernel
theorem dX10_decode_73 : decode cX10_decode 73 = .ok (.ifCond .ge 11, 3) := by decide +kernel
theorem dX10_decode_76 : decode cX10_decode 76 = .ok (.aload_n 0, 1) := by decide +kernel
theorem dX10_decode_77 : decode cX10_decode 77 = .ok (.getfield 45, 3) := by decide +kernel
theorem dX10_decode_80 : decode cX10_decode 80 = .ok (.iload 4, 2) := by decide +kernel
theorem dX10_decode_82 : decode cX10_decode 82 = .ok (.iaload, 1) := by decide +kernel
theorem dX10_decode_83 : decode cX10_decode 83 = .ok (.ireturn, 1) := by decide +kernel
theorem dX10_decode_84 : decode cX10_decode 84 = .ok (.aload_n 0, 1) := by decide +kernel
theorem dX10_decode_85 : decode cX10_decode 85 = .ok (.iload_n 3, 1) := by decide +kernel
theorem dX10_decode_86 : decode cX10_decode 86 = .ok (.iload 5, 2) := by decide +kernel
theorem dX10_decode_88 : decode cX10_decode 88 = .ok (.invokevirtual 66, 3) := by decide +kernel
theorem dX10_decode_91 : decode cX10_decode 91 = .ok (.iinc 4 6, 3) := by decide +kernel
theorem dX10_decode_94 : decode cX10_decode 94 = .ok (.goto (-84), 3) := by decide +kernel
theorem dX10_decode_97 : decode cX10_decode 97 = .ok (.aload_n 0, 1) := by decide +kernel
theorem dX10_decode_98 : decode cX10_decode 98 = .ok (.getfield 42, 3) := by decide +kernel
theorem dX10_decode_101 : decode cX10_decode 101 = .ok (.iload 4, 2) := by decide +kernel
theorem dX10_decode_103 : decode cX10_decode 103 = .ok (.iconst 1, 1) := by decide +kernel
theorem dX10_decode_104 : decode cX10_decode 104 = .ok (.iadd, 1) := by decide +kernel
theorem dX10_decode_105 : decode cX10_decode 105 = .ok (.iaload, 1) := by decide +kernel
theorem dX10_decode_106 : decode cX10_decode 106 = .ok (.istore 5, 2) := by decide +kernel
theorem dX10_decode_108 : decode cX10_decode 108 = .ok (.aload_n 0, 1) := by decide +kernel
theorem dX10_decode_109 : decode cX10_decode 109 = .ok (.iload_n 3, 1) := by decide +kernel
theorem dX10_decode_110 : decode cX10_decode 110 = .ok (.iload 5, 2) := by decide +kernel
theorem dX10_decode_112 : decode cX10_decode 112 = .ok (.bipush 116, 2) := by decide +kernel
theorem dX10_decode_114 : decode cX10_decode 114 = .ok (.if_icmp .ne 8, 3) := by decide +kernel
theorem dX10_decode_117 : decode cX10_decode 117 = .ok (.bipush 9, 2) := by decide +kernel
theorem dX10_decode_119 : decode cX10_decode 119 = .ok (.goto 29, 3) := by decide +kernel
theorem dX10_decode_122 : decode cX10_decode 122 = .ok (.iload 5, 2) := by decide +kernel
theorem dX10_decode_124 : decode cX10_decode 124 = .ok (.bipush 110, 2) := by decide +kernel
theorem dX10_decode_126 : decode cX10_decode 126 = .ok (.if_icmp .ne 8, 3) := by decide +kernel
theorem dX10_decode_129 : decode cX10_decode 129 = .ok (.bipush 10, 2) := by decide +kernel
theorem dX10_decode_131 : decode cX10_decode 131 = .ok (.goto 17, 3) := by decide +kernel
theorem dX10_decode_134 : decode cX10_decode 134 = .ok (.iload 5, 2) := by decide +kernel
theorem dX10_decode_136 : decode cX10_decode 136 = .ok (.bipush 114, 2) := by decide +kernel
theorem dX10_decode_138 : decode cX10_decode 138 = .ok (.if_icmp .ne 8, 3) := by decide +kernel
theorem dX10_decode_141 : decode cX10_decode 141 = .ok (.bipush 13, 2) := by decide +kernel
theorem dX10_decode_143 : decode cX10_decode 143 = .ok (.goto 5, 3) := by decide +kernel
theorem dX10_decode_146 : decode cX10_decode 146 = .ok (.iload 5, 2) := by decide +kernel
theorem dX10_decode_148 : decode cX10_decode 148 = .ok (.invokevirtual 66, 3) := by decide +kernel
theorem dX10_decode_151 : decode cX10_decode 151 = .ok (.iinc 4 2, 3) := by decide +kernel
theorem dX10_decode_154 : decode cX10_decode 154 = .ok (.goto (-144), 3) := by decide +kernel
theorem dX10_decode_157 : decode cX10_decode 157 = .ok (.bipush (-5), 2) := by decide +kernel
theorem dX10_decode_159 : decode cX10_decode 159 = .ok (.ireturn, 1) := by decide +kernel
set_option maxRecDepth 20000 in
theorem ggX10_layKeyAndValue_X10_keyEnd : GoodIn wsX10_layKeyAndValue wsX10_keyEnd := goodIn_r _ [6, 1, 7, 8, 9, 5, 10, 36, 37, 38, 39, 40, 41, 42, 43, 44, 45, 46, 47, 48, 49, 50, 51, 52, 53, 54, 55, 56] (by decide +kernel) (by decide +kernel)
set_option maxRecDepth 20000 in
theorem gX10_layKeyAndValue_X10_keyEnd : GoodIn wsX10_layKeyAndValue (wsV RX10 115 RX10 yX10_keyEnd wsX10_keyEnd) := goodIn_app (goodIn_of _ (by decide +kernel)) ggX10_layKeyAndValue_X10_keyEnd
set_option maxRecDepth 20000 in
theorem ggX10_layKeyAndValue_X10_decode : GoodIn wsX10_layKeyAndValue wsX10_decode := goodIn_r _ [14, 15, 7, 16, 17, 18, 19, 5, 20, 21, 22, 23, 24, 25, 26, 27, 36, 37, 38, 39, 40, 41, 42, 43, 44, 45, 46, 47, 48, 49, 50, 51, 52, 53, 54, 55, 56] (by decide +kernel) (by decide +kernel)
set_option maxRecDepth 20000 in
theorem gX10_layKeyAndValue_X10_decode : GoodIn wsX10_layKeyAndValue (wsV RX10 119 RX10 yX10_decode wsX10_decode) := goodIn_app (goodIn_of _ (by decide +kernel)) ggX10_layKeyAndValue_X10_decode
set_option maxRecDepth 20000 in
theorem ggX10_layKeyAndValue_X10_valueBegin : GoodIn wsX10_layKeyAndValue wsX10_valueBegin := goodIn_r _ [31, 1, 7, 32, 33, 34, 5, 35, 8, 9, 10, 36, 37, 38, 39, 40, 41, 42, 43, 44, 45, 46, 47, 48, 49, 50, 51, 52, 53, 54, 55, 56] (by decide +kernel) (by decide +kernel)
set_option maxRecDepth 20000 in
theorem gX10_layKeyAndValue_X10_valueBegin : GoodIn wsX10_layKeyAndValue (wsV RX10 123 RX10 yX10_valueBegin wsX10_valueBegin) := goodIn_app (goodIn_of _ (by decide +kernel)) ggX10_layKeyAndValue_X10_valueBegin
theorem dX10_layKeyAndValue_0 : decode cX10_layKeyAndValue 0 = .ok (.aload_n 0, 1) := by decide +kernel
theorem dX10_layKeyAndValue_1 : decode cX10_layKeyAndValue 1 = .ok (.invokevirtual 115, 3) := by decide +kernel
theorem dX10_layKeyAndValue_4 : decode cX10_layKeyAndValue 4 = .ok (.istore_n 1, 1) := by decide +kernel
theorem dX10_layKeyAndValue_5 : decode cX10_layKeyAndValue 5 = .ok (.aload_n 0, 1) := by decide +kernel
theorem dX10_layKeyAndValue_6 : decode cX10_layKeyAndValue 6 = .ok (.iconst 0, 1) := by decide +kernel
theorem dX10_layKeyAndValue_7 : decode cX10_layKeyAndValue 7 = .ok (.iload_n 1, 1) := by decide +kernel
theorem dX10_layKeyAndValue_8 : decode cX10_layKeyAndValue 8 = .ok (.sipush 1806, 3) := by decide +kernel
theorem dX10_layKeyAndValue_11 : decode cX10_layKeyAndValue 11 = .ok (.invokevirtual 119, 3) := by decide +kernel
theorem dX10_layKeyAndValue_14 : decode cX10_layKeyAndValue 14 = .ok (.istore_n 2, 1) := by decide +kernel
theorem dX10_layKeyAndValue_15 : decode cX10_layKeyAndValue 15 = .ok (.iload_n 2, 1) := by decide +kernel
theorem dX10_layKeyAndValue_16 : decode cX10_layKeyAndValue 16 = .ok (.ifCond .lt 7, 3) := by decide +kernel
theorem dX10_layKeyAndValue_19 : decode cX10_layKeyAndValue 19 = .ok (.iload_n 2, 1) := by decide +kernel
theorem dX10_layKeyAndValue_20 : decode cX10_layKeyAndValue 20 = .ok (.goto 19, 3) := by decide +kernel
theorem dX10_layKeyAndValue_23 : decode cX10_layKeyAndValue 23 = .ok (.aload_n 0, 1) := by decide +kernel
theorem dX10_layKeyAndValue_24 : decode cX10_layKeyAndValue 24 = .ok (.aload_n 0, 1) := by decide +kernel
theorem dX10_layKeyAndValue_25 : decode cX10_layKeyAndValue 25 = .ok (.iload_n 1, 1) := by decide +kernel
theorem dX10_layKeyAndValue_26 : decode cX10_layKeyAndValue 26 = .ok (.invokevirtual 123, 3) := by decide +kernel
theorem dX10_layKeyAndValue_29 : decode cX10_layKeyAndValue 29 = .ok (.aload_n 0, 1) := by decide +kernel
theorem dX10_layKeyAndValue_30 : decode cX10_layKeyAndValue 30 = .ok (.getfield 95, 3) := by decide +kernel
theorem dX10_layKeyAndValue_33 : decode cX10_layKeyAndValue 33 = .ok (.sipush 2107, 3) := by decide +kernel
theorem dX10_layKeyAndValue_36 : decode cX10_layKeyAndValue 36 = .ok (.invokevirtual 119, 3) := by decide +kernel
theorem dX10_layKeyAndValue_39 : decode cX10_layKeyAndValue 39 = .ok (.ireturn, 1) := by decide +kernel
set_option maxRecDepth 20000 in
theorem ggX10_firstBroken_X10_layEntry : GoodIn wsX10_firstBroken wsX10_layEntry := goodIn_r _ [6, 1, 7, 8, 9, 10, 11, 12, 13, 5, 14, 15, 16, 17, 18, 19, 20, 21, 22, 23, 24, 57, 58, 59, 60, 61, 62, 63, 64, 65, 66, 67, 68, 69, 70, 71, 72, 73, 74, 75, 76, 77] (by decide +kernel) (by decide +kernel)
set_option maxRecDepth 20000 in
theorem gX10_firstBroken_X10_layEntry : GoodIn wsX10_firstBroken (wsV RX10 126 RX10 yX10_layEntry wsX10_layEntry) := goodIn_app (goodIn_of _ (by decide +kernel)) ggX10_firstBroken_X10_layEntry
set_option maxRecDepth 20000 in
theorem ggX10_firstBroken_X10_layKeyAndValue : GoodIn wsX10_firstBroken wsX10_layKeyAndValue := goodIn_r _ [28, 1, 29, 30, 31, 5, 32, 23, 16, 17, 18, 33, 34, 35, 36, 37, 24, 38, 39, 40, 41, 42, 43, 44, 45, 46, 47, 48, 49, 50, 51, 52, 53, 54, 55, 56, 57, 58, 59, 60, 61, 62, 63, 64, 65, 66, 67, 68, 69, 70, 71, 72, 73, 74, 75, 76, 77] (by decide +kernel) (by decide +kernel)
set_option maxRecDepth 20000 in
theorem gX10_firstBroken_X10_layKeyAndValue : GoodIn wsX10_firstBroken (wsV RX10 129 RX10 yX10_layKeyAndValue wsX10_layKeyAndValue) := goodIn_app (goodIn_of _ (by decide +kernel)) ggX10_firstBroken_X10_layKeyAndValue
theorem dX10_firstBroken_0 : decode cX10_firstBroken 0 = .ok (.iconst 0, 1) := by decide +kernel
theorem dX10_firstBroken_1 : decode cX10_firstBroken 1 = .ok (.istore_n 1, 1) := by decide +kernel
theorem dX10_firstBroken_2 : decode cX10_firstBroken 2 = .ok (.bipush (-5), 2) := by decide +kernel
theorem dX10_firstBroken_4 : decode cX10_firstBroken 4 = .ok (.istore_n 2, 1) := by decide +kernel
theorem dX10_firstBroken_5 : decode cX10_firstBroken 5 = .ok (.iload_n 1, 1) := by decide +kernel
theorem dX10_firstBroken_6 : decode cX10_firstBroken 6 = .ok (.bipush (-5), 2) := by decide +kernel
theorem dX10_firstBroken_8 : decode cX10_firstBroken 8 = .ok (.if_icmp .eq 33, 3) := by decide +kernel
theorem dX10_firstBroken_11 : decode cX10_firstBroken 11 = .ok (.iload_n 2, 1) := by decide +kernel
theorem dX10_firstBroken_12 : decode cX10_firstBroken 12 = .ok (.ifCond .ge 29, 3) := by decide +kernel
theorem dX10_firstBroken_15 : decode cX10_firstBroken 15 = .ok (.aload_n 0, 1) := by decide +kernel
theorem dX10_firstBroken_16 : decode cX10_firstBroken 16 = .ok (.iload_n 1, 1) := by decide +kernel
theorem dX10_firstBroken_17 : decode cX10_firstBroken 17 = .ok (.invokevirtual 126, 3) := by decide +kernel
theorem dX10_firstBroken_20 : decode cX10_firstBroken 20 = .ok (.istore_n 1, 1) := by decide +kernel
theorem dX10_firstBroken_21 : decode cX10_firstBroken 21 = .ok (.aload_n 0, 1) := by decide +kernel
theorem dX10_firstBroken_22 : decode cX10_firstBroken 22 = .ok (.getfield 95, 3) := by decide +kernel
theorem dX10_firstBroken_25 : decode cX10_firstBroken 25 = .ok (.ifCond .le 10, 3) := by decide +kernel
theorem dX10_firstBroken_28 : decode cX10_firstBroken 28 = .ok (.aload_n 0, 1) := by decide +kernel
theorem dX10_firstBroken_29 : decode cX10_firstBroken 29 = .ok (.invokevirtual 129, 3) := by decide +kernel
theorem dX10_firstBroken_32 : decode cX10_firstBroken 32 = .ok (.goto 5, 3) := by decide +kernel
theorem dX10_firstBroken_35 : decode cX10_firstBroken 35 = .ok (.bipush (-5), 2) := by decide +kernel
theorem dX10_firstBroken_37 : decode cX10_firstBroken 37 = .ok (.istore_n 2, 1) := by decide +kernel
theorem dX10_firstBroken_38 : decode cX10_firstBroken 38 = .ok (.goto (-33), 3) := by decide +kernel
theorem dX10_firstBroken_41 : decode cX10_firstBroken 41 = .ok (.iload_n 2, 1) := by decide +kernel
theorem dX10_firstBroken_42 : decode cX10_firstBroken 42 = .ok (.ireturn, 1) := by decide +kernel
set_option maxRecDepth 20000 in
theorem ggX10_brokenAt_X10_firstBroken : GoodIn wsX10_brokenAt wsX10_firstBroken := goodIn_r _ [5, 6, 7, 8, 9, 4, 10, 11, 12, 13, 14, 15, 16, 17, 18, 19, 20, 21, 22, 23, 24, 25, 26, 27, 28, 29, 30, 31, 32, 33, 34, 35, 36, 37, 38, 39, 40, 41, 42, 43, 44, 45, 46, 47, 48, 49, 50, 51, 52, 53, 54, 55, 56, 57, 58, 59, 60, 61, 62, 63, 64, 65, 66, 67, 68, 69, 70, 71, 72, 73, 74, 75, 76, 77, 78, 79, 80, 81] (by decide +kernel) (by decide +kernel)
set_option maxRecDepth 20000 in
theorem gX10_brokenAt_X10_firstBroken : GoodIn wsX10_brokenAt (wsV RX10 132 RX10 yX10_firstBroken wsX10_firstBroken) := goodIn_app (goodIn_of _ (by decide +kernel)) ggX10_brokenAt_X10_firstBroken
theorem dX10_brokenAt_0 : decode cX10_brokenAt 0 = .ok (.aload_n 0, 1) := by decide +kernel
theorem dX10_brokenAt_1 : decode cX10_brokenAt 1 = .ok (.invokevirtual 132, 3) := by decide +kernel
theorem dX10_brokenAt_4 : decode cX10_brokenAt 4 = .ok (.ireturn, 1) := by decide +kernel
theorem dX10_entryOf_0 : decode cX10_entryOf 0 = .ok (.sipush 8100, 3) := by decide +kernel
theorem dX10_entryOf_3 : decode cX10_entryOf 3 = .ok (.sipush 24080, 3) := by decide +kernel
theorem dX10_entryOf_6 : decode cX10_entryOf 6 = .ok (.iload_n 0, 1) := by decide +kernel
theorem dX10_entryOf_7 : decode cX10_entryOf 7 = .ok (.imul, 1) := by decide +kernel
theorem dX10_entryOf_8 : decode cX10_entryOf 8 = .ok (.iadd, 1) := by decide +kernel
theorem dX10_entryOf_9 : decode cX10_entryOf 9 = .ok (.sipush 602, 3) := by decide +kernel
theorem dX10_entryOf_12 : decode cX10_entryOf 12 = .ok (.iload_n 1, 1) := by decide +kernel
theorem dX10_entryOf_13 : decode cX10_entryOf 13 = .ok (.imul, 1) := by decide +kernel
theorem dX10_entryOf_14 : decode cX10_entryOf 14 = .ok (.iadd, 1) := by decide +kernel
theorem dX10_entryOf_15 : decode cX10_entryOf 15 = .ok (.ireturn, 1) := by decide +kernel
set_option maxRecDepth 20000 in
theorem ggX10_valueOf_X10_entryOf : GoodIn wsX10_valueOf wsX10_entryOf := goodIn_r _ [4] (by decide +kernel) (by decide +kernel)
set_option maxRecDepth 20000 in
theorem gX10_valueOf_X10_entryOf : GoodIn wsX10_valueOf (va_wsS RX10 135 yX10_entryOf wsX10_entryOf) := goodIn_app (goodIn_of _ (by decide +kernel)) ggX10_valueOf_X10_entryOf
theorem dX10_valueOf_0 : decode cX10_valueOf 0 = .ok (.iload_n 0, 1) := by decide +kernel
theorem dX10_valueOf_1 : decode cX10_valueOf 1 = .ok (.iload_n 1, 1) := by decide +kernel
theorem dX10_valueOf_2 : decode cX10_valueOf 2 = .ok (.invokestatic 135, 3) := by decide +kernel
theorem dX10_valueOf_5 : decode cX10_valueOf 5 = .ok (.sipush 301, 3) := by decide +kernel
theorem dX10_valueOf_8 : decode cX10_valueOf 8 = .ok (.iadd, 1) := by decide +kernel
theorem dX10_valueOf_9 : decode cX10_valueOf 9 = .ok (.ireturn, 1) := by decide +kernel
set_option maxRecDepth 20000 in
theorem ggX10_placeOf_X10_entryOf : GoodIn wsX10_placeOf wsX10_entryOf := goodIn_r _ [5] (by decide +kernel) (by decide +kernel)
set_option maxRecDepth 20000 in
theorem gX10_placeOf_X10_entryOf : GoodIn wsX10_placeOf (va_wsS RX10 135 yX10_entryOf wsX10_entryOf) := goodIn_app (goodIn_of _ (by decide +kernel)) ggX10_placeOf_X10_entryOf
set_option maxRecDepth 20000 in
theorem ggX10_placeOf_X10_compare : GoodIn wsX10_placeOf wsX10_compare := goodIn_r _ [9, 10, 11, 12, 13, 14, 15, 16, 17, 18, 19, 20, 21, 22, 23, 24, 25, 26, 27, 28, 29, 30, 31] (by decide +kernel) (by decide +kernel)
set_option maxRecDepth 20000 in
theorem gX10_placeOf_X10_compare : GoodIn wsX10_placeOf (wsV RX10 73 RX10 yX10_compare wsX10_compare) := goodIn_app (goodIn_of _ (by decide +kernel)) ggX10_placeOf_X10_compare
theorem dX10_placeOf_0 : decode cX10_placeOf 0 = .ok (.iconst 0, 1) := by decide +kernel
theorem dX10_placeOf_1 : decode cX10_placeOf 1 = .ok (.istore_n 3, 1) := by decide +kernel
theorem dX10_placeOf_2 : decode cX10_placeOf 2 = .ok (.iload_n 3, 1) := by decide +kernel
theorem dX10_placeOf_3 : decode cX10_placeOf 3 = .ok (.aload_n 0, 1) := by decide +kernel
theorem dX10_placeOf_4 : decode cX10_placeOf 4 = .ok (.getfield 14, 3) := by decide +kernel
theorem dX10_placeOf_7 : decode cX10_placeOf 7 = .ok (.iload_n 1, 1) := by decide +kernel
theorem dX10_placeOf_8 : decode cX10_placeOf 8 = .ok (.iaload, 1) := by decide +kernel
theorem dX10_placeOf_9 : decode cX10_placeOf 9 = .ok (.if_icmp .ge 22, 3) := by decide +kernel
theorem dX10_placeOf_12 : decode cX10_placeOf 12 = .ok (.aload_n 0, 1) := by decide +kernel
theorem dX10_placeOf_13 : decode cX10_placeOf 13 = .ok (.iload_n 1, 1) := by decide +kernel
theorem dX10_placeOf_14 : decode cX10_placeOf 14 = .ok (.iload_n 3, 1) := by decide +kernel
theorem dX10_placeOf_15 : decode cX10_placeOf 15 = .ok (.invokestatic 135, 3) := by decide +kernel
theorem dX10_placeOf_18 : decode cX10_placeOf 18 = .ok (.iload_n 2, 1) := by decide +kernel
theorem dX10_placeOf_19 : decode cX10_placeOf 19 = .ok (.invokevirtual 73, 3) := by decide +kernel
theorem dX10_placeOf_22 : decode cX10_placeOf 22 = .ok (.ifCond .ge 9, 3) := by decide +kernel
theorem dX10_placeOf_25 : decode cX10_placeOf 25 = .ok (.iinc 3 1, 3) := by decide +kernel
theorem dX10_placeOf_28 : decode cX10_placeOf 28 = .ok (.goto (-26), 3) := by decide +kernel
theorem dX10_placeOf_31 : decode cX10_placeOf 31 = .ok (.iload_n 3, 1) := by decide +kernel
theorem dX10_placeOf_32 : decode cX10_placeOf 32 = .ok (.ireturn, 1) := by decide +kernel
set_option maxRecDepth 20000 in
theorem ggX10_find_X10_placeOf : GoodIn wsX10_find wsX10_placeOf := goodIn_r _ [6, 1, 7, 8, 5, 9, 10, 11, 12, 13, 14, 15, 16, 17, 18, 19, 20, 21, 22, 23, 24, 25, 26, 27, 28, 29, 30, 31, 32, 33, 34, 35] (by decide +kernel) (by decide +kernel)
set_option maxRecDepth 20000 in
theorem gX10_find_X10_placeOf : GoodIn wsX10_find (wsV RX10 138 RX10 yX10_placeOf wsX10_placeOf) := goodIn_app (goodIn_of _ (by decide +kernel)) ggX10_find_X10_placeOf
set_option maxRecDepth 20000 in
theorem ggX10_find_X10_entryOf : GoodIn wsX10_find wsX10_entryOf := goodIn_r _ [9] (by decide +kernel) (by decide +kernel)
set_option maxRecDepth 20000 in
theorem gX10_find_X10_entryOf : GoodIn wsX10_find (va_wsS RX10 135 yX10_entryOf wsX10_entryOf) := goodIn_app (goodIn_of _ (by decide +kernel)) ggX10_find_X10_entryOf
set_option maxRecDepth 20000 in
theorem ggX10_find_X10_compare : GoodIn wsX10_find wsX10_compare := goodIn_r _ [13, 14, 15, 16, 17, 18, 19, 20, 21, 22, 23, 24, 25, 26, 27, 28, 29, 30, 31, 32, 33, 34, 35] (by decide +kernel) (by decide +kernel)
set_option maxRecDepth 20000 in
theorem gX10_find_X10_compare : GoodIn wsX10_find (wsV RX10 73 RX10 yX10_compare wsX10_compare) := goodIn_app (goodIn_of _ (by decide +kernel)) ggX10_find_X10_compare
theorem dX10_find_0 : decode cX10_find 0 = .ok (.aload_n 0, 1) := by decide +kernel
theorem dX10_find_1 : decode cX10_find 1 = .ok (.iload_n 1, 1) := by decide +kernel
theorem dX10_find_2 : decode cX10_find 2 = .ok (.iload_n 2, 1) := by decide +kernel
theorem dX10_find_3 : decode cX10_find 3 = .ok (.invokevirtual 138, 3) := by decide +kernel
theorem dX10_find_6 : decode cX10_find 6 = .ok (.istore_n 3, 1) := by decide +kernel
theorem dX10_find_7 : decode cX10_find 7 = .ok (.iload_n 3, 1) := by decide +kernel
theorem dX10_find_8 : decode cX10_find 8 = .ok (.aload_n 0, 1) := by decide +kernel
theorem dX10_find_9 : decode cX10_find 9 = .ok (.getfield 14, 3) := by decide +kernel
theorem dX10_find_12 : decode cX10_find 12 = .ok (.iload_n 1, 1) := by decide +kernel
theorem dX10_find_13 : decode cX10_find 13 = .ok (.iaload, 1) := by decide +kernel
theorem dX10_find_14 : decode cX10_find 14 = .ok (.if_icmp .ge 20, 3) := by decide +kernel
theorem dX10_find_17 : decode cX10_find 17 = .ok (.aload_n 0, 1) := by decide +kernel
theorem dX10_find_18 : decode cX10_find 18 = .ok (.iload_n 1, 1) := by decide +kernel
theorem dX10_find_19 : decode cX10_find 19 = .ok (.iload_n 3, 1) := by decide +kernel
theorem dX10_find_20 : decode cX10_find 20 = .ok (.invokestatic 135, 3) := by decide +kernel
theorem dX10_find_23 : decode cX10_find 23 = .ok (.iload_n 2, 1) := by decide +kernel
theorem dX10_find_24 : decode cX10_find 24 = .ok (.invokevirtual 73, 3) := by decide +kernel
theorem dX10_find_27 : decode cX10_find 27 = .ok (.ifCond .ne 7, 3) := by decide +kernel
theorem dX10_find_30 : decode cX10_find 30 = .ok (.iload_n 3, 1) := by decide +kernel
theorem dX10_find_31 : decode cX10_find 31 = .ok (.goto 5, 3) := by decide +kernel
theorem dX10_find_34 : decode cX10_find 34 = .ok (.bipush (-5), 2) := by decide +kernel
theorem dX10_find_36 : decode cX10_find 36 = .ok (.ireturn, 1) := by decide +kernel
set_option maxRecDepth 20000 in
theorem ggX10_copyEntry_X10_entryOf : GoodIn wsX10_copyEntry wsX10_entryOf := goodIn_r _ [4] (by decide +kernel) (by decide +kernel)
set_option maxRecDepth 20000 in
theorem gX10_copyEntry_X10_entryOf : GoodIn wsX10_copyEntry (va_wsS RX10 135 yX10_entryOf wsX10_entryOf) := goodIn_app (goodIn_of _ (by decide +kernel)) ggX10_copyEntry_X10_entryOf
set_option maxRecDepth 20000 in
theorem ggX10_copyEntry_X10_copyText : GoodIn wsX10_copyEntry wsX10_copyText := goodIn_r _ [8, 9, 13, 14, 15, 16, 17, 18, 19, 20, 21, 22, 23, 24, 25, 26, 27, 28, 29, 30, 31, 32, 33] (by decide +kernel) (by decide +kernel)
set_option maxRecDepth 20000 in
theorem gX10_copyEntry_X10_copyText : GoodIn wsX10_copyEntry (wsV RX10 70 RX10 yX10_copyText wsX10_copyText) := goodIn_app (goodIn_of _ (by decide +kernel)) ggX10_copyEntry_X10_copyText
set_option maxRecDepth 20000 in
theorem ggX10_copyEntry_X10_valueOf : GoodIn wsX10_copyEntry wsX10_valueOf := goodIn_r _ [12, 1, 2, 3, 4] (by decide +kernel) (by decide +kernel)
set_option maxRecDepth 20000 in
theorem gX10_copyEntry_X10_valueOf : GoodIn wsX10_copyEntry (va_wsS RX10 141 yX10_valueOf wsX10_valueOf) := goodIn_app (goodIn_of _ (by decide +kernel)) ggX10_copyEntry_X10_valueOf
theorem dX10_copyEntry_0 : decode cX10_copyEntry 0 = .ok (.aload_n 0, 1) := by decide +kernel
theorem dX10_copyEntry_1 : decode cX10_copyEntry 1 = .ok (.iload_n 1, 1) := by decide +kernel
theorem dX10_copyEntry_2 : decode cX10_copyEntry 2 = .ok (.iload_n 2, 1) := by decide +kernel
theorem dX10_copyEntry_3 : decode cX10_copyEntry 3 = .ok (.invokestatic 135, 3) := by decide +kernel
theorem dX10_copyEntry_6 : decode cX10_copyEntry 6 = .ok (.iload_n 1, 1) := by decide +kernel
theorem dX10_copyEntry_7 : decode cX10_copyEntry 7 = .ok (.iload_n 3, 1) := by decide +kernel
theorem dX10_copyEntry_8 : decode cX10_copyEntry 8 = .ok (.invokestatic 135, 3) := by decide +kernel
theorem dX10_copyEntry_11 : decode cX10_copyEntry 11 = .ok (.invokevirtual 70, 3) := by decide +kernel
theorem dX10_copyEntry_14 : decode cX10_copyEntry 14 = .ok (.aload_n 0, 1) := by decide +kernel
theorem dX10_copyEntry_15 : decode cX10_copyEntry 15 = .ok (.iload_n 1, 1) := by decide +kernel
theorem dX10_copyEntry_16 : decode cX10_copyEntry 16 = .ok (.iload_n 2, 1) := by decide +kernel
theorem dX10_copyEntry_17 : decode cX10_copyEntry 17 = .ok (.invokestatic 141, 3) := by decide +kernel
theorem dX10_copyEntry_20 : decode cX10_copyEntry 20 = .ok (.iload_n 1, 1) := by decide +kernel
theorem dX10_copyEntry_21 : decode cX10_copyEntry 21 = .ok (.iload_n 3, 1) := by decide +kernel
theorem dX10_copyEntry_22 : decode cX10_copyEntry 22 = .ok (.invokestatic 141, 3) := by decide +kernel
theorem dX10_copyEntry_25 : decode cX10_copyEntry 25 = .ok (.invokevirtual 70, 3) := by decide +kernel
theorem dX10_copyEntry_28 : decode cX10_copyEntry 28 = .ok (.return_, 1) := by decide +kernel
set_option maxRecDepth 20000 in
theorem ggX10_copyLayer_X10_entryOf : GoodIn wsX10_copyLayer wsX10_entryOf := goodIn_r _ [5] (by decide +kernel) (by decide +kernel)
set_option maxRecDepth 20000 in
theorem gX10_copyLayer_X10_entryOf : GoodIn wsX10_copyLayer (va_wsS RX10 135 yX10_entryOf wsX10_entryOf) := goodIn_app (goodIn_of _ (by decide +kernel)) ggX10_copyLayer_X10_entryOf
set_option maxRecDepth 20000 in
theorem ggX10_copyLayer_X10_copyText : GoodIn wsX10_copyLayer wsX10_copyText := goodIn_r _ [9, 10, 14, 15, 16, 17, 18, 19, 20, 21, 22, 23, 24, 25, 26, 27, 28, 29, 30, 31, 32, 33, 34] (by decide +kernel) (by decide +kernel)
set_option maxRecDepth 20000 in
theorem gX10_copyLayer_X10_copyText : GoodIn wsX10_copyLayer (wsV RX10 70 RX10 yX10_copyText wsX10_copyText) := goodIn_app (goodIn_of _ (by decide +kernel)) ggX10_copyLayer_X10_copyText
set_option maxRecDepth 20000 in
theorem ggX10_copyLayer_X10_valueOf : GoodIn wsX10_copyLayer wsX10_valueOf := goodIn_r _ [13, 2, 3, 4, 5] (by decide +kernel) (by decide +kernel)
set_option maxRecDepth 20000 in
theorem gX10_copyLayer_X10_valueOf : GoodIn wsX10_copyLayer (va_wsS RX10 141 yX10_valueOf wsX10_valueOf) := goodIn_app (goodIn_of _ (by decide +kernel)) ggX10_copyLayer_X10_valueOf
theorem dX10_copyLayer_0 : decode cX10_copyLayer 0 = .ok (.aload_n 0, 1) := by decide +kernel
theorem dX10_copyLayer_1 : decode cX10_copyLayer 1 = .ok (.getfield 14, 3) := by decide +kernel
theorem dX10_copyLayer_4 : decode cX10_copyLayer 4 = .ok (.iload_n 2, 1) := by decide +kernel
theorem dX10_copyLayer_5 : decode cX10_copyLayer 5 = .ok (.aload_n 0, 1) := by decide +kernel
theorem dX10_copyLayer_6 : decode cX10_copyLayer 6 = .ok (.getfield 14, 3) := by decide +kernel
theorem dX10_copyLayer_9 : decode cX10_copyLayer 9 = .ok (.iload_n 1, 1) := by decide +kernel
theorem dX10_copyLayer_10 : decode cX10_copyLayer 10 = .ok (.iaload, 1) := by decide +kernel
theorem dX10_copyLayer_11 : decode cX10_copyLayer 11 = .ok (.iastore, 1) := by decide +kernel
theorem dX10_copyLayer_12 : decode cX10_copyLayer 12 = .ok (.iconst 0, 1) := by decide +kernel
theorem dX10_copyLayer_13 : decode cX10_copyLayer 13 = .ok (.istore_n 3, 1) := by decide +kernel
theorem dX10_copyLayer_14 : decode cX10_copyLayer 14 = .ok (.iload_n 3, 1) := by decide +kernel
theorem dX10_copyLayer_15 : decode cX10_copyLayer 15 = .ok (.aload_n 0, 1) := by decide +kernel
theorem dX10_copyLayer_16 : decode cX10_copyLayer 16 = .ok (.getfield 14, 3) := by decide +kernel
theorem dX10_copyLayer_19 : decode cX10_copyLayer 19 = .ok (.iload_n 1, 1) := by decide +kernel
theorem dX10_copyLayer_20 : decode cX10_copyLayer 20 = .ok (.iaload, 1) := by decide +kernel
theorem dX10_copyLayer_21 : decode cX10_copyLayer 21 = .ok (.if_icmp .ge 37, 3) := by decide +kernel
theorem dX10_copyLayer_24 : decode cX10_copyLayer 24 = .ok (.aload_n 0, 1) := by decide +kernel
theorem dX10_copyLayer_25 : decode cX10_copyLayer 25 = .ok (.iload_n 1, 1) := by decide +kernel
theorem dX10_copyLayer_26 : decode cX10_copyLayer 26 = .ok (.iload_n 3, 1) := by decide +kernel
theorem dX10_copyLayer_27 : decode cX10_copyLayer 27 = .ok (.invokestatic 135, 3) := by decide +kernel
theorem dX10_copyLayer_30 : decode cX10_copyLayer 30 = .ok (.iload_n 2, 1) := by decide +kernel
theorem dX10_copyLayer_31 : decode cX10_copyLayer 31 = .ok (.iload_n 3, 1) := by decide +kernel
theorem dX10_copyLayer_32 : decode cX10_copyLayer 32 = .ok (.invokestatic 135, 3) := by decide +kernel
theorem dX10_copyLayer_35 : decode cX10_copyLayer 35 = .ok (.invokevirtual 70, 3) := by decide +kernel
theorem dX10_copyLayer_38 : decode cX10_copyLayer 38 = .ok (.aload_n 0, 1) := by decide +kernel
theorem dX10_copyLayer_39 : decode cX10_copyLayer 39 = .ok (.iload_n 1, 1) := by decide +kernel
theorem dX10_copyLayer_40 : decode cX10_copyLayer 40 = .ok (.iload_n 3, 1) := by decide +kernel
theorem dX10_copyLayer_41 : decode cX10_copyLayer 41 = .ok (.invokestatic 141, 3) := by decide +kernel
theorem dX10_copyLayer_44 : decode cX10_copyLayer 44 = .ok (.iload_n 2, 1) := by decide +kernel
theorem dX10_copyLayer_45 : decode cX10_copyLayer 45 = .ok (.iload_n 3, 1) := by decide +kernel
theorem dX10_copyLayer_46 : decode cX10_copyLayer 46 = .ok (.invokestatic 141, 3) := by decide +kernel
theorem dX10_copyLayer_49 : decode cX10_copyLayer 49 = .ok (.invokevirtual 70, 3) := by decide +kernel
theorem dX10_copyLayer_52 : decode cX10_copyLayer 52 = .ok (.iinc 3 1, 3) := by decide +kernel
theorem dX10_copyLayer_55 : decode cX10_copyLayer 55 = .ok (.goto (-41), 3) := by decide +kernel
theorem dX10_copyLayer_58 : decode cX10_copyLayer 58 = .ok (.return_, 1) := by decide +kernel
set_option maxRecDepth 20000 in
theorem ggX10_put_X10_placeOf : GoodIn wsX10_put wsX10_placeOf := goodIn_r _ [6, 1, 7, 8, 5, 9, 10, 11, 12, 13, 14, 30, 31, 32, 33, 34, 35, 36, 37, 38, 39, 40, 41, 42, 43, 44, 45, 46, 47, 48, 49, 50] (by decide +kernel) (by decide +kernel)
set_option maxRecDepth 20000 in
theorem gX10_put_X10_placeOf : GoodIn wsX10_put (wsV RX10 138 RX10 yX10_placeOf wsX10_placeOf) := goodIn_app (goodIn_of _ (by decide +kernel)) ggX10_put_X10_placeOf
set_option maxRecDepth 20000 in
theorem ggX10_put_X10_find : GoodIn wsX10_put wsX10_find := goodIn_r _ [18, 1, 2, 3, 4, 5, 6, 7, 8, 9, 10, 11, 12, 13, 14, 30, 31, 32, 33, 34, 35, 36, 37, 38, 39, 40, 41, 42, 43, 44, 45, 46, 47, 48, 49, 50] (by decide +kernel) (by decide +kernel)
set_option maxRecDepth 20000 in
theorem gX10_put_X10_find : GoodIn wsX10_put (wsV RX10 144 RX10 yX10_find wsX10_find) := goodIn_app (goodIn_of _ (by decide +kernel)) ggX10_put_X10_find
set_option maxRecDepth 20000 in
theorem ggX10_put_X10_copyEntry : GoodIn wsX10_put wsX10_copyEntry := goodIn_r _ [22, 7, 8, 5, 9, 23, 24, 25, 26, 14, 27, 28, 29, 30, 31, 32, 33, 34, 35, 36, 37, 38, 39, 40, 41, 42, 43, 44, 45, 46, 47, 48, 49, 50] (by decide +kernel) (by decide +kernel)
set_option maxRecDepth 20000 in
theorem gX10_put_X10_copyEntry : GoodIn wsX10_put (wsV RX10 147 RX10 yX10_copyEntry wsX10_copyEntry) := goodIn_app (goodIn_of _ (by decide +kernel)) ggX10_put_X10_copyEntry
set_option maxRecDepth 20000 in
theorem ggX10_put_X10_entryOf : GoodIn wsX10_put wsX10_entryOf := goodIn_r _ [9] (by decide +kernel) (by decide +kernel)
set_option maxRecDepth 20000 in
theorem gX10_put_X10_entryOf : GoodIn wsX10_put (va_wsS RX10 135 yX10_entryOf wsX10_entryOf) := goodIn_app (goodIn_of _ (by decide +kernel)) ggX10_put_X10_entryOf
set_option maxRecDepth 20000 in
theorem ggX10_put_X10_copyText : GoodIn wsX10_put wsX10_copyText := goodIn_r _ [26, 14, 30, 31, 32, 33, 34, 35, 36, 37, 38, 39, 40, 41, 42, 43, 44, 45, 46, 47, 48, 49, 50] (by decide +kernel) (by decide +kernel)
set_option maxRecDepth 20000 in
theorem gX10_put_X10_copyText : GoodIn wsX10_put (wsV RX10 70 RX10 yX10_copyText wsX10_copyText) := goodIn_app (goodIn_of _ (by decide +kernel)) ggX10_put_X10_copyText
set_option maxRecDepth 20000 in
theorem ggX10_put_X10_valueOf : GoodIn wsX10_put wsX10_valueOf := goodIn_r _ [29, 7, 8, 5, 9] (by decide +kernel) (by decide +kernel)
set_option maxRecDepth 20000 in
theorem gX10_put_X10_valueOf : GoodIn wsX10_put (va_wsS RX10 141 yX10_valueOf wsX10_valueOf) := goodIn_app (goodIn_of _ (by decide +kernel)) ggX10_put_X10_valueOf
theorem dX10_put_0 : decode cX10_put 0 = .ok (.aload_n 0, 1) := by decide +kernel
theorem dX10_put_1 : decode cX10_put 1 = .ok (.iload_n 1, 1) := by decide +kernel
theorem dX10_put_2 : decode cX10_put 2 = .ok (.iload_n 2, 1) := by decide +kernel
theorem dX10_put_3 : decode cX10_put 3 = .ok (.invokevirtual 138, 3) := by decide +kernel
theorem dX10_put_6 : decode cX10_put 6 = .ok (.istore 4, 2) := by decide +kernel
theorem dX10_put_8 : decode cX10_put 8 = .ok (.aload_n 0, 1) := by decide +kernel
theorem dX10_put_9 : decode cX10_put 9 = .ok (.iload_n 1, 1) := by decide +kernel
theorem dX10_put_10 : decode cX10_put 10 = .ok (.iload_n 2, 1) := by decide +kernel
theorem dX10_put_11 : decode cX10_put 11 = .ok (.invokevirtual 144, 3) := by decide +kernel
theorem dX10_put_14 : decode cX10_put 14 = .ok (.bipush (-5), 2) := by decide +kernel
theorem dX10_put_16 : decode cX10_put 16 = .ok (.if_icmp .eq 7, 3) := by decide +kernel
theorem dX10_put_19 : decode cX10_put 19 = .ok (.iconst 1, 1) := by decide +kernel
theorem dX10_put_20 : decode cX10_put 20 = .ok (.goto 4, 3) := by decide +kernel
theorem dX10_put_23 : decode cX10_put 23 = .ok (.iconst 0, 1) := by decide +kernel
theorem dX10_put_24 : decode cX10_put 24 = .ok (.istore 5, 2) := by decide +kernel
theorem dX10_put_26 : decode cX10_put 26 = .ok (.iload 5, 2) := by decide +kernel
theorem dX10_put_28 : decode cX10_put 28 = .ok (.ifCond .ne 16, 3) := by decide +kernel
theorem dX10_put_31 : decode cX10_put 31 = .ok (.aload_n 0, 1) := by decide +kernel
theorem dX10_put_32 : decode cX10_put 32 = .ok (.getfield 14, 3) := by decide +kernel
theorem dX10_put_35 : decode cX10_put 35 = .ok (.iload_n 1, 1) := by decide +kernel
theorem dX10_put_36 : decode cX10_put 36 = .ok (.iaload, 1) := by decide +kernel
theorem dX10_put_37 : decode cX10_put 37 = .ok (.bipush 40, 2) := by decide +kernel
theorem dX10_put_39 : decode cX10_put 39 = .ok (.if_icmp .ne 5, 3) := by decide +kernel
theorem dX10_put_42 : decode cX10_put 42 = .ok (.iconst 0, 1) := by decide +kernel
theorem dX10_put_43 : decode cX10_put 43 = .ok (.ireturn, 1) := by decide +kernel
theorem dX10_put_44 : decode cX10_put 44 = .ok (.iload 5, 2) := by decide +kernel
theorem dX10_put_46 : decode cX10_put 46 = .ok (.ifCond .ne 56, 3) := by decide +kernel
theorem dX10_put_49 : decode cX10_put 49 = .ok (.aload_n 0, 1) := by decide +kernel
theorem dX10_put_50 : decode cX10_put 50 = .ok (.getfield 14, 3) := by decide +kernel
theorem dX10_put_53 : decode cX10_put 53 = .ok (.iload_n 1, 1) := by decide +kernel
theorem dX10_put_54 : decode cX10_put 54 = .ok (.iaload, 1) := by decide +kernel
theorem dX10_put_55 : decode cX10_put 55 = .ok (.istore 6, 2) := by decide +kernel
theorem dX10_put_57 : decode cX10_put 57 = .ok (.iload 6, 2) := by decide +kernel
theorem dX10_put_59 : decode cX10_put 59 = .ok (.iload 4, 2) := by decide +kernel
theorem dX10_put_61 : decode cX10_put 61 = .ok (.if_icmp .le 20, 3) := by decide +kernel
theorem dX10_put_64 : decode cX10_put 64 = .ok (.aload_n 0, 1) := by decide +kernel
theorem dX10_put_65 : decode cX10_put 65 = .ok (.iload_n 1, 1) := by decide +kernel
theorem dX10_put_66 : decode cX10_put 66 = .ok (.iload 6, 2) := by decide +kernel
theorem dX10_put_68 : decode cX10_put 68 = .ok (.iconst 1, 1) := by decide +kernel
theorem dX10_put_69 : decode cX10_put 69 = .ok (.isub, 1) := by decide +kernel
theorem dX10_put_70 : decode cX10_put 70 = .ok (.iload 6, 2) := by decide +kernel
theorem dX10_put_72 : decode cX10_put 72 = .ok (.invokevirtual 147, 3) := by decide +kernel
theorem dX10_put_75 : decode cX10_put 75 = .ok (.iinc 6 (-1), 3) := by decide +kernel
theorem dX10_put_78 : decode cX10_put 78 = .ok (.goto (-21), 3) := by decide +kernel
theorem dX10_put_81 : decode cX10_put 81 = .ok (.aload_n 0, 1) := by decide +kernel
theorem dX10_put_82 : decode cX10_put 82 = .ok (.iload_n 2, 1) := by decide +kernel
theorem dX10_put_83 : decode cX10_put 83 = .ok (.iload_n 1, 1) := by decide +kernel
theorem dX10_put_84 : decode cX10_put 84 = .ok (.iload 4, 2) := by decide +kernel
theorem dX10_put_86 : decode cX10_put 86 = .ok (.invokestatic 135, 3) := by decide +kernel
theorem dX10_put_89 : decode cX10_put 89 = .ok (.invokevirtual 70, 3) := by decide +kernel
theorem dX10_put_92 : decode cX10_put 92 = .ok (.aload_n 0, 1) := by decide +kernel
theorem dX10_put_93 : decode cX10_put 93 = .ok (.getfield 14, 3) := by decide +kernel
theorem dX10_put_96 : decode cX10_put 96 = .ok (.iload_n 1, 1) := by decide +kernel
theorem dX10_put_97 : decode cX10_put 97 = .ok (.dup2, 1) := by decide +kernel
theorem dX10_put_98 : decode cX10_put 98 = .ok (.iaload, 1) := by decide +kernel
theorem dX10_put_99 : decode cX10_put 99 = .ok (.iconst 1, 1) := by decide +kernel
theorem dX10_put_100 : decode cX10_put 100 = .ok (.iadd, 1) := by decide +kernel
theorem dX10_put_101 : decode cX10_put 101 = .ok (.iastore, 1) := by decide +kernel
theorem dX10_put_102 : decode cX10_put 102 = .ok (.aload_n 0, 1) := by decide +kernel
theorem dX10_put_103 : decode cX10_put 103 = .ok (.iload_n 3, 1) := by decide +kernel
theorem dX10_put_104 : decode cX10_put 104 = .ok (.iload_n 1, 1) := by decide +kernel
theorem dX10_put_105 : decode cX10_put 105 = .ok (.iload 4, 2) := by decide +kernel
theorem dX10_put_107 : decode cX10_put 107 = .ok (.invokestatic 141, 3) := by decide +kernel
theorem dX10_put_110 : decode cX10_put 110 = .ok (.invokevirtual 70, 3) := by decide +kernel
theorem dX10_put_113 : decode cX10_put 113 = .ok (.iconst 1, 1) := by decide +kernel
theorem dX10_put_114 : decode cX10_put 114 = .ok (.ireturn, 1) := by decide +kernel
set_option maxRecDepth 20000 in
theorem ggX10_take_X10_copyEntry : GoodIn wsX10_take wsX10_copyEntry := goodIn_r _ [6, 7, 8, 5, 9, 10, 11, 12, 13, 14, 15, 16, 17, 18, 19, 20, 21, 22, 23, 24, 25, 26, 27, 28, 29, 30, 31, 32, 33, 34, 35, 36, 37, 38] (by decide +kernel) (by decide +kernel)
set_option maxRecDepth 20000 in
theorem gX10_take_X10_copyEntry : GoodIn wsX10_take (wsV RX10 147 RX10 yX10_copyEntry wsX10_copyEntry) := goodIn_app (goodIn_of _ (by decide +kernel)) ggX10_take_X10_copyEntry
theorem dX10_take_0 : decode cX10_take 0 = .ok (.iload_n 2, 1) := by decide +kernel
theorem dX10_take_1 : decode cX10_take 1 = .ok (.istore_n 3, 1) := by decide +kernel
theorem dX10_take_2 : decode cX10_take 2 = .ok (.iload_n 3, 1) := by decide +kernel
theorem dX10_take_3 : decode cX10_take 3 = .ok (.aload_n 0, 1) := by decide +kernel
theorem dX10_take_4 : decode cX10_take 4 = .ok (.getfield 14, 3) := by decide +kernel
theorem dX10_take_7 : decode cX10_take 7 = .ok (.iload_n 1, 1) := by decide +kernel
theorem dX10_take_8 : decode cX10_take 8 = .ok (.iaload, 1) := by decide +kernel
theorem dX10_take_9 : decode cX10_take 9 = .ok (.iconst 1, 1) := by decide +kernel
theorem dX10_take_10 : decode cX10_take 10 = .ok (.isub, 1) := by decide +kernel
theorem dX10_take_11 : decode cX10_take 11 = .ok (.if_icmp .ge 18, 3) := by decide +kernel
theorem dX10_take_14 : decode cX10_take 14 = .ok (.aload_n 0, 1) := by decide +kernel
theorem dX10_take_15 : decode cX10_take 15 = .ok (.iload_n 1, 1) := by decide +kernel
theorem dX10_take_16 : decode cX10_take 16 = .ok (.iload_n 3, 1) := by decide +kernel
theorem dX10_take_17 : decode cX10_take 17 = .ok (.iconst 1, 1) := by decide +kernel
theorem dX10_take_18 : decode cX10_take 18 = .ok (.iadd, 1) := by decide +kernel
theorem dX10_take_19 : decode cX10_take 19 = .ok (.iload_n 3, 1) := by decide +kernel
theorem dX10_take_20 : decode cX10_take 20 = .ok (.invokevirtual 147, 3) := by decide +kernel
theorem dX10_take_23 : decode cX10_take 23 = .ok (.iinc 3 1, 3) := by decide +kernel
theorem dX10_take_26 : decode cX10_take 26 = .ok (.goto (-24), 3) := by decide +kernel
theorem dX10_take_29 : decode cX10_take 29 = .ok (.aload_n 0, 1) := by decide +kernel
theorem dX10_take_30 : decode cX10_take 30 = .ok (.getfield 14, 3) := by decide +kernel
theorem dX10_take_33 : decode cX10_take 33 = .ok (.iload_n 1, 1) := by decide +kernel
theorem dX10_take_34 : decode cX10_take 34 = .ok (.dup2, 1) := by decide +kernel
theorem dX10_take_35 : decode cX10_take 35 = .ok (.iaload, 1) := by decide +kernel
theorem dX10_take_36 : decode cX10_take 36 = .ok (.iconst 1, 1) := by decide +kernel
theorem dX10_take_37 : decode cX10_take 37 = .ok (.isub, 1) := by decide +kernel
theorem dX10_take_38 : decode cX10_take 38 = .ok (.iastore, 1) := by decide +kernel
theorem dX10_take_39 : decode cX10_take 39 = .ok (.return_, 1) := by decide +kernel
set_option maxRecDepth 20000 in
theorem ggX10_load_X10_isLayer : GoodIn wsX10_load wsX10_isLayer := goodIn_r _ [5] (by decide +kernel) (by decide +kernel)
set_option maxRecDepth 20000 in
theorem gX10_load_X10_isLayer : GoodIn wsX10_load (va_wsS RX10 151 yX10_isLayer wsX10_isLayer) := goodIn_app (goodIn_of _ (by decide +kernel)) ggX10_load_X10_isLayer
set_option maxRecDepth 20000 in
theorem ggX10_load_X10_firstBroken : GoodIn wsX10_load wsX10_firstBroken := goodIn_r _ [9, 1, 10, 11, 12, 4, 13, 14, 15, 16, 17, 18, 19, 20, 21, 22, 23, 24, 25, 26, 27, 28, 29, 30, 31, 32, 33, 34, 35, 36, 37, 38, 39, 40, 41, 42, 43, 44, 45, 46, 47, 48, 49, 50, 51, 52, 53, 54, 55, 56, 57, 58, 59, 60, 61, 62, 63, 99, 100, 101, 102, 103, 104, 105, 106, 107, 108, 109, 110, 111, 112, 113, 114, 115, 116, 117, 118, 119] (by decide +kernel) (by decide +kernel)
set_option maxRecDepth 20000 in
theorem gX10_load_X10_firstBroken : GoodIn wsX10_load (wsV RX10 132 RX10 yX10_firstBroken wsX10_firstBroken) := goodIn_app (goodIn_of _ (by decide +kernel)) ggX10_load_X10_firstBroken
set_option maxRecDepth 20000 in
theorem ggX10_load_X10_copyLayer : GoodIn wsX10_load wsX10_copyLayer := goodIn_r _ [67, 68, 69, 70, 4, 71, 72, 73, 74, 75, 44, 76, 77, 78, 99, 100, 101, 102, 103, 104, 105, 106, 107, 108, 109, 110, 111, 112, 113, 114, 115, 116, 117, 118, 119] (by decide +kernel) (by decide +kernel)
set_option maxRecDepth 20000 in
theorem gX10_load_X10_copyLayer : GoodIn wsX10_load (wsV RX10 154 RX10 yX10_copyLayer wsX10_copyLayer) := goodIn_app (goodIn_of _ (by decide +kernel)) ggX10_load_X10_copyLayer
set_option maxRecDepth 20000 in
theorem ggX10_load_X10_layEntry : GoodIn wsX10_load wsX10_layEntry := goodIn_r _ [13, 1, 14, 15, 16, 17, 18, 19, 20, 4, 21, 22, 23, 24, 25, 26, 27, 28, 29, 30, 31, 99, 100, 101, 102, 103, 104, 105, 106, 107, 108, 109, 110, 111, 112, 113, 114, 115, 116, 117, 118, 119] (by decide +kernel) (by decide +kernel)
set_option maxRecDepth 20000 in
theorem gX10_load_X10_layEntry : GoodIn wsX10_load (wsV RX10 126 RX10 yX10_layEntry wsX10_layEntry) := goodIn_app (goodIn_of _ (by decide +kernel)) ggX10_load_X10_layEntry
set_option maxRecDepth 20000 in
theorem ggX10_load_X10_layKeyAndValue : GoodIn wsX10_load wsX10_layKeyAndValue := goodIn_r _ [35, 1, 36, 37, 38, 4, 39, 30, 23, 24, 25, 40, 41, 42, 43, 44, 31, 45, 46, 47, 48, 49, 50, 51, 52, 53, 54, 55, 56, 57, 58, 59, 60, 61, 62, 63, 99, 100, 101, 102, 103, 104, 105, 106, 107, 108, 109, 110, 111, 112, 113, 114, 115, 116, 117, 118, 119] (by decide +kernel) (by decide +kernel)
set_option maxRecDepth 20000 in
theorem gX10_load_X10_layKeyAndValue : GoodIn wsX10_load (wsV RX10 129 RX10 yX10_layKeyAndValue wsX10_layKeyAndValue) := goodIn_app (goodIn_of _ (by decide +kernel)) ggX10_load_X10_layKeyAndValue
set_option maxRecDepth 20000 in
theorem ggX10_load_X10_put : GoodIn wsX10_load wsX10_put := goodIn_r _ [82, 68, 83, 84, 85, 4, 86, 69, 70, 71, 87, 88, 89, 90, 44, 91, 92, 93, 94, 95, 96, 97, 98, 72, 73, 74, 75, 76, 77, 78, 99, 100, 101, 102, 103, 104, 105, 106, 107, 108, 109, 110, 111, 112, 113, 114, 115, 116, 117, 118, 119] (by decide +kernel) (by decide +kernel)
set_option maxRecDepth 20000 in
theorem gX10_load_X10_put : GoodIn wsX10_load (wsV RX10 157 RX10 yX10_put wsX10_put) := goodIn_app (goodIn_of _ (by decide +kernel)) ggX10_load_X10_put
theorem dX10_load_0 : decode cX10_load 0 = .ok (.iload_n 1, 1) := by decide +kernel
theorem dX10_load_1 : decode cX10_load 1 = .ok (.invokestatic 151, 3) := by decide +kernel
theorem dX10_load_4 : decode cX10_load 4 = .ok (.ifCond .ne 5, 3) := by decide +kernel
theorem dX10_load_7 : decode cX10_load 7 = .ok (.iconst (-1), 1) := by decide +kernel
theorem dX10_load_8 : decode cX10_load 8 = .ok (.ireturn, 1) := by decide +kernel
theorem dX10_load_9 : decode cX10_load 9 = .ok (.aload_n 0, 1) := by decide +kernel
theorem dX10_load_10 : decode cX10_load 10 = .ok (.invokevirtual 132, 3) := by decide +kernel
theorem dX10_load_13 : decode cX10_load 13 = .ok (.ifCond .lt 6, 3) := by decide +kernel
theorem dX10_load_16 : decode cX10_load 16 = .ok (.bipush (-6), 2) := by decide +kernel
theorem dX10_load_18 : decode cX10_load 18 = .ok (.ireturn, 1) := by decide +kernel
theorem dX10_load_19 : decode cX10_load 19 = .ok (.aload_n 0, 1) := by decide +kernel
theorem dX10_load_20 : decode cX10_load 20 = .ok (.iload_n 1, 1) := by decide +kernel
theorem dX10_load_21 : decode cX10_load 21 = .ok (.bipush 12, 2) := by decide +kernel
theorem dX10_load_23 : decode cX10_load 23 = .ok (.invokevirtual 154, 3) := by decide +kernel
theorem dX10_load_26 : decode cX10_load 26 = .ok (.iconst 0, 1) := by decide +kernel
theorem dX10_load_27 : decode cX10_load 27 = .ok (.istore_n 2, 1) := by decide +kernel
theorem dX10_load_28 : decode cX10_load 28 = .ok (.iconst 0, 1) := by decide +kernel
theorem dX10_load_29 : decode cX10_load 29 = .ok (.istore_n 3, 1) := by decide +kernel
theorem dX10_load_30 : decode cX10_load 30 = .ok (.iload_n 3, 1) := by decide +kernel
theorem dX10_load_31 : decode cX10_load 31 = .ok (.bipush (-5), 2) := by decide +kernel
theorem dX10_load_33 : decode cX10_load 33 = .ok (.if_icmp .eq 51, 3) := by decide +kernel
theorem dX10_load_36 : decode cX10_load 36 = .ok (.aload_n 0, 1) := by decide +kernel
theorem dX10_load_37 : decode cX10_load 37 = .ok (.iload_n 3, 1) := by decide +kernel
theorem dX10_load_38 : decode cX10_load 38 = .ok (.invokevirtual 126, 3) := by decide +kernel
theorem dX10_load_41 : decode cX10_load 41 = .ok (.istore_n 3, 1) := by decide +kernel
theorem dX10_load_42 : decode cX10_load 42 = .ok (.aload_n 0, 1) := by decide +kernel
theorem dX10_load_43 : decode cX10_load 43 = .ok (.getfield 95, 3) := by decide +kernel
theorem dX10_load_46 : decode cX10_load 46 = .ok (.ifCond .le (-16), 3) := by decide +kernel
theorem dX10_load_49 : decode cX10_load 49 = .ok (.aload_n 0, 1) := by decide +kernel
theorem dX10_load_50 : decode cX10_load 50 = .ok (.invokevirtual 129, 3) := by decide +kernel
theorem dX10_load_53 : decode cX10_load 53 = .ok (.pop, 1) := by decide +kernel
theorem dX10_load_54 : decode cX10_load 54 = .ok (.aload_n 0, 1) := by decide +kernel
theorem dX10_load_55 : decode cX10_load 55 = .ok (.iload_n 1, 1) := by decide +kernel
theorem dX10_load_56 : decode cX10_load 56 = .ok (.sipush 1806, 3) := by decide +kernel
theorem dX10_load_59 : decode cX10_load 59 = .ok (.sipush 2107, 3) := by decide +kernel
theorem dX10_load_62 : decode cX10_load 62 = .ok (.invokevirtual 157, 3) := by decide +kernel
theorem dX10_load_65 : decode cX10_load 65 = .ok (.ifCond .ne 13, 3) := by decide +kernel
theorem dX10_load_68 : decode cX10_load 68 = .ok (.aload_n 0, 1) := by decide +kernel
theorem dX10_load_69 : decode cX10_load 69 = .ok (.bipush 12, 2) := by decide +kernel
theorem dX10_load_71 : decode cX10_load 71 = .ok (.iload_n 1, 1) := by decide +kernel
theorem dX10_load_72 : decode cX10_load 72 = .ok (.invokevirtual 154, 3) := by decide +kernel
theorem dX10_load_75 : decode cX10_load 75 = .ok (.bipush (-3), 2) := by decide +kernel
theorem dX10_load_77 : decode cX10_load 77 = .ok (.ireturn, 1) := by decide +kernel
theorem dX10_load_78 : decode cX10_load 78 = .ok (.iinc 2 1, 3) := by decide +kernel
theorem dX10_load_81 : decode cX10_load 81 = .ok (.goto (-51), 3) := by decide +kernel
theorem dX10_load_84 : decode cX10_load 84 = .ok (.iload_n 2, 1) := by decide +kernel
theorem dX10_load_85 : decode cX10_load 85 = .ok (.ireturn, 1) := by decide +kernel
theorem dX10_writes_0 : decode cX10_writes 0 = .ok (.aload_n 0, 1) := by decide +kernel
theorem dX10_writes_1 : decode cX10_writes 1 = .ok (.getfield 161, 3) := by decide +kernel
theorem dX10_writes_4 : decode cX10_writes 4 = .ok (.sipush 300, 3) := by decide +kernel
theorem dX10_writes_7 : decode cX10_writes 7 = .ok (.if_icmp .ge 13, 3) := by decide +kernel
theorem dX10_writes_10 : decode cX10_writes 10 = .ok (.aload_n 0, 1) := by decide +kernel
theorem dX10_writes_11 : decode cX10_writes 11 = .ok (.getfield 24, 3) := by decide +kernel
theorem dX10_writes_14 : decode cX10_writes 14 = .ok (.aload_n 0, 1) := by decide +kernel
theorem dX10_writes_15 : decode cX10_writes 15 = .ok (.getfield 161, 3) := by decide +kernel
theorem dX10_writes_18 : decode cX10_writes 18 = .ok (.iload_n 1, 1) := by decide +kernel
theorem dX10_writes_19 : decode cX10_writes 19 = .ok (.iastore, 1) := by decide +kernel
theorem dX10_writes_20 : decode cX10_writes 20 = .ok (.aload_n 0, 1) := by decide +kernel
theorem dX10_writes_21 : decode cX10_writes 21 = .ok (.dup, 1) := by decide +kernel
theorem dX10_writes_22 : decode cX10_writes 22 = .ok (.getfield 161, 3) := by decide +kernel
theorem dX10_writes_25 : decode cX10_writes 25 = .ok (.iconst 1, 1) := by decide +kernel
theorem dX10_writes_26 : decode cX10_writes 26 = .ok (.iadd, 1) := by decide +kernel
theorem dX10_writes_27 : decode cX10_writes 27 = .ok (.putfield 161, 3) := by decide +kernel
theorem dX10_writes_30 : decode cX10_writes 30 = .ok (.return_, 1) := by decide +kernel
theorem dX10_hexSign_0 : decode cX10_hexSign 0 = .ok (.iload_n 0, 1) := by decide +kernel
theorem dX10_hexSign_1 : decode cX10_hexSign 1 = .ok (.bipush 10, 2) := by decide +kernel
theorem dX10_hexSign_3 : decode cX10_hexSign 3 = .ok (.if_icmp .ge 10, 3) := by decide +kernel
theorem dX10_hexSign_6 : decode cX10_hexSign 6 = .ok (.bipush 48, 2) := by decide +kernel
theorem dX10_hexSign_8 : decode cX10_hexSign 8 = .ok (.iload_n 0, 1) := by decide +kernel
theorem dX10_hexSign_9 : decode cX10_hexSign 9 = .ok (.iadd, 1) := by decide +kernel
theorem dX10_hexSign_10 : decode cX10_hexSign 10 = .ok (.goto 10, 3) := by decide +kernel
theorem dX10_hexSign_13 : decode cX10_hexSign 13 = .ok (.bipush 97, 2) := by decide +kernel
theorem dX10_hexSign_15 : decode cX10_hexSign 15 = .ok (.iload_n 0, 1) := by decide +kernel
theorem dX10_hexSign_16 : decode cX10_hexSign 16 = .ok (.iadd, 1) := by decide +kernel
theorem dX10_hexSign_17 : decode cX10_hexSign 17 = .ok (.bipush 10, 2) := by decide +kernel
theorem dX10_hexSign_19 : decode cX10_hexSign 19 = .ok (.isub, 1) := by decide +kernel
theorem dX10_hexSign_20 : decode cX10_hexSign 20 = .ok (.ireturn, 1) := by decide +kernel
set_option maxRecDepth 20000 in
theorem ggX10_writesSign_X10_writes : GoodIn wsX10_writesSign wsX10_writes := goodIn_r _ [5, 6, 7, 11, 12, 13, 14, 15, 16, 17, 18, 19, 20, 21, 22, 23, 24, 25, 26, 27, 28, 29, 30, 31] (by decide +kernel) (by decide +kernel)
set_option maxRecDepth 20000 in
theorem gX10_writesSign_X10_writes : GoodIn wsX10_writesSign (wsV RX10 164 RX10 yX10_writes wsX10_writes) := goodIn_app (goodIn_of _ (by decide +kernel)) ggX10_writesSign_X10_writes
set_option maxRecDepth 20000 in
theorem ggX10_writesSign_X10_hexSign : GoodIn wsX10_writesSign wsX10_hexSign := goodIn_r _ [10] (by decide +kernel) (by decide +kernel)
set_option maxRecDepth 20000 in
theorem gX10_writesSign_X10_hexSign : GoodIn wsX10_writesSign (va_wsS RX10 167 yX10_hexSign wsX10_hexSign) := goodIn_app (goodIn_of _ (by decide +kernel)) ggX10_writesSign_X10_hexSign
theorem dX10_writesSign_0 : decode cX10_writesSign 0 = .ok (.iload_n 1, 1) := by decide +kernel
theorem dX10_writesSign_1 : decode cX10_writesSign 1 = .ok (.bipush 9, 2) := by decide +kernel
theorem dX10_writesSign_3 : decode cX10_writesSign 3 = .ok (.if_icmp .eq 15, 3) := by decide +kernel
theorem dX10_writesSign_6 : decode cX10_writesSign 6 = .ok (.iload_n 1, 1) := by decide +kernel
theorem dX10_writesSign_7 : decode cX10_writesSign 7 = .ok (.bipush 10, 2) := by decide +kernel
theorem dX10_writesSign_9 : decode cX10_writesSign 9 = .ok (.if_icmp .eq 9, 3) := by decide +kernel
theorem dX10_writesSign_12 : decode cX10_writesSign 12 = .ok (.iload_n 1, 1) := by decide +kernel
theorem dX10_writesSign_13 : decode cX10_writesSign 13 = .ok (.bipush 13, 2) := by decide +kernel
theorem dX10_writesSign_15 : decode cX10_writesSign 15 = .ok (.if_icmp .ne 7, 3) := by decide +kernel
theorem dX10_writesSign_18 : decode cX10_writesSign 18 = .ok (.iconst 1, 1) := by decide +kernel
theorem dX10_writesSign_19 : decode cX10_writesSign 19 = .ok (.goto 4, 3) := by decide +kernel
theorem dX10_writesSign_22 : decode cX10_writesSign 22 = .ok (.iconst 0, 1) := by decide +kernel
theorem dX10_writesSign_23 : decode cX10_writesSign 23 = .ok (.istore_n 2, 1) := by decide +kernel
theorem dX10_writesSign_24 : decode cX10_writesSign 24 = .ok (.iload_n 1, 1) := by decide +kernel
theorem dX10_writesSign_25 : decode cX10_writesSign 25 = .ok (.bipush 92, 2) := by decide +kernel
theorem dX10_writesSign_27 : decode cX10_writesSign 27 = .ok (.if_icmp .eq 33, 3) := by decide +kernel
theorem dX10_writesSign_30 : decode cX10_writesSign 30 = .ok (.iload_n 1, 1) := by decide +kernel
theorem dX10_writesSign_31 : decode cX10_writesSign 31 = .ok (.bipush 61, 2) := by decide +kernel
theorem dX10_writesSign_33 : decode cX10_writesSign 33 = .ok (.if_icmp .eq 27, 3) := by decide +kernel
theorem dX10_writesSign_36 : decode cX10_writesSign 36 = .ok (.iload_n 1, 1) := by decide +kernel
theorem dX10_writesSign_37 : decode cX10_writesSign 37 = .ok (.bipush 58, 2) := by decide +kernel
theorem dX10_writesSign_39 : decode cX10_writesSign 39 = .ok (.if_icmp .eq 21, 3) := by decide +kernel
theorem dX10_writesSign_42 : decode cX10_writesSign 42 = .ok (.iload_n 1, 1) := by decide +kernel
theorem dX10_writesSign_43 : decode cX10_writesSign 43 = .ok (.bipush 35, 2) := by decide +kernel
theorem dX10_writesSign_45 : decode cX10_writesSign 45 = .ok (.if_icmp .eq 15, 3) := by decide +kernel
theorem dX10_writesSign_48 : decode cX10_writesSign 48 = .ok (.iload_n 1, 1) := by decide +kernel
theorem dX10_writesSign_49 : decode cX10_writesSign 49 = .ok (.bipush 33, 2) := by decide +kernel
theorem dX10_writesSign_51 : decode cX10_writesSign 51 = .ok (.if_icmp .eq 9, 3) := by decide +kernel
theorem dX10_writesSign_54 : decode cX10_writesSign 54 = .ok (.iload_n 1, 1) := by decide +kernel
theorem dX10_writesSign_55 : decode cX10_writesSign 55 = .ok (.bipush 32, 2) := by decide +kernel
theorem dX10_writesSign_57 : decode cX10_writesSign 57 = .ok (.if_icmp .ne 7, 3) := by decide +kernel
theorem dX10_writesSign_60 : decode cX10_writesSign 60 = .ok (.iconst 1, 1) := by decide +kernel
theorem dX10_writesSign_61 : decode cX10_writesSign 61 = .ok (.goto 4, 3) := by decide +kernel
theorem dX10_writesSign_64 : decode cX10_writesSign 64 = .ok (.iconst 0, 1) := by decide +kernel
theorem dX10_writesSign_65 : decode cX10_writesSign 65 = .ok (.istore_n 3, 1) := by decide +kernel
theorem dX10_writesSign_66 : decode cX10_writesSign 66 = .ok (.iload_n 2, 1) := by decide +kernel
theorem dX10_writesSign_67 : decode cX10_writesSign 67 = .ok (.ifCond .ne 7, 3) := by decide +kernel
theorem dX10_writesSign_70 : decode cX10_writesSign 70 = .ok (.iload_n 3, 1) := by decide +kernel
theorem dX10_writesSign_71 : decode cX10_writesSign 71 = .ok (.ifCond .eq 50, 3) := by decide +kernel
theorem dX10_writesSign_74 : decode cX10_writesSign 74 = .ok (.aload_n 0, 1) := by decide +kernel
theorem dX10_writesSign_75 : decode cX10_writesSign 75 = .ok (.bipush 92, 2) := by decide +kernel
theorem dX10_writesSign_77 : decode cX10_writesSign 77 = .ok (.invokevirtual 164, 3) := by decide +kernel
theorem dX10_writesSign_80 : decode cX10_writesSign 80 = .ok (.aload_n 0, 1) := by decide +kernel
theorem dX10_writesSign_81 : decode cX10_writesSign 81 = .ok (.iload_n 1, 1) := by decide +kernel
theorem dX10_writesSign_82 : decode cX10_writesSign 82 = .ok (.bipush 9, 2) := by decide +kernel
theorem dX10_writesSign_84 : decode cX10_writesSign 84 = .ok (.if_icmp .ne 8, 3) := by decide +kernel
theorem dX10_writesSign_87 : decode cX10_writesSign 87 = .ok (.bipush 116, 2) := by decide +kernel
theorem dX10_writesSign_89 : decode cX10_writesSign 89 = .ok (.goto 26, 3) := by decide +kernel
theorem dX10_writesSign_92 : decode cX10_writesSign 92 = .ok (.iload_n 1, 1) := by decide +kernel
theorem dX10_writesSign_93 : decode cX10_writesSign 93 = .ok (.bipush 10, 2) := by decide +kernel
theorem dX10_writesSign_95 : decode cX10_writesSign 95 = .ok (.if_icmp .ne 8, 3) := by decide +kernel
theorem dX10_writesSign_98 : decode cX10_writesSign 98 = .ok (.bipush 110, 2) := by decide +kernel
theorem dX10_writesSign_100 : decode cX10_writesSign 100 = .ok (.goto 15, 3) := by decide +kernel
theorem dX10_writesSign_103 : decode cX10_writesSign 103 = .ok (.iload_n 1, 1) := by decide +kernel
theorem dX10_writesSign_104 : decode cX10_writesSign 104 = .ok (.bipush 13, 2) := by decide +kernel
theorem dX10_writesSign_106 : decode cX10_writesSign 106 = .ok (.if_icmp .ne 8, 3) := by decide +kernel
theorem dX10_writesSign_109 : decode cX10_writesSign 109 = .ok (.bipush 114, 2) := by decide +kernel
theorem dX10_writesSign_111 : decode cX10_writesSign 111 = .ok (.goto 4, 3) := by decide +kernel
theorem dX10_writesSign_114 : decode cX10_writesSign 114 = .ok (.iload_n 1, 1) := by decide +kernel
theorem dX10_writesSign_115 : decode cX10_writesSign 115 = .ok (.invokevirtual 164, 3) := by decide +kernel
theorem dX10_writesSign_118 : decode cX10_writesSign 118 = .ok (.goto 69, 3) := by decide +kernel
theorem dX10_writesSign_121 : decode cX10_writesSign 121 = .ok (.iload_n 1, 1) := by decide +kernel
theorem dX10_writesSign_122 : decode cX10_writesSign 122 = .ok (.bipush 32, 2) := by decide +kernel
theorem dX10_writesSign_124 : decode cX10_writesSign 124 = .ok (.if_icmp .lt 9, 3) := by decide +kernel
theorem dX10_writesSign_127 : decode cX10_writesSign 127 = .ok (.iload_n 1, 1) := by decide +kernel
theorem dX10_writesSign_128 : decode cX10_writesSign 128 = .ok (.bipush 126, 2) := by decide +kernel
theorem dX10_writesSign_130 : decode cX10_writesSign 130 = .ok (.if_icmp .le 52, 3) := by decide +kernel
theorem dX10_writesSign_133 : decode cX10_writesSign 133 = .ok (.aload_n 0, 1) := by decide +kernel
theorem dX10_writesSign_134 : decode cX10_writesSign 134 = .ok (.bipush 92, 2) := by decide +kernel
theorem dX10_writesSign_136 : decode cX10_writesSign 136 = .ok (.invokevirtual 164, 3) := by decide +kernel
theorem dX10_writesSign_139 : decode cX10_writesSign 139 = .ok (.aload_n 0, 1) := by decide +kernel
theorem dX10_writesSign_140 : decode cX10_writesSign 140 = .ok (.bipush 117, 2) := by decide +kernel
theorem dX10_writesSign_142 : decode cX10_writesSign 142 = .ok (.invokevirtual 164, 3) := by decide +kernel
theorem dX10_writesSign_145 : decode cX10_writesSign 145 = .ok (.aload_n 0, 1) := by decide +kernel
theorem dX10_writesSign_146 : decode cX10_writesSign 146 = .ok (.bipush 48, 2) := by decide +kernel
theorem dX10_writesSign_148 : decode cX10_writesSign 148 = .ok (.invokevirtual 164, 3) := by decide +kernel
theorem dX10_writesSign_151 : decode cX10_writesSign 151 = .ok (.aload_n 0, 1) := by decide +kernel
theorem dX10_writesSign_152 : decode cX10_writesSign 152 = .ok (.bipush 48, 2) := by decide +kernel
theorem dX10_writesSign_154 : decode cX10_writesSign 154 = .ok (.invokevirtual 164, 3) := by decide +kernel
theorem dX10_writesSign_157 : decode cX10_writesSign 157 = .ok (.aload_n 0, 1) := by decide +kernel
theorem dX10_writesSign_158 : decode cX10_writesSign 158 = .ok (.iload_n 1, 1) := by decide +kernel
theorem dX10_writesSign_159 : decode cX10_writesSign 159 = .ok (.bipush 16, 2) := by decide +kernel
theorem dX10_writesSign_161 : decode cX10_writesSign 161 = .ok (.idiv, 1) := by decide +kernel
theorem dX10_writesSign_162 : decode cX10_writesSign 162 = .ok (.invokestatic 167, 3) := by decide +kernel
theorem dX10_writesSign_165 : decode cX10_writesSign 165 = .ok (.invokevirtual 164, 3) := by decide +kernel
theorem dX10_writesSign_168 : decode cX10_writesSign 168 = .ok (.aload_n 0, 1) := by decide +kernel
theorem dX10_writesSign_169 : decode cX10_writesSign 169 = .ok (.iload_n 1, 1) := by decide +kernel
theorem dX10_writesSign_170 : decode cX10_writesSign 170 = .ok (.bipush 16, 2) := by decide +kernel
theorem dX10_writesSign_172 : decode cX10_writesSign 172 = .ok (.irem, 1) := by decide +kernel
theorem dX10_writesSign_173 : decode cX10_writesSign 173 = .ok (.invokestatic 167, 3) := by decide +kernel
theorem dX10_writesSign_176 : decode cX10_writesSign 176 = .ok (.invokevirtual 164, 3) := by decide +kernel
theorem dX10_writesSign_179 : decode cX10_writesSign 179 = .ok (.goto 8, 3) := by decide +kernel
theorem dX10_writesSign_182 : decode cX10_writesSign 182 = .ok (.aload_n 0, 1) := by decide +kernel
theorem dX10_writesSign_183 : decode cX10_writesSign 183 = .ok (.iload_n 1, 1) := by decide +kernel
theorem dX10_writesSign_184 : decode cX10_writesSign 184 = .ok (.invokevirtual 164, 3) := by decide +kernel
theorem dX10_writesSign_187 : decode cX10_writesSign 187 = .ok (.return_, 1) := by decide +kernel
set_option maxRecDepth 20000 in
theorem ggX10_writesText_X10_writesSign : GoodIn wsX10_writesText wsX10_writesSign := goodIn_r _ [6, 7, 8, 9, 5, 10, 11, 12, 13, 14, 15, 16, 17, 18, 19, 20, 21, 22, 23, 24, 25, 26, 27, 28, 29, 30, 31, 32, 33, 34, 35, 36] (by decide +kernel) (by decide +kernel)
set_option maxRecDepth 20000 in
theorem gX10_writesText_X10_writesSign : GoodIn wsX10_writesText (wsV RX10 170 RX10 yX10_writesSign wsX10_writesSign) := goodIn_app (goodIn_of _ (by decide +kernel)) ggX10_writesText_X10_writesSign
theorem dX10_writesText_0 : decode cX10_writesText 0 = .ok (.iconst 1, 1) := by decide +kernel
theorem dX10_writesText_1 : decode cX10_writesText 1 = .ok (.istore_n 2, 1) := by decide +kernel
theorem dX10_writesText_2 : decode cX10_writesText 2 = .ok (.iload_n 2, 1) := by decide +kernel
theorem dX10_writesText_3 : decode cX10_writesText 3 = .ok (.aload_n 0, 1) := by decide +kernel
theorem dX10_writesText_4 : decode cX10_writesText 4 = .ok (.getfield 8, 3) := by decide +kernel
theorem dX10_writesText_7 : decode cX10_writesText 7 = .ok (.iload_n 1, 1) := by decide +kernel
theorem dX10_writesText_8 : decode cX10_writesText 8 = .ok (.iaload, 1) := by decide +kernel
theorem dX10_writesText_9 : decode cX10_writesText 9 = .ok (.if_icmp .gt 21, 3) := by decide +kernel
theorem dX10_writesText_12 : decode cX10_writesText 12 = .ok (.aload_n 0, 1) := by decide +kernel
theorem dX10_writesText_13 : decode cX10_writesText 13 = .ok (.aload_n 0, 1) := by decide +kernel
theorem dX10_writesText_14 : decode cX10_writesText 14 = .ok (.getfield 8, 3) := by decide +kernel
theorem dX10_writesText_17 : decode cX10_writesText 17 = .ok (.iload_n 1, 1) := by decide +kernel
theorem dX10_writesText_18 : decode cX10_writesText 18 = .ok (.iload_n 2, 1) := by decide +kernel
theorem dX10_writesText_19 : decode cX10_writesText 19 = .ok (.iadd, 1) := by decide +kernel
theorem dX10_writesText_20 : decode cX10_writesText 20 = .ok (.iaload, 1) := by decide +kernel
theorem dX10_writesText_21 : decode cX10_writesText 21 = .ok (.invokevirtual 170, 3) := by decide +kernel
theorem dX10_writesText_24 : decode cX10_writesText 24 = .ok (.iinc 2 1, 3) := by decide +kernel
theorem dX10_writesText_27 : decode cX10_writesText 27 = .ok (.goto (-25), 3) := by decide +kernel
theorem dX10_writesText_30 : decode cX10_writesText 30 = .ok (.return_, 1) := by decide +kernel
set_option maxRecDepth 20000 in
theorem ggX10_write_X10_isLayer : GoodIn wsX10_write wsX10_isLayer := goodIn_r _ [9] (by decide +kernel) (by decide +kernel)
set_option maxRecDepth 20000 in
theorem gX10_write_X10_isLayer : GoodIn wsX10_write (va_wsS RX10 151 yX10_isLayer wsX10_isLayer) := goodIn_app (goodIn_of _ (by decide +kernel)) ggX10_write_X10_isLayer
set_option maxRecDepth 20000 in
theorem ggX10_write_X10_entryOf : GoodIn wsX10_write wsX10_entryOf := goodIn_r _ [12] (by decide +kernel) (by decide +kernel)
set_option maxRecDepth 20000 in
theorem gX10_write_X10_entryOf : GoodIn wsX10_write (va_wsS RX10 135 yX10_entryOf wsX10_entryOf) := goodIn_app (goodIn_of _ (by decide +kernel)) ggX10_write_X10_entryOf
set_option maxRecDepth 20000 in
theorem ggX10_write_X10_writesText : GoodIn wsX10_write wsX10_writesText := goodIn_r _ [16, 17, 18, 19, 20, 8, 21, 22, 23, 24, 25, 1, 4, 26, 27, 28, 32, 33, 34, 35, 36, 37, 38, 39, 40, 41, 42, 43, 44, 45, 46, 47, 48, 49, 50, 51, 52] (by decide +kernel) (by decide +kernel)
set_option maxRecDepth 20000 in
theorem gX10_write_X10_writesText : GoodIn wsX10_write (wsV RX10 173 RX10 yX10_writesText wsX10_writesText) := goodIn_app (goodIn_of _ (by decide +kernel)) ggX10_write_X10_writesText
set_option maxRecDepth 20000 in
theorem ggX10_write_X10_writes : GoodIn wsX10_write wsX10_writes := goodIn_r _ [25, 1, 4, 32, 33, 34, 35, 36, 37, 38, 39, 40, 41, 42, 43, 44, 45, 46, 47, 48, 49, 50, 51, 52] (by decide +kernel) (by decide +kernel)
set_option maxRecDepth 20000 in
theorem gX10_write_X10_writes : GoodIn wsX10_write (wsV RX10 164 RX10 yX10_writes wsX10_writes) := goodIn_app (goodIn_of _ (by decide +kernel)) ggX10_write_X10_writes
set_option maxRecDepth 20000 in
theorem ggX10_write_X10_valueOf : GoodIn wsX10_write wsX10_valueOf := goodIn_r _ [31, 10, 11, 8, 12] (by decide +kernel) (by decide +kernel)
set_option maxRecDepth 20000 in
theorem gX10_write_X10_valueOf : GoodIn wsX10_write (va_wsS RX10 141 yX10_valueOf wsX10_valueOf) := goodIn_app (goodIn_of _ (by decide +kernel)) ggX10_write_X10_valueOf
theorem dX10_write_0 : decode cX10_write 0 = .ok (.iload_n 1, 1) := by decide +kernel
theorem dX10_write_1 : decode cX10_write 1 = .ok (.invokestatic 151, 3) := by decide +kernel
theorem dX10_write_4 : decode cX10_write 4 = .ok (.ifCond .ne 5, 3) := by decide +kernel
theorem dX10_write_7 : decode cX10_write 7 = .ok (.iconst (-1), 1) := by decide +kernel
theorem dX10_write_8 : decode cX10_write 8 = .ok (.ireturn, 1) := by decide +kernel
theorem dX10_write_9 : decode cX10_write 9 = .ok (.aload_n 0, 1) := by decide +kernel
theorem dX10_write_10 : decode cX10_write 10 = .ok (.iconst 0, 1) := by decide +kernel
theorem dX10_write_11 : decode cX10_write 11 = .ok (.putfield 161, 3) := by decide +kernel
theorem dX10_write_14 : decode cX10_write 14 = .ok (.iconst 0, 1) := by decide +kernel
theorem dX10_write_15 : decode cX10_write 15 = .ok (.istore_n 2, 1) := by decide +kernel
theorem dX10_write_16 : decode cX10_write 16 = .ok (.iload_n 2, 1) := by decide +kernel
theorem dX10_write_17 : decode cX10_write 17 = .ok (.aload_n 0, 1) := by decide +kernel
theorem dX10_write_18 : decode cX10_write 18 = .ok (.getfield 14, 3) := by decide +kernel
theorem dX10_write_21 : decode cX10_write 21 = .ok (.iload_n 1, 1) := by decide +kernel
theorem dX10_write_22 : decode cX10_write 22 = .ok (.iaload, 1) := by decide +kernel
theorem dX10_write_23 : decode cX10_write 23 = .ok (.if_icmp .ge 39, 3) := by decide +kernel
theorem dX10_write_26 : decode cX10_write 26 = .ok (.aload_n 0, 1) := by decide +kernel
theorem dX10_write_27 : decode cX10_write 27 = .ok (.iload_n 1, 1) := by decide +kernel
theorem dX10_write_28 : decode cX10_write 28 = .ok (.iload_n 2, 1) := by decide +kernel
theorem dX10_write_29 : decode cX10_write 29 = .ok (.invokestatic 135, 3) := by decide +kernel
theorem dX10_write_32 : decode cX10_write 32 = .ok (.invokevirtual 173, 3) := by decide +kernel
theorem dX10_write_35 : decode cX10_write 35 = .ok (.aload_n 0, 1) := by decide +kernel
theorem dX10_write_36 : decode cX10_write 36 = .ok (.bipush 61, 2) := by decide +kernel
theorem dX10_write_38 : decode cX10_write 38 = .ok (.invokevirtual 164, 3) := by decide +kernel
theorem dX10_write_41 : decode cX10_write 41 = .ok (.aload_n 0, 1) := by decide +kernel
theorem dX10_write_42 : decode cX10_write 42 = .ok (.iload_n 1, 1) := by decide +kernel
theorem dX10_write_43 : decode cX10_write 43 = .ok (.iload_n 2, 1) := by decide +kernel
theorem dX10_write_44 : decode cX10_write 44 = .ok (.invokestatic 141, 3) := by decide +kernel
theorem dX10_write_47 : decode cX10_write 47 = .ok (.invokevirtual 173, 3) := by decide +kernel
theorem dX10_write_50 : decode cX10_write 50 = .ok (.aload_n 0, 1) := by decide +kernel
theorem dX10_write_51 : decode cX10_write 51 = .ok (.bipush 10, 2) := by decide +kernel
theorem dX10_write_53 : decode cX10_write 53 = .ok (.invokevirtual 164, 3) := by decide +kernel
theorem dX10_write_56 : decode cX10_write 56 = .ok (.iinc 2 1, 3) := by decide +kernel
theorem dX10_write_59 : decode cX10_write 59 = .ok (.goto (-43), 3) := by decide +kernel
theorem dX10_write_62 : decode cX10_write 62 = .ok (.aload_n 0, 1) := by decide +kernel
theorem dX10_write_63 : decode cX10_write 63 = .ok (.getfield 161, 3) := by decide +kernel
theorem dX10_write_66 : decode cX10_write 66 = .ok (.sipush 300, 3) := by decide +kernel
theorem dX10_write_69 : decode cX10_write 69 = .ok (.if_icmp .le 6, 3) := by decide +kernel
theorem dX10_write_72 : decode cX10_write 72 = .ok (.bipush (-3), 2) := by decide +kernel
theorem dX10_write_74 : decode cX10_write 74 = .ok (.ireturn, 1) := by decide +kernel
theorem dX10_write_75 : decode cX10_write 75 = .ok (.iconst 0, 1) := by decide +kernel
theorem dX10_write_76 : decode cX10_write 76 = .ok (.istore_n 2, 1) := by decide +kernel
theorem dX10_write_77 : decode cX10_write 77 = .ok (.iload_n 2, 1) := by decide +kernel
theorem dX10_write_78 : decode cX10_write 78 = .ok (.aload_n 0, 1) := by decide +kernel
theorem dX10_write_79 : decode cX10_write 79 = .ok (.getfield 161, 3) := by decide +kernel
theorem dX10_write_82 : decode cX10_write 82 = .ok (.if_icmp .ge 21, 3) := by decide +kernel
theorem dX10_write_85 : decode cX10_write 85 = .ok (.aload_n 0, 1) := by decide +kernel
theorem dX10_write_86 : decode cX10_write 86 = .ok (.getfield 21, 3) := by decide +kernel
theorem dX10_write_89 : decode cX10_write 89 = .ok (.iload_n 2, 1) := by decide +kernel
theorem dX10_write_90 : decode cX10_write 90 = .ok (.aload_n 0, 1) := by decide +kernel
theorem dX10_write_91 : decode cX10_write 91 = .ok (.getfield 24, 3) := by decide +kernel
theorem dX10_write_94 : decode cX10_write 94 = .ok (.iload_n 2, 1) := by decide +kernel
theorem dX10_write_95 : decode cX10_write 95 = .ok (.iaload, 1) := by decide +kernel
theorem dX10_write_96 : decode cX10_write 96 = .ok (.iastore, 1) := by decide +kernel
theorem dX10_write_97 : decode cX10_write 97 = .ok (.iinc 2 1, 3) := by decide +kernel
theorem dX10_write_100 : decode cX10_write 100 = .ok (.goto (-23), 3) := by decide +kernel
theorem dX10_write_103 : decode cX10_write 103 = .ok (.aload_n 0, 1) := by decide +kernel
theorem dX10_write_104 : decode cX10_write 104 = .ok (.aload_n 0, 1) := by decide +kernel
theorem dX10_write_105 : decode cX10_write 105 = .ok (.getfield 161, 3) := by decide +kernel
theorem dX10_write_108 : decode cX10_write 108 = .ok (.putfield 80, 3) := by decide +kernel
theorem dX10_write_111 : decode cX10_write 111 = .ok (.aload_n 0, 1) := by decide +kernel
theorem dX10_write_112 : decode cX10_write 112 = .ok (.getfield 80, 3) := by decide +kernel
theorem dX10_write_115 : decode cX10_write 115 = .ok (.ireturn, 1) := by decide +kernel
set_option maxRecDepth 20000 in
theorem ggX10_layerWith_X10_find : GoodIn wsX10_layerWith wsX10_find := goodIn_r _ [5, 6, 7, 8, 9, 4, 10, 11, 12, 13, 14, 15, 16, 17, 18, 19, 20, 21, 22, 23, 24, 25, 26, 27, 28, 29, 30, 31, 32, 33, 34, 35, 36, 37, 38, 39] (by decide +kernel) (by decide +kernel)
set_option maxRecDepth 20000 in
theorem gX10_layerWith_X10_find : GoodIn wsX10_layerWith (wsV RX10 144 RX10 yX10_find wsX10_find) := goodIn_app (goodIn_of _ (by decide +kernel)) ggX10_layerWith_X10_find
theorem dX10_layerWith_0 : decode cX10_layerWith 0 = .ok (.iload_n 1, 1) := by decide +kernel
theorem dX10_layerWith_1 : decode cX10_layerWith 1 = .ok (.istore_n 3, 1) := by decide +kernel
theorem dX10_layerWith_2 : decode cX10_layerWith 2 = .ok (.iload_n 3, 1) := by decide +kernel
theorem dX10_layerWith_3 : decode cX10_layerWith 3 = .ok (.ifCond .lt 20, 3) := by decide +kernel
theorem dX10_layerWith_6 : decode cX10_layerWith 6 = .ok (.aload_n 0, 1) := by decide +kernel
theorem dX10_layerWith_7 : decode cX10_layerWith 7 = .ok (.iload_n 3, 1) := by decide +kernel
theorem dX10_layerWith_8 : decode cX10_layerWith 8 = .ok (.iload_n 2, 1) := by decide +kernel
theorem dX10_layerWith_9 : decode cX10_layerWith 9 = .ok (.invokevirtual 144, 3) := by decide +kernel
theorem dX10_layerWith_12 : decode cX10_layerWith 12 = .ok (.bipush (-5), 2) := by decide +kernel
theorem dX10_layerWith_14 : decode cX10_layerWith 14 = .ok (.if_icmp .ne 9, 3) := by decide +kernel
theorem dX10_layerWith_17 : decode cX10_layerWith 17 = .ok (.iinc 3 (-1), 3) := by decide +kernel
theorem dX10_layerWith_20 : decode cX10_layerWith 20 = .ok (.goto (-18), 3) := by decide +kernel
theorem dX10_layerWith_23 : decode cX10_layerWith 23 = .ok (.iload_n 3, 1) := by decide +kernel
theorem dX10_layerWith_24 : decode cX10_layerWith 24 = .ok (.ifCond .ge 8, 3) := by decide +kernel
theorem dX10_layerWith_27 : decode cX10_layerWith 27 = .ok (.bipush (-5), 2) := by decide +kernel
theorem dX10_layerWith_29 : decode cX10_layerWith 29 = .ok (.goto 4, 3) := by decide +kernel
theorem dX10_layerWith_32 : decode cX10_layerWith 32 = .ok (.iload_n 3, 1) := by decide +kernel
theorem dX10_layerWith_33 : decode cX10_layerWith 33 = .ok (.ireturn, 1) := by decide +kernel
set_option maxRecDepth 20000 in
theorem ggX10_layValue_X10_find : GoodIn wsX10_layValue wsX10_find := goodIn_r _ [6, 7, 8, 9, 10, 5, 11, 12, 13, 14, 15, 16, 17, 18, 1, 29, 30, 31, 32, 33, 34, 35, 36, 37, 38, 39, 40, 41, 42, 43, 44, 45, 46, 47, 48, 49] (by decide +kernel) (by decide +kernel)
set_option maxRecDepth 20000 in
theorem gX10_layValue_X10_find : GoodIn wsX10_layValue (wsV RX10 144 RX10 yX10_find wsX10_find) := goodIn_app (goodIn_of _ (by decide +kernel)) ggX10_layValue_X10_find
set_option maxRecDepth 20000 in
theorem ggX10_layValue_X10_valueOf : GoodIn wsX10_layValue wsX10_valueOf := goodIn_r _ [21, 12, 13, 5, 14] (by decide +kernel) (by decide +kernel)
set_option maxRecDepth 20000 in
theorem gX10_layValue_X10_valueOf : GoodIn wsX10_layValue (va_wsS RX10 141 yX10_valueOf wsX10_valueOf) := goodIn_app (goodIn_of _ (by decide +kernel)) ggX10_layValue_X10_valueOf
set_option maxRecDepth 20000 in
theorem ggX10_layValue_X10_copyText : GoodIn wsX10_layValue wsX10_copyText := goodIn_r _ [25, 1, 29, 30, 31, 32, 33, 34, 35, 36, 37, 38, 39, 40, 41, 42, 43, 44, 45, 46, 47, 48, 49] (by decide +kernel) (by decide +kernel)
set_option maxRecDepth 20000 in
theorem gX10_layValue_X10_copyText : GoodIn wsX10_layValue (wsV RX10 70 RX10 yX10_copyText wsX10_copyText) := goodIn_app (goodIn_of _ (by decide +kernel)) ggX10_layValue_X10_copyText
set_option maxRecDepth 20000 in
theorem ggX10_layValue_X10_at : GoodIn wsX10_layValue wsX10_at := goodIn_r _ [28] (by decide +kernel) (by decide +kernel)
set_option maxRecDepth 20000 in
theorem gX10_layValue_X10_at : GoodIn wsX10_layValue (va_wsS RX10 51 yX10_at wsX10_at) := goodIn_app (goodIn_of _ (by decide +kernel)) ggX10_layValue_X10_at
theorem dX10_layValue_0 : decode cX10_layValue 0 = .ok (.aload_n 0, 1) := by decide +kernel
theorem dX10_layValue_1 : decode cX10_layValue 1 = .ok (.iload_n 1, 1) := by decide +kernel
theorem dX10_layValue_2 : decode cX10_layValue 2 = .ok (.aload_n 0, 1) := by decide +kernel
theorem dX10_layValue_3 : decode cX10_layValue 3 = .ok (.iload_n 1, 1) := by decide +kernel
theorem dX10_layValue_4 : decode cX10_layValue 4 = .ok (.iload_n 2, 1) := by decide +kernel
theorem dX10_layValue_5 : decode cX10_layValue 5 = .ok (.invokevirtual 144, 3) := by decide +kernel
theorem dX10_layValue_8 : decode cX10_layValue 8 = .ok (.invokestatic 141, 3) := by decide +kernel
theorem dX10_layValue_11 : decode cX10_layValue 11 = .ok (.sipush 2107, 3) := by decide +kernel
theorem dX10_layValue_14 : decode cX10_layValue 14 = .ok (.invokevirtual 70, 3) := by decide +kernel
theorem dX10_layValue_17 : decode cX10_layValue 17 = .ok (.aload_n 0, 1) := by decide +kernel
theorem dX10_layValue_18 : decode cX10_layValue 18 = .ok (.sipush 2107, 3) := by decide +kernel
theorem dX10_layValue_21 : decode cX10_layValue 21 = .ok (.iload_n 3, 1) := by decide +kernel
theorem dX10_layValue_22 : decode cX10_layValue 22 = .ok (.invokestatic 51, 3) := by decide +kernel
theorem dX10_layValue_25 : decode cX10_layValue 25 = .ok (.invokevirtual 70, 3) := by decide +kernel
theorem dX10_layValue_28 : decode cX10_layValue 28 = .ok (.aload_n 0, 1) := by decide +kernel
theorem dX10_layValue_29 : decode cX10_layValue 29 = .ok (.getfield 8, 3) := by decide +kernel
theorem dX10_layValue_32 : decode cX10_layValue 32 = .ok (.sipush 2107, 3) := by decide +kernel
theorem dX10_layValue_35 : decode cX10_layValue 35 = .ok (.iaload, 1) := by decide +kernel
theorem dX10_layValue_36 : decode cX10_layValue 36 = .ok (.ireturn, 1) := by decide +kernel
set_option maxRecDepth 20000 in
theorem ggX10_get_X10_isLayer : GoodIn wsX10_get wsX10_isLayer := goodIn_r _ [4] (by decide +kernel) (by decide +kernel)
set_option maxRecDepth 20000 in
theorem gX10_get_X10_isLayer : GoodIn wsX10_get (va_wsS RX10 151 yX10_isLayer wsX10_isLayer) := goodIn_app (goodIn_of _ (by decide +kernel)) ggX10_get_X10_isLayer
set_option maxRecDepth 20000 in
theorem ggX10_get_X10_isSlot : GoodIn wsX10_get wsX10_isSlot := goodIn_r _ [7] (by decide +kernel) (by decide +kernel)
set_option maxRecDepth 20000 in
theorem gX10_get_X10_isSlot : GoodIn wsX10_get (va_wsS RX10 59 yX10_isSlot wsX10_isSlot) := goodIn_app (goodIn_of _ (by decide +kernel)) ggX10_get_X10_isSlot
set_option maxRecDepth 20000 in
theorem ggX10_get_X10_hasNothing : GoodIn wsX10_get wsX10_hasNothing := goodIn_r _ [11, 12, 13, 14, 3, 15, 52, 53, 54, 55, 56, 57, 58, 59, 60, 61, 62, 63, 64, 65, 66, 67, 68, 69, 70, 71, 72] (by decide +kernel) (by decide +kernel)
set_option maxRecDepth 20000 in
theorem gX10_get_X10_hasNothing : GoodIn wsX10_get (wsV RX10 63 RX10 yX10_hasNothing wsX10_hasNothing) := goodIn_app (goodIn_of _ (by decide +kernel)) ggX10_get_X10_hasNothing
set_option maxRecDepth 20000 in
theorem ggX10_get_X10_refusedNull : GoodIn wsX10_get wsX10_refusedNull := goodIn_r _ [19, 20, 52, 53, 54, 55, 56, 57, 58, 59, 60, 61, 62, 63, 64, 65, 66, 67, 68, 69, 70, 71, 72] (by decide +kernel) (by decide +kernel)
set_option maxRecDepth 20000 in
theorem gX10_get_X10_refusedNull : GoodIn wsX10_get (wsV RX10 176 RX10 yX10_refusedNull wsX10_refusedNull) := goodIn_app (goodIn_of _ (by decide +kernel)) ggX10_get_X10_refusedNull
set_option maxRecDepth 20000 in
theorem ggX10_get_X10_at : GoodIn wsX10_get wsX10_at := goodIn_r _ [15] (by decide +kernel) (by decide +kernel)
set_option maxRecDepth 20000 in
theorem gX10_get_X10_at : GoodIn wsX10_get (va_wsS RX10 51 yX10_at wsX10_at) := goodIn_app (goodIn_of _ (by decide +kernel)) ggX10_get_X10_at
set_option maxRecDepth 20000 in
theorem ggX10_get_X10_layerWith : GoodIn wsX10_get wsX10_layerWith := goodIn_r _ [24, 25, 26, 27, 3, 28, 29, 30, 31, 32, 33, 34, 35, 36, 37, 38, 39, 40, 12, 52, 53, 54, 55, 56, 57, 58, 59, 60, 61, 62, 63, 64, 65, 66, 67, 68, 69, 70, 71, 72] (by decide +kernel) (by decide +kernel)
set_option maxRecDepth 20000 in
theorem gX10_get_X10_layerWith : GoodIn wsX10_get (wsV RX10 179 RX10 yX10_layerWith wsX10_layerWith) := goodIn_app (goodIn_of _ (by decide +kernel)) ggX10_get_X10_layerWith
set_option maxRecDepth 20000 in
theorem ggX10_get_X10_layValue : GoodIn wsX10_get wsX10_layValue := goodIn_r _ [44, 12, 25, 26, 27, 3, 28, 29, 30, 31, 32, 33, 34, 35, 36, 37, 38, 39, 40, 45, 46, 47, 48, 49, 50, 51, 13, 14, 15, 52, 53, 54, 55, 56, 57, 58, 59, 60, 61, 62, 63, 64, 65, 66, 67, 68, 69, 70, 71, 72] (by decide +kernel) (by decide +kernel)
set_option maxRecDepth 20000 in
theorem gX10_get_X10_layValue : GoodIn wsX10_get (wsV RX10 182 RX10 yX10_layValue wsX10_layValue) := goodIn_app (goodIn_of _ (by decide +kernel)) ggX10_get_X10_layValue
theorem dX10_get_0 : decode cX10_get 0 = .ok (.iload_n 1, 1) := by decide +kernel
theorem dX10_get_1 : decode cX10_get 1 = .ok (.invokestatic 151, 3) := by decide +kernel
theorem dX10_get_4 : decode cX10_get 4 = .ok (.ifCond .eq 17, 3) := by decide +kernel
theorem dX10_get_7 : decode cX10_get 7 = .ok (.iload_n 2, 1) := by decide +kernel
theorem dX10_get_8 : decode cX10_get 8 = .ok (.invokestatic 59, 3) := by decide +kernel
theorem dX10_get_11 : decode cX10_get 11 = .ok (.ifCond .eq 10, 3) := by decide +kernel
theorem dX10_get_14 : decode cX10_get 14 = .ok (.iload_n 3, 1) := by decide +kernel
theorem dX10_get_15 : decode cX10_get 15 = .ok (.invokestatic 59, 3) := by decide +kernel
theorem dX10_get_18 : decode cX10_get 18 = .ok (.ifCond .ne 5, 3) := by decide +kernel
theorem dX10_get_21 : decode cX10_get 21 = .ok (.iconst (-1), 1) := by decide +kernel
theorem dX10_get_22 : decode cX10_get 22 = .ok (.ireturn, 1) := by decide +kernel
theorem dX10_get_23 : decode cX10_get 23 = .ok (.aload_n 0, 1) := by decide +kernel
theorem dX10_get_24 : decode cX10_get 24 = .ok (.iload_n 2, 1) := by decide +kernel
theorem dX10_get_25 : decode cX10_get 25 = .ok (.invokevirtual 63, 3) := by decide +kernel
theorem dX10_get_28 : decode cX10_get 28 = .ok (.ifCond .eq 8, 3) := by decide +kernel
theorem dX10_get_31 : decode cX10_get 31 = .ok (.aload_n 0, 1) := by decide +kernel
theorem dX10_get_32 : decode cX10_get 32 = .ok (.invokevirtual 176, 3) := by decide +kernel
theorem dX10_get_35 : decode cX10_get 35 = .ok (.ireturn, 1) := by decide +kernel
theorem dX10_get_36 : decode cX10_get 36 = .ok (.aload_n 0, 1) := by decide +kernel
theorem dX10_get_37 : decode cX10_get 37 = .ok (.iload_n 1, 1) := by decide +kernel
theorem dX10_get_38 : decode cX10_get 38 = .ok (.iload_n 2, 1) := by decide +kernel
theorem dX10_get_39 : decode cX10_get 39 = .ok (.invokestatic 51, 3) := by decide +kernel
theorem dX10_get_42 : decode cX10_get 42 = .ok (.invokevirtual 179, 3) := by decide +kernel
theorem dX10_get_45 : decode cX10_get 45 = .ok (.istore 4, 2) := by decide +kernel
theorem dX10_get_47 : decode cX10_get 47 = .ok (.iload 4, 2) := by decide +kernel
theorem dX10_get_49 : decode cX10_get 49 = .ok (.bipush (-5), 2) := by decide +kernel
theorem dX10_get_51 : decode cX10_get 51 = .ok (.if_icmp .ne 8, 3) := by decide +kernel
theorem dX10_get_54 : decode cX10_get 54 = .ok (.bipush (-5), 2) := by decide +kernel
theorem dX10_get_56 : decode cX10_get 56 = .ok (.goto 14, 3) := by decide +kernel
theorem dX10_get_59 : decode cX10_get 59 = .ok (.aload_n 0, 1) := by decide +kernel
theorem dX10_get_60 : decode cX10_get 60 = .ok (.iload 4, 2) := by decide +kernel
theorem dX10_get_62 : decode cX10_get 62 = .ok (.iload_n 2, 1) := by decide +kernel
theorem dX10_get_63 : decode cX10_get 63 = .ok (.invokestatic 51, 3) := by decide +kernel
theorem dX10_get_66 : decode cX10_get 66 = .ok (.iload_n 3, 1) := by decide +kernel
theorem dX10_get_67 : decode cX10_get 67 = .ok (.invokevirtual 182, 3) := by decide +kernel
theorem dX10_get_70 : decode cX10_get 70 = .ok (.ireturn, 1) := by decide +kernel
set_option maxRecDepth 20000 in
theorem ggX10_getOr_X10_isLayer : GoodIn wsX10_getOr wsX10_isLayer := goodIn_r _ [5] (by decide +kernel) (by decide +kernel)
set_option maxRecDepth 20000 in
theorem gX10_getOr_X10_isLayer : GoodIn wsX10_getOr (va_wsS RX10 151 yX10_isLayer wsX10_isLayer) := goodIn_app (goodIn_of _ (by decide +kernel)) ggX10_getOr_X10_isLayer
set_option maxRecDepth 20000 in
theorem ggX10_getOr_X10_isSlot : GoodIn wsX10_getOr wsX10_isSlot := goodIn_r _ [8] (by decide +kernel) (by decide +kernel)
set_option maxRecDepth 20000 in
theorem gX10_getOr_X10_isSlot : GoodIn wsX10_getOr (va_wsS RX10 59 yX10_isSlot wsX10_isSlot) := goodIn_app (goodIn_of _ (by decide +kernel)) ggX10_getOr_X10_isSlot
set_option maxRecDepth 20000 in
theorem ggX10_getOr_X10_hasNothing : GoodIn wsX10_getOr wsX10_hasNothing := goodIn_r _ [12, 1, 13, 14, 4, 15, 52, 53, 54, 55, 56, 57, 58, 59, 60, 61, 62, 63, 64, 65, 66, 67, 68, 69, 70, 71, 72] (by decide +kernel) (by decide +kernel)
set_option maxRecDepth 20000 in
theorem gX10_getOr_X10_hasNothing : GoodIn wsX10_getOr (wsV RX10 63 RX10 yX10_hasNothing wsX10_hasNothing) := goodIn_app (goodIn_of _ (by decide +kernel)) ggX10_getOr_X10_hasNothing
set_option maxRecDepth 20000 in
theorem ggX10_getOr_X10_refusedNull : GoodIn wsX10_getOr wsX10_refusedNull := goodIn_r _ [19, 20, 52, 53, 54, 55, 56, 57, 58, 59, 60, 61, 62, 63, 64, 65, 66, 67, 68, 69, 70, 71, 72] (by decide +kernel) (by decide +kernel)
set_option maxRecDepth 20000 in
theorem gX10_getOr_X10_refusedNull : GoodIn wsX10_getOr (wsV RX10 176 RX10 yX10_refusedNull wsX10_refusedNull) := goodIn_app (goodIn_of _ (by decide +kernel)) ggX10_getOr_X10_refusedNull
set_option maxRecDepth 20000 in
theorem ggX10_getOr_X10_at : GoodIn wsX10_getOr wsX10_at := goodIn_r _ [15] (by decide +kernel) (by decide +kernel)
set_option maxRecDepth 20000 in
theorem gX10_getOr_X10_at : GoodIn wsX10_getOr (va_wsS RX10 51 yX10_at wsX10_at) := goodIn_app (goodIn_of _ (by decide +kernel)) ggX10_getOr_X10_at
set_option maxRecDepth 20000 in
theorem ggX10_getOr_X10_layerWith : GoodIn wsX10_getOr wsX10_layerWith := goodIn_r _ [24, 25, 26, 27, 4, 28, 29, 30, 31, 32, 33, 34, 35, 36, 37, 38, 39, 40, 1, 52, 53, 54, 55, 56, 57, 58, 59, 60, 61, 62, 63, 64, 65, 66, 67, 68, 69, 70, 71, 72] (by decide +kernel) (by decide +kernel)
set_option maxRecDepth 20000 in
theorem gX10_getOr_X10_layerWith : GoodIn wsX10_getOr (wsV RX10 179 RX10 yX10_layerWith wsX10_layerWith) := goodIn_app (goodIn_of _ (by decide +kernel)) ggX10_getOr_X10_layerWith
set_option maxRecDepth 20000 in
theorem ggX10_getOr_X10_layValue : GoodIn wsX10_getOr wsX10_layValue := goodIn_r _ [44, 1, 25, 26, 27, 4, 28, 29, 30, 31, 32, 33, 34, 35, 36, 37, 38, 39, 40, 45, 46, 47, 48, 49, 50, 51, 13, 14, 15, 52, 53, 54, 55, 56, 57, 58, 59, 60, 61, 62, 63, 64, 65, 66, 67, 68, 69, 70, 71, 72] (by decide +kernel) (by decide +kernel)
set_option maxRecDepth 20000 in
theorem gX10_getOr_X10_layValue : GoodIn wsX10_getOr (wsV RX10 182 RX10 yX10_layValue wsX10_layValue) := goodIn_app (goodIn_of _ (by decide +kernel)) ggX10_getOr_X10_layValue
set_option maxRecDepth 20000 in
theorem ggX10_getOr_X10_copyText : GoodIn wsX10_getOr wsX10_copyText := goodIn_r _ [51, 1, 52, 53, 54, 55, 56, 57, 58, 59, 60, 61, 62, 63, 64, 65, 66, 67, 68, 69, 70, 71, 72] (by decide +kernel) (by decide +kernel)
set_option maxRecDepth 20000 in
theorem gX10_getOr_X10_copyText : GoodIn wsX10_getOr (wsV RX10 70 RX10 yX10_copyText wsX10_copyText) := goodIn_app (goodIn_of _ (by decide +kernel)) ggX10_getOr_X10_copyText
theorem dX10_getOr_0 : decode cX10_getOr 0 = .ok (.iload_n 1, 1) := by decide +kernel
theorem dX10_getOr_1 : decode cX10_getOr 1 = .ok (.invokestatic 151, 3) := by decide +kernel
theorem dX10_getOr_4 : decode cX10_getOr 4 = .ok (.ifCond .eq 25, 3) := by decide +kernel
theorem dX10_getOr_7 : decode cX10_getOr 7 = .ok (.iload_n 2, 1) := by decide +kernel
theorem dX10_getOr_8 : decode cX10_getOr 8 = .ok (.invokestatic 59, 3) := by decide +kernel
theorem dX10_getOr_11 : decode cX10_getOr 11 = .ok (.ifCond .eq 18, 3) := by decide +kernel
theorem dX10_getOr_14 : decode cX10_getOr 14 = .ok (.iload_n 3, 1) := by decide +kernel
theorem dX10_getOr_15 : decode cX10_getOr 15 = .ok (.invokestatic 59, 3) := by decide +kernel
theorem dX10_getOr_18 : decode cX10_getOr 18 = .ok (.ifCond .eq 11, 3) := by decide +kernel
theorem dX10_getOr_21 : decode cX10_getOr 21 = .ok (.iload 4, 2) := by decide +kernel
theorem dX10_getOr_23 : decode cX10_getOr 23 = .ok (.invokestatic 59, 3) := by decide +kernel
theorem dX10_getOr_26 : decode cX10_getOr 26 = .ok (.ifCond .ne 5, 3) := by decide +kernel
theorem dX10_getOr_29 : decode cX10_getOr 29 = .ok (.iconst (-1), 1) := by decide +kernel
theorem dX10_getOr_30 : decode cX10_getOr 30 = .ok (.ireturn, 1) := by decide +kernel
theorem dX10_getOr_31 : decode cX10_getOr 31 = .ok (.aload_n 0, 1) := by decide +kernel
theorem dX10_getOr_32 : decode cX10_getOr 32 = .ok (.iload_n 2, 1) := by decide +kernel
theorem dX10_getOr_33 : decode cX10_getOr 33 = .ok (.invokevirtual 63, 3) := by decide +kernel
theorem dX10_getOr_36 : decode cX10_getOr 36 = .ok (.ifCond .eq 8, 3) := by decide +kernel
theorem dX10_getOr_39 : decode cX10_getOr 39 = .ok (.aload_n 0, 1) := by decide +kernel
theorem dX10_getOr_40 : decode cX10_getOr 40 = .ok (.invokevirtual 176, 3) := by decide +kernel
theorem dX10_getOr_43 : decode cX10_getOr 43 = .ok (.ireturn, 1) := by decide +kernel
theorem dX10_getOr_44 : decode cX10_getOr 44 = .ok (.aload_n 0, 1) := by decide +kernel
theorem dX10_getOr_45 : decode cX10_getOr 45 = .ok (.iload_n 1, 1) := by decide +kernel
theorem dX10_getOr_46 : decode cX10_getOr 46 = .ok (.iload_n 2, 1) := by decide +kernel
theorem dX10_getOr_47 : decode cX10_getOr 47 = .ok (.invokestatic 51, 3) := by decide +kernel
theorem dX10_getOr_50 : decode cX10_getOr 50 = .ok (.invokevirtual 179, 3) := by decide +kernel
theorem dX10_getOr_53 : decode cX10_getOr 53 = .ok (.istore 5, 2) := by decide +kernel
theorem dX10_getOr_55 : decode cX10_getOr 55 = .ok (.iload 5, 2) := by decide +kernel
theorem dX10_getOr_57 : decode cX10_getOr 57 = .ok (.bipush (-5), 2) := by decide +kernel
theorem dX10_getOr_59 : decode cX10_getOr 59 = .ok (.if_icmp .eq 16, 3) := by decide +kernel
theorem dX10_getOr_62 : decode cX10_getOr 62 = .ok (.aload_n 0, 1) := by decide +kernel
theorem dX10_getOr_63 : decode cX10_getOr 63 = .ok (.iload 5, 2) := by decide +kernel
theorem dX10_getOr_65 : decode cX10_getOr 65 = .ok (.iload_n 2, 1) := by decide +kernel
theorem dX10_getOr_66 : decode cX10_getOr 66 = .ok (.invokestatic 51, 3) := by decide +kernel
theorem dX10_getOr_69 : decode cX10_getOr 69 = .ok (.iload 4, 2) := by decide +kernel
theorem dX10_getOr_71 : decode cX10_getOr 71 = .ok (.invokevirtual 182, 3) := by decide +kernel
theorem dX10_getOr_74 : decode cX10_getOr 74 = .ok (.ireturn, 1) := by decide +kernel
theorem dX10_getOr_75 : decode cX10_getOr 75 = .ok (.aload_n 0, 1) := by decide +kernel
theorem dX10_getOr_76 : decode cX10_getOr 76 = .ok (.iload_n 3, 1) := by decide +kernel
theorem dX10_getOr_77 : decode cX10_getOr 77 = .ok (.invokevirtual 63, 3) := by decide +kernel
theorem dX10_getOr_80 : decode cX10_getOr 80 = .ok (.ifCond .eq 6, 3) := by decide +kernel
theorem dX10_getOr_83 : decode cX10_getOr 83 = .ok (.bipush (-2), 2) := by decide +kernel
theorem dX10_getOr_85 : decode cX10_getOr 85 = .ok (.ireturn, 1) := by decide +kernel
theorem dX10_getOr_86 : decode cX10_getOr 86 = .ok (.aload_n 0, 1) := by decide +kernel
theorem dX10_getOr_87 : decode cX10_getOr 87 = .ok (.iload_n 3, 1) := by decide +kernel
theorem dX10_getOr_88 : decode cX10_getOr 88 = .ok (.invokestatic 51, 3) := by decide +kernel
theorem dX10_getOr_91 : decode cX10_getOr 91 = .ok (.iload 4, 2) := by decide +kernel
theorem dX10_getOr_93 : decode cX10_getOr 93 = .ok (.invokestatic 51, 3) := by decide +kernel
theorem dX10_getOr_96 : decode cX10_getOr 96 = .ok (.invokevirtual 70, 3) := by decide +kernel
theorem dX10_getOr_99 : decode cX10_getOr 99 = .ok (.aload_n 0, 1) := by decide +kernel
theorem dX10_getOr_100 : decode cX10_getOr 100 = .ok (.getfield 8, 3) := by decide +kernel
theorem dX10_getOr_103 : decode cX10_getOr 103 = .ok (.iload 4, 2) := by decide +kernel
theorem dX10_getOr_105 : decode cX10_getOr 105 = .ok (.invokestatic 51, 3) := by decide +kernel
theorem dX10_getOr_108 : decode cX10_getOr 108 = .ok (.iaload, 1) := by decide +kernel
theorem dX10_getOr_109 : decode cX10_getOr 109 = .ok (.ireturn, 1) := by decide +kernel
set_option maxRecDepth 20000 in
theorem ggX10_has_X10_isLayer : GoodIn wsX10_has wsX10_isLayer := goodIn_r _ [4] (by decide +kernel) (by decide +kernel)
set_option maxRecDepth 20000 in
theorem gX10_has_X10_isLayer : GoodIn wsX10_has (va_wsS RX10 151 yX10_isLayer wsX10_isLayer) := goodIn_app (goodIn_of _ (by decide +kernel)) ggX10_has_X10_isLayer
set_option maxRecDepth 20000 in
theorem ggX10_has_X10_isSlot : GoodIn wsX10_has wsX10_isSlot := goodIn_r _ [7] (by decide +kernel) (by decide +kernel)
set_option maxRecDepth 20000 in
theorem gX10_has_X10_isSlot : GoodIn wsX10_has (va_wsS RX10 59 yX10_isSlot wsX10_isSlot) := goodIn_app (goodIn_of _ (by decide +kernel)) ggX10_has_X10_isSlot
set_option maxRecDepth 20000 in
theorem ggX10_has_X10_hasNothing : GoodIn wsX10_has wsX10_hasNothing := goodIn_r _ [11, 12, 13, 14, 3, 15, 37, 38, 39, 40, 41, 42, 43, 44, 45, 46, 47, 48, 49, 50, 51, 52, 53, 54, 55, 56, 57] (by decide +kernel) (by decide +kernel)
set_option maxRecDepth 20000 in
theorem gX10_has_X10_hasNothing : GoodIn wsX10_has (wsV RX10 63 RX10 yX10_hasNothing wsX10_hasNothing) := goodIn_app (goodIn_of _ (by decide +kernel)) ggX10_has_X10_hasNothing
set_option maxRecDepth 20000 in
theorem ggX10_has_X10_refusedNull : GoodIn wsX10_has wsX10_refusedNull := goodIn_r _ [19, 20, 37, 38, 39, 40, 41, 42, 43, 44, 45, 46, 47, 48, 49, 50, 51, 52, 53, 54, 55, 56, 57] (by decide +kernel) (by decide +kernel)
set_option maxRecDepth 20000 in
theorem gX10_has_X10_refusedNull : GoodIn wsX10_has (wsV RX10 176 RX10 yX10_refusedNull wsX10_refusedNull) := goodIn_app (goodIn_of _ (by decide +kernel)) ggX10_has_X10_refusedNull
set_option maxRecDepth 20000 in
theorem ggX10_has_X10_at : GoodIn wsX10_has wsX10_at := goodIn_r _ [15] (by decide +kernel) (by decide +kernel)
set_option maxRecDepth 20000 in
theorem gX10_has_X10_at : GoodIn wsX10_has (va_wsS RX10 51 yX10_at wsX10_at) := goodIn_app (goodIn_of _ (by decide +kernel)) ggX10_has_X10_at
set_option maxRecDepth 20000 in
theorem ggX10_has_X10_find : GoodIn wsX10_has wsX10_find := goodIn_r _ [24, 25, 26, 27, 28, 3, 29, 30, 31, 32, 33, 34, 35, 36, 12, 37, 38, 39, 40, 41, 42, 43, 44, 45, 46, 47, 48, 49, 50, 51, 52, 53, 54, 55, 56, 57] (by decide +kernel) (by decide +kernel)
set_option maxRecDepth 20000 in
theorem gX10_has_X10_find : GoodIn wsX10_has (wsV RX10 144 RX10 yX10_find wsX10_find) := goodIn_app (goodIn_of _ (by decide +kernel)) ggX10_has_X10_find
theorem dX10_has_0 : decode cX10_has 0 = .ok (.iload_n 1, 1) := by decide +kernel
theorem dX10_has_1 : decode cX10_has 1 = .ok (.invokestatic 151, 3) := by decide +kernel
theorem dX10_has_4 : decode cX10_has 4 = .ok (.ifCond .eq 10, 3) := by decide +kernel
theorem dX10_has_7 : decode cX10_has 7 = .ok (.iload_n 2, 1) := by decide +kernel
theorem dX10_has_8 : decode cX10_has 8 = .ok (.invokestatic 59, 3) := by decide +kernel
theorem dX10_has_11 : decode cX10_has 11 = .ok (.ifCond .ne 5, 3) := by decide +kernel
theorem dX10_has_14 : decode cX10_has 14 = .ok (.iconst (-1), 1) := by decide +kernel
theorem dX10_has_15 : decode cX10_has 15 = .ok (.ireturn, 1) := by decide +kernel
theorem dX10_has_16 : decode cX10_has 16 = .ok (.aload_n 0, 1) := by decide +kernel
theorem dX10_has_17 : decode cX10_has 17 = .ok (.iload_n 2, 1) := by decide +kernel
theorem dX10_has_18 : decode cX10_has 18 = .ok (.invokevirtual 63, 3) := by decide +kernel
theorem dX10_has_21 : decode cX10_has 21 = .ok (.ifCond .eq 10, 3) := by decide +kernel
theorem dX10_has_24 : decode cX10_has 24 = .ok (.aload_n 0, 1) := by decide +kernel
theorem dX10_has_25 : decode cX10_has 25 = .ok (.invokevirtual 176, 3) := by decide +kernel
theorem dX10_has_28 : decode cX10_has 28 = .ok (.goto 22, 3) := by decide +kernel
theorem dX10_has_31 : decode cX10_has 31 = .ok (.aload_n 0, 1) := by decide +kernel
theorem dX10_has_32 : decode cX10_has 32 = .ok (.iload_n 1, 1) := by decide +kernel
theorem dX10_has_33 : decode cX10_has 33 = .ok (.iload_n 2, 1) := by decide +kernel
theorem dX10_has_34 : decode cX10_has 34 = .ok (.invokestatic 51, 3) := by decide +kernel
theorem dX10_has_37 : decode cX10_has 37 = .ok (.invokevirtual 144, 3) := by decide +kernel
theorem dX10_has_40 : decode cX10_has 40 = .ok (.bipush (-5), 2) := by decide +kernel
theorem dX10_has_42 : decode cX10_has 42 = .ok (.if_icmp .ne 7, 3) := by decide +kernel
theorem dX10_has_45 : decode cX10_has 45 = .ok (.iconst 0, 1) := by decide +kernel
theorem dX10_has_46 : decode cX10_has 46 = .ok (.goto 4, 3) := by decide +kernel
theorem dX10_has_49 : decode cX10_has 49 = .ok (.iconst 1, 1) := by decide +kernel
theorem dX10_has_50 : decode cX10_has 50 = .ok (.ireturn, 1) := by decide +kernel
set_option maxRecDepth 20000 in
theorem ggX10_layerOf_X10_isLayer : GoodIn wsX10_layerOf wsX10_isLayer := goodIn_r _ [4] (by decide +kernel) (by decide +kernel)
set_option maxRecDepth 20000 in
theorem gX10_layerOf_X10_isLayer : GoodIn wsX10_layerOf (va_wsS RX10 151 yX10_isLayer wsX10_isLayer) := goodIn_app (goodIn_of _ (by decide +kernel)) ggX10_layerOf_X10_isLayer
set_option maxRecDepth 20000 in
theorem ggX10_layerOf_X10_isSlot : GoodIn wsX10_layerOf wsX10_isSlot := goodIn_r _ [7] (by decide +kernel) (by decide +kernel)
set_option maxRecDepth 20000 in
theorem gX10_layerOf_X10_isSlot : GoodIn wsX10_layerOf (va_wsS RX10 59 yX10_isSlot wsX10_isSlot) := goodIn_app (goodIn_of _ (by decide +kernel)) ggX10_layerOf_X10_isSlot
set_option maxRecDepth 20000 in
theorem ggX10_layerOf_X10_hasNothing : GoodIn wsX10_layerOf wsX10_hasNothing := goodIn_r _ [11, 12, 13, 14, 3, 15, 41, 42, 43, 44, 45, 46, 47, 48, 49, 50, 51, 52, 53, 54, 55, 56, 57, 58, 59, 60, 61] (by decide +kernel) (by decide +kernel)
set_option maxRecDepth 20000 in
theorem gX10_layerOf_X10_hasNothing : GoodIn wsX10_layerOf (wsV RX10 63 RX10 yX10_hasNothing wsX10_hasNothing) := goodIn_app (goodIn_of _ (by decide +kernel)) ggX10_layerOf_X10_hasNothing
set_option maxRecDepth 20000 in
theorem ggX10_layerOf_X10_refusedNull : GoodIn wsX10_layerOf wsX10_refusedNull := goodIn_r _ [19, 20, 41, 42, 43, 44, 45, 46, 47, 48, 49, 50, 51, 52, 53, 54, 55, 56, 57, 58, 59, 60, 61] (by decide +kernel) (by decide +kernel)
set_option maxRecDepth 20000 in
theorem gX10_layerOf_X10_refusedNull : GoodIn wsX10_layerOf (wsV RX10 176 RX10 yX10_refusedNull wsX10_refusedNull) := goodIn_app (goodIn_of _ (by decide +kernel)) ggX10_layerOf_X10_refusedNull
set_option maxRecDepth 20000 in
theorem ggX10_layerOf_X10_at : GoodIn wsX10_layerOf wsX10_at := goodIn_r _ [15] (by decide +kernel) (by decide +kernel)
set_option maxRecDepth 20000 in
theorem gX10_layerOf_X10_at : GoodIn wsX10_layerOf (va_wsS RX10 51 yX10_at wsX10_at) := goodIn_app (goodIn_of _ (by decide +kernel)) ggX10_layerOf_X10_at
set_option maxRecDepth 20000 in
theorem ggX10_layerOf_X10_layerWith : GoodIn wsX10_layerOf wsX10_layerWith := goodIn_r _ [24, 25, 26, 27, 3, 28, 29, 30, 31, 32, 33, 34, 35, 36, 37, 38, 39, 40, 12, 41, 42, 43, 44, 45, 46, 47, 48, 49, 50, 51, 52, 53, 54, 55, 56, 57, 58, 59, 60, 61] (by decide +kernel) (by decide +kernel)
set_option maxRecDepth 20000 in
theorem gX10_layerOf_X10_layerWith : GoodIn wsX10_layerOf (wsV RX10 179 RX10 yX10_layerWith wsX10_layerWith) := goodIn_app (goodIn_of _ (by decide +kernel)) ggX10_layerOf_X10_layerWith
theorem dX10_layerOf_0 : decode cX10_layerOf 0 = .ok (.iload_n 1, 1) := by decide +kernel
theorem dX10_layerOf_1 : decode cX10_layerOf 1 = .ok (.invokestatic 151, 3) := by decide +kernel
theorem dX10_layerOf_4 : decode cX10_layerOf 4 = .ok (.ifCond .eq 10, 3) := by decide +kernel
theorem dX10_layerOf_7 : decode cX10_layerOf 7 = .ok (.iload_n 2, 1) := by decide +kernel
theorem dX10_layerOf_8 : decode cX10_layerOf 8 = .ok (.invokestatic 59, 3) := by decide +kernel
theorem dX10_layerOf_11 : decode cX10_layerOf 11 = .ok (.ifCond .ne 5, 3) := by decide +kernel
theorem dX10_layerOf_14 : decode cX10_layerOf 14 = .ok (.iconst (-1), 1) := by decide +kernel
theorem dX10_layerOf_15 : decode cX10_layerOf 15 = .ok (.ireturn, 1) := by decide +kernel
theorem dX10_layerOf_16 : decode cX10_layerOf 16 = .ok (.aload_n 0, 1) := by decide +kernel
theorem dX10_layerOf_17 : decode cX10_layerOf 17 = .ok (.iload_n 2, 1) := by decide +kernel
theorem dX10_layerOf_18 : decode cX10_layerOf 18 = .ok (.invokevirtual 63, 3) := by decide +kernel
theorem dX10_layerOf_21 : decode cX10_layerOf 21 = .ok (.ifCond .eq 10, 3) := by decide +kernel
theorem dX10_layerOf_24 : decode cX10_layerOf 24 = .ok (.aload_n 0, 1) := by decide +kernel
theorem dX10_layerOf_25 : decode cX10_layerOf 25 = .ok (.invokevirtual 176, 3) := by decide +kernel
theorem dX10_layerOf_28 : decode cX10_layerOf 28 = .ok (.goto 12, 3) := by decide +kernel
theorem dX10_layerOf_31 : decode cX10_layerOf 31 = .ok (.aload_n 0, 1) := by decide +kernel
theorem dX10_layerOf_32 : decode cX10_layerOf 32 = .ok (.iload_n 1, 1) := by decide +kernel
theorem dX10_layerOf_33 : decode cX10_layerOf 33 = .ok (.iload_n 2, 1) := by decide +kernel
theorem dX10_layerOf_34 : decode cX10_layerOf 34 = .ok (.invokestatic 51, 3) := by decide +kernel
theorem dX10_layerOf_37 : decode cX10_layerOf 37 = .ok (.invokevirtual 179, 3) := by decide +kernel
theorem dX10_layerOf_40 : decode cX10_layerOf 40 = .ok (.ireturn, 1) := by decide +kernel
set_option maxRecDepth 20000 in
theorem ggX10_set_X10_isLayer : GoodIn wsX10_set wsX10_isLayer := goodIn_r _ [6] (by decide +kernel) (by decide +kernel)
set_option maxRecDepth 20000 in
theorem gX10_set_X10_isLayer : GoodIn wsX10_set (va_wsS RX10 151 yX10_isLayer wsX10_isLayer) := goodIn_app (goodIn_of _ (by decide +kernel)) ggX10_set_X10_isLayer
set_option maxRecDepth 20000 in
theorem ggX10_set_X10_isSlot : GoodIn wsX10_set wsX10_isSlot := goodIn_r _ [9] (by decide +kernel) (by decide +kernel)
set_option maxRecDepth 20000 in
theorem gX10_set_X10_isSlot : GoodIn wsX10_set (va_wsS RX10 59 yX10_isSlot wsX10_isSlot) := goodIn_app (goodIn_of _ (by decide +kernel)) ggX10_set_X10_isSlot
set_option maxRecDepth 20000 in
theorem ggX10_set_X10_hasNothing : GoodIn wsX10_set wsX10_hasNothing := goodIn_r _ [13, 2, 14, 15, 5, 16, 52, 53, 54, 55, 56, 57, 58, 59, 60, 61, 62, 63, 64, 65, 66, 67, 68, 69, 70, 71, 72] (by decide +kernel) (by decide +kernel)
set_option maxRecDepth 20000 in
theorem gX10_set_X10_hasNothing : GoodIn wsX10_set (wsV RX10 63 RX10 yX10_hasNothing wsX10_hasNothing) := goodIn_app (goodIn_of _ (by decide +kernel)) ggX10_set_X10_hasNothing
set_option maxRecDepth 20000 in
theorem ggX10_set_X10_refusedNull : GoodIn wsX10_set wsX10_refusedNull := goodIn_r _ [20, 21, 52, 53, 54, 55, 56, 57, 58, 59, 60, 61, 62, 63, 64, 65, 66, 67, 68, 69, 70, 71, 72] (by decide +kernel) (by decide +kernel)
set_option maxRecDepth 20000 in
theorem gX10_set_X10_refusedNull : GoodIn wsX10_set (wsV RX10 176 RX10 yX10_refusedNull wsX10_refusedNull) := goodIn_app (goodIn_of _ (by decide +kernel)) ggX10_set_X10_refusedNull
set_option maxRecDepth 20000 in
theorem ggX10_set_X10_at : GoodIn wsX10_set wsX10_at := goodIn_r _ [16] (by decide +kernel) (by decide +kernel)
set_option maxRecDepth 20000 in
theorem gX10_set_X10_at : GoodIn wsX10_set (va_wsS RX10 51 yX10_at wsX10_at) := goodIn_app (goodIn_of _ (by decide +kernel)) ggX10_set_X10_at
set_option maxRecDepth 20000 in
theorem ggX10_set_X10_find : GoodIn wsX10_set wsX10_find := goodIn_r _ [25, 1, 26, 27, 28, 5, 29, 30, 31, 32, 33, 34, 35, 36, 2, 52, 53, 54, 55, 56, 57, 58, 59, 60, 61, 62, 63, 64, 65, 66, 67, 68, 69, 70, 71, 72] (by decide +kernel) (by decide +kernel)
set_option maxRecDepth 20000 in
theorem gX10_set_X10_find : GoodIn wsX10_set (wsV RX10 144 RX10 yX10_find wsX10_find) := goodIn_app (goodIn_of _ (by decide +kernel)) ggX10_set_X10_find
set_option maxRecDepth 20000 in
theorem ggX10_set_X10_copyText : GoodIn wsX10_set wsX10_copyText := goodIn_r _ [40, 2, 52, 53, 54, 55, 56, 57, 58, 59, 60, 61, 62, 63, 64, 65, 66, 67, 68, 69, 70, 71, 72] (by decide +kernel) (by decide +kernel)
set_option maxRecDepth 20000 in
theorem gX10_set_X10_copyText : GoodIn wsX10_set (wsV RX10 70 RX10 yX10_copyText wsX10_copyText) := goodIn_app (goodIn_of _ (by decide +kernel)) ggX10_set_X10_copyText
set_option maxRecDepth 20000 in
theorem ggX10_set_X10_valueOf : GoodIn wsX10_set wsX10_valueOf := goodIn_r _ [43, 30, 31, 5, 32] (by decide +kernel) (by decide +kernel)
set_option maxRecDepth 20000 in
theorem gX10_set_X10_valueOf : GoodIn wsX10_set (va_wsS RX10 141 yX10_valueOf wsX10_valueOf) := goodIn_app (goodIn_of _ (by decide +kernel)) ggX10_set_X10_valueOf
set_option maxRecDepth 20000 in
theorem ggX10_set_X10_put : GoodIn wsX10_set wsX10_put := goodIn_r _ [47, 1, 26, 27, 28, 5, 29, 30, 31, 32, 33, 34, 35, 36, 2, 22, 23, 24, 25, 48, 49, 50, 51, 37, 38, 39, 40, 41, 42, 43, 52, 53, 54, 55, 56, 57, 58, 59, 60, 61, 62, 63, 64, 65, 66, 67, 68, 69, 70, 71, 72] (by decide +kernel) (by decide +kernel)
set_option maxRecDepth 20000 in
theorem gX10_set_X10_put : GoodIn wsX10_set (wsV RX10 157 RX10 yX10_put wsX10_put) := goodIn_app (goodIn_of _ (by decide +kernel)) ggX10_set_X10_put
theorem dX10_set_0 : decode cX10_set 0 = .ok (.iload_n 1, 1) := by decide +kernel
theorem dX10_set_1 : decode cX10_set 1 = .ok (.invokestatic 151, 3) := by decide +kernel
theorem dX10_set_4 : decode cX10_set 4 = .ok (.ifCond .eq 25, 3) := by decide +kernel
theorem dX10_set_7 : decode cX10_set 7 = .ok (.iload_n 2, 1) := by decide +kernel
theorem dX10_set_8 : decode cX10_set 8 = .ok (.invokestatic 59, 3) := by decide +kernel
theorem dX10_set_11 : decode cX10_set 11 = .ok (.ifCond .eq 18, 3) := by decide +kernel
theorem dX10_set_14 : decode cX10_set 14 = .ok (.iload_n 3, 1) := by decide +kernel
theorem dX10_set_15 : decode cX10_set 15 = .ok (.invokestatic 59, 3) := by decide +kernel
theorem dX10_set_18 : decode cX10_set 18 = .ok (.ifCond .eq 11, 3) := by decide +kernel
theorem dX10_set_21 : decode cX10_set 21 = .ok (.iload 4, 2) := by decide +kernel
theorem dX10_set_23 : decode cX10_set 23 = .ok (.invokestatic 59, 3) := by decide +kernel
theorem dX10_set_26 : decode cX10_set 26 = .ok (.ifCond .ne 5, 3) := by decide +kernel
theorem dX10_set_29 : decode cX10_set 29 = .ok (.iconst (-1), 1) := by decide +kernel
theorem dX10_set_30 : decode cX10_set 30 = .ok (.ireturn, 1) := by decide +kernel
theorem dX10_set_31 : decode cX10_set 31 = .ok (.aload_n 0, 1) := by decide +kernel
theorem dX10_set_32 : decode cX10_set 32 = .ok (.iload_n 3, 1) := by decide +kernel
theorem dX10_set_33 : decode cX10_set 33 = .ok (.invokevirtual 63, 3) := by decide +kernel
theorem dX10_set_36 : decode cX10_set 36 = .ok (.ifCond .eq 6, 3) := by decide +kernel
theorem dX10_set_39 : decode cX10_set 39 = .ok (.bipush (-2), 2) := by decide +kernel
theorem dX10_set_41 : decode cX10_set 41 = .ok (.ireturn, 1) := by decide +kernel
theorem dX10_set_42 : decode cX10_set 42 = .ok (.aload_n 0, 1) := by decide +kernel
theorem dX10_set_43 : decode cX10_set 43 = .ok (.iload_n 2, 1) := by decide +kernel
theorem dX10_set_44 : decode cX10_set 44 = .ok (.invokevirtual 63, 3) := by decide +kernel
theorem dX10_set_47 : decode cX10_set 47 = .ok (.ifCond .eq 8, 3) := by decide +kernel
theorem dX10_set_50 : decode cX10_set 50 = .ok (.aload_n 0, 1) := by decide +kernel
theorem dX10_set_51 : decode cX10_set 51 = .ok (.invokevirtual 176, 3) := by decide +kernel
theorem dX10_set_54 : decode cX10_set 54 = .ok (.ireturn, 1) := by decide +kernel
theorem dX10_set_55 : decode cX10_set 55 = .ok (.aload_n 0, 1) := by decide +kernel
theorem dX10_set_56 : decode cX10_set 56 = .ok (.iload_n 1, 1) := by decide +kernel
theorem dX10_set_57 : decode cX10_set 57 = .ok (.iload_n 2, 1) := by decide +kernel
theorem dX10_set_58 : decode cX10_set 58 = .ok (.invokestatic 51, 3) := by decide +kernel
theorem dX10_set_61 : decode cX10_set 61 = .ok (.invokevirtual 144, 3) := by decide +kernel
theorem dX10_set_64 : decode cX10_set 64 = .ok (.istore 5, 2) := by decide +kernel
theorem dX10_set_66 : decode cX10_set 66 = .ok (.iload 5, 2) := by decide +kernel
theorem dX10_set_68 : decode cX10_set 68 = .ok (.bipush (-5), 2) := by decide +kernel
theorem dX10_set_70 : decode cX10_set 70 = .ok (.if_icmp .ne 17, 3) := by decide +kernel
theorem dX10_set_73 : decode cX10_set 73 = .ok (.aload_n 0, 1) := by decide +kernel
theorem dX10_set_74 : decode cX10_set 74 = .ok (.getfield 14, 3) := by decide +kernel
theorem dX10_set_77 : decode cX10_set 77 = .ok (.iload_n 1, 1) := by decide +kernel
theorem dX10_set_78 : decode cX10_set 78 = .ok (.iaload, 1) := by decide +kernel
theorem dX10_set_79 : decode cX10_set 79 = .ok (.bipush 40, 2) := by decide +kernel
theorem dX10_set_81 : decode cX10_set 81 = .ok (.if_icmp .ne 6, 3) := by decide +kernel
theorem dX10_set_84 : decode cX10_set 84 = .ok (.bipush (-3), 2) := by decide +kernel
theorem dX10_set_86 : decode cX10_set 86 = .ok (.ireturn, 1) := by decide +kernel
theorem dX10_set_87 : decode cX10_set 87 = .ok (.aload_n 0, 1) := by decide +kernel
theorem dX10_set_88 : decode cX10_set 88 = .ok (.iload_n 2, 1) := by decide +kernel
theorem dX10_set_89 : decode cX10_set 89 = .ok (.invokestatic 51, 3) := by decide +kernel
theorem dX10_set_92 : decode cX10_set 92 = .ok (.sipush 1806, 3) := by decide +kernel
theorem dX10_set_95 : decode cX10_set 95 = .ok (.invokevirtual 70, 3) := by decide +kernel
theorem dX10_set_98 : decode cX10_set 98 = .ok (.aload_n 0, 1) := by decide +kernel
theorem dX10_set_99 : decode cX10_set 99 = .ok (.iload_n 3, 1) := by decide +kernel
theorem dX10_set_100 : decode cX10_set 100 = .ok (.invokestatic 51, 3) := by decide +kernel
theorem dX10_set_103 : decode cX10_set 103 = .ok (.sipush 2107, 3) := by decide +kernel
theorem dX10_set_106 : decode cX10_set 106 = .ok (.invokevirtual 70, 3) := by decide +kernel
theorem dX10_set_109 : decode cX10_set 109 = .ok (.iload 5, 2) := by decide +kernel
theorem dX10_set_111 : decode cX10_set 111 = .ok (.bipush (-5), 2) := by decide +kernel
theorem dX10_set_113 : decode cX10_set 113 = .ok (.if_icmp .ne 18, 3) := by decide +kernel
theorem dX10_set_116 : decode cX10_set 116 = .ok (.aload_n 0, 1) := by decide +kernel
theorem dX10_set_117 : decode cX10_set 117 = .ok (.getfield 8, 3) := by decide +kernel
theorem dX10_set_120 : decode cX10_set 120 = .ok (.iload 4, 2) := by decide +kernel
theorem dX10_set_122 : decode cX10_set 122 = .ok (.invokestatic 51, 3) := by decide +kernel
theorem dX10_set_125 : decode cX10_set 125 = .ok (.bipush (-5), 2) := by decide +kernel
theorem dX10_set_127 : decode cX10_set 127 = .ok (.iastore, 1) := by decide +kernel
theorem dX10_set_128 : decode cX10_set 128 = .ok (.goto 18, 3) := by decide +kernel
theorem dX10_set_131 : decode cX10_set 131 = .ok (.aload_n 0, 1) := by decide +kernel
theorem dX10_set_132 : decode cX10_set 132 = .ok (.iload_n 1, 1) := by decide +kernel
theorem dX10_set_133 : decode cX10_set 133 = .ok (.iload 5, 2) := by decide +kernel
theorem dX10_set_135 : decode cX10_set 135 = .ok (.invokestatic 141, 3) := by decide +kernel
theorem dX10_set_138 : decode cX10_set 138 = .ok (.iload 4, 2) := by decide +kernel
theorem dX10_set_140 : decode cX10_set 140 = .ok (.invokestatic 51, 3) := by decide +kernel
theorem dX10_set_143 : decode cX10_set 143 = .ok (.invokevirtual 70, 3) := by decide +kernel
theorem dX10_set_146 : decode cX10_set 146 = .ok (.aload_n 0, 1) := by decide +kernel
theorem dX10_set_147 : decode cX10_set 147 = .ok (.iload_n 1, 1) := by decide +kernel
theorem dX10_set_148 : decode cX10_set 148 = .ok (.sipush 1806, 3) := by decide +kernel
theorem dX10_set_151 : decode cX10_set 151 = .ok (.sipush 2107, 3) := by decide +kernel
theorem dX10_set_154 : decode cX10_set 154 = .ok (.invokevirtual 157, 3) := by decide +kernel
theorem dX10_set_157 : decode cX10_set 157 = .ok (.pop, 1) := by decide +kernel
theorem dX10_set_158 : decode cX10_set 158 = .ok (.aload_n 0, 1) := by decide +kernel
theorem dX10_set_159 : decode cX10_set 159 = .ok (.getfield 14, 3) := by decide +kernel
theorem dX10_set_162 : decode cX10_set 162 = .ok (.iload_n 1, 1) := by decide +kernel
theorem dX10_set_163 : decode cX10_set 163 = .ok (.iaload, 1) := by decide +kernel
theorem dX10_set_164 : decode cX10_set 164 = .ok (.ireturn, 1) := by decide +kernel
set_option maxRecDepth 20000 in
theorem ggX10_drop_X10_isLayer : GoodIn wsX10_drop wsX10_isLayer := goodIn_r _ [5] (by decide +kernel) (by decide +kernel)
set_option maxRecDepth 20000 in
theorem gX10_drop_X10_isLayer : GoodIn wsX10_drop (va_wsS RX10 151 yX10_isLayer wsX10_isLayer) := goodIn_app (goodIn_of _ (by decide +kernel)) ggX10_drop_X10_isLayer
set_option maxRecDepth 20000 in
theorem ggX10_drop_X10_isSlot : GoodIn wsX10_drop wsX10_isSlot := goodIn_r _ [8] (by decide +kernel) (by decide +kernel)
set_option maxRecDepth 20000 in
theorem gX10_drop_X10_isSlot : GoodIn wsX10_drop (va_wsS RX10 59 yX10_isSlot wsX10_isSlot) := goodIn_app (goodIn_of _ (by decide +kernel)) ggX10_drop_X10_isSlot
set_option maxRecDepth 20000 in
theorem ggX10_drop_X10_hasNothing : GoodIn wsX10_drop wsX10_hasNothing := goodIn_r _ [12, 13, 14, 15, 4, 16, 52, 53, 54, 55, 56, 57, 58, 59, 60, 61, 62, 63, 64, 65, 66, 67, 68, 69, 70, 71, 72] (by decide +kernel) (by decide +kernel)
set_option maxRecDepth 20000 in
theorem gX10_drop_X10_hasNothing : GoodIn wsX10_drop (wsV RX10 63 RX10 yX10_hasNothing wsX10_hasNothing) := goodIn_app (goodIn_of _ (by decide +kernel)) ggX10_drop_X10_hasNothing
set_option maxRecDepth 20000 in
theorem ggX10_drop_X10_refusedNull : GoodIn wsX10_drop wsX10_refusedNull := goodIn_r _ [20, 21, 52, 53, 54, 55, 56, 57, 58, 59, 60, 61, 62, 63, 64, 65, 66, 67, 68, 69, 70, 71, 72] (by decide +kernel) (by decide +kernel)
set_option maxRecDepth 20000 in
theorem gX10_drop_X10_refusedNull : GoodIn wsX10_drop (wsV RX10 176 RX10 yX10_refusedNull wsX10_refusedNull) := goodIn_app (goodIn_of _ (by decide +kernel)) ggX10_drop_X10_refusedNull
set_option maxRecDepth 20000 in
theorem ggX10_drop_X10_at : GoodIn wsX10_drop wsX10_at := goodIn_r _ [16] (by decide +kernel) (by decide +kernel)
set_option maxRecDepth 20000 in
theorem gX10_drop_X10_at : GoodIn wsX10_drop (va_wsS RX10 51 yX10_at wsX10_at) := goodIn_app (goodIn_of _ (by decide +kernel)) ggX10_drop_X10_at
set_option maxRecDepth 20000 in
theorem ggX10_drop_X10_find : GoodIn wsX10_drop wsX10_find := goodIn_r _ [25, 1, 26, 27, 28, 4, 29, 30, 31, 32, 33, 34, 35, 36, 13, 52, 53, 54, 55, 56, 57, 58, 59, 60, 61, 62, 63, 64, 65, 66, 67, 68, 69, 70, 71, 72] (by decide +kernel) (by decide +kernel)
set_option maxRecDepth 20000 in
theorem gX10_drop_X10_find : GoodIn wsX10_drop (wsV RX10 144 RX10 yX10_find wsX10_find) := goodIn_app (goodIn_of _ (by decide +kernel)) ggX10_drop_X10_find
set_option maxRecDepth 20000 in
theorem ggX10_drop_X10_valueOf : GoodIn wsX10_drop wsX10_valueOf := goodIn_r _ [39, 30, 31, 4, 32] (by decide +kernel) (by decide +kernel)
set_option maxRecDepth 20000 in
theorem gX10_drop_X10_valueOf : GoodIn wsX10_drop (va_wsS RX10 141 yX10_valueOf wsX10_valueOf) := goodIn_app (goodIn_of _ (by decide +kernel)) ggX10_drop_X10_valueOf
set_option maxRecDepth 20000 in
theorem ggX10_drop_X10_copyText : GoodIn wsX10_drop wsX10_copyText := goodIn_r _ [43, 13, 52, 53, 54, 55, 56, 57, 58, 59, 60, 61, 62, 63, 64, 65, 66, 67, 68, 69, 70, 71, 72] (by decide +kernel) (by decide +kernel)
set_option maxRecDepth 20000 in
theorem gX10_drop_X10_copyText : GoodIn wsX10_drop (wsV RX10 70 RX10 yX10_copyText wsX10_copyText) := goodIn_app (goodIn_of _ (by decide +kernel)) ggX10_drop_X10_copyText
set_option maxRecDepth 20000 in
theorem ggX10_drop_X10_take : GoodIn wsX10_drop wsX10_take := goodIn_r _ [47, 1, 48, 49, 50, 4, 51, 30, 31, 32, 40, 41, 42, 43, 13, 37, 38, 39, 52, 53, 54, 55, 56, 57, 58, 59, 60, 61, 62, 63, 64, 65, 66, 67, 68, 69, 70, 71, 72] (by decide +kernel) (by decide +kernel)
set_option maxRecDepth 20000 in
theorem gX10_drop_X10_take : GoodIn wsX10_drop (wsV RX10 185 RX10 yX10_take wsX10_take) := goodIn_app (goodIn_of _ (by decide +kernel)) ggX10_drop_X10_take
theorem dX10_drop_0 : decode cX10_drop 0 = .ok (.iload_n 1, 1) := by decide +kernel
theorem dX10_drop_1 : decode cX10_drop 1 = .ok (.invokestatic 151, 3) := by decide +kernel
theorem dX10_drop_4 : decode cX10_drop 4 = .ok (.ifCond .eq 17, 3) := by decide +kernel
theorem dX10_drop_7 : decode cX10_drop 7 = .ok (.iload_n 2, 1) := by decide +kernel
theorem dX10_drop_8 : decode cX10_drop 8 = .ok (.invokestatic 59, 3) := by decide +kernel
theorem dX10_drop_11 : decode cX10_drop 11 = .ok (.ifCond .eq 10, 3) := by decide +kernel
theorem dX10_drop_14 : decode cX10_drop 14 = .ok (.iload_n 3, 1) := by decide +kernel
theorem dX10_drop_15 : decode cX10_drop 15 = .ok (.invokestatic 59, 3) := by decide +kernel
theorem dX10_drop_18 : decode cX10_drop 18 = .ok (.ifCond .ne 5, 3) := by decide +kernel
theorem dX10_drop_21 : decode cX10_drop 21 = .ok (.iconst (-1), 1) := by decide +kernel
theorem dX10_drop_22 : decode cX10_drop 22 = .ok (.ireturn, 1) := by decide +kernel
theorem dX10_drop_23 : decode cX10_drop 23 = .ok (.aload_n 0, 1) := by decide +kernel
theorem dX10_drop_24 : decode cX10_drop 24 = .ok (.iload_n 2, 1) := by decide +kernel
theorem dX10_drop_25 : decode cX10_drop 25 = .ok (.invokevirtual 63, 3) := by decide +kernel
theorem dX10_drop_28 : decode cX10_drop 28 = .ok (.ifCond .eq 8, 3) := by decide +kernel
theorem dX10_drop_31 : decode cX10_drop 31 = .ok (.aload_n 0, 1) := by decide +kernel
theorem dX10_drop_32 : decode cX10_drop 32 = .ok (.invokevirtual 176, 3) := by decide +kernel
theorem dX10_drop_35 : decode cX10_drop 35 = .ok (.ireturn, 1) := by decide +kernel
theorem dX10_drop_36 : decode cX10_drop 36 = .ok (.aload_n 0, 1) := by decide +kernel
theorem dX10_drop_37 : decode cX10_drop 37 = .ok (.iload_n 1, 1) := by decide +kernel
theorem dX10_drop_38 : decode cX10_drop 38 = .ok (.iload_n 2, 1) := by decide +kernel
theorem dX10_drop_39 : decode cX10_drop 39 = .ok (.invokestatic 51, 3) := by decide +kernel
theorem dX10_drop_42 : decode cX10_drop 42 = .ok (.invokevirtual 144, 3) := by decide +kernel
theorem dX10_drop_45 : decode cX10_drop 45 = .ok (.istore 4, 2) := by decide +kernel
theorem dX10_drop_47 : decode cX10_drop 47 = .ok (.iload 4, 2) := by decide +kernel
theorem dX10_drop_49 : decode cX10_drop 49 = .ok (.bipush (-5), 2) := by decide +kernel
theorem dX10_drop_51 : decode cX10_drop 51 = .ok (.if_icmp .ne 6, 3) := by decide +kernel
theorem dX10_drop_54 : decode cX10_drop 54 = .ok (.bipush (-5), 2) := by decide +kernel
theorem dX10_drop_56 : decode cX10_drop 56 = .ok (.ireturn, 1) := by decide +kernel
theorem dX10_drop_57 : decode cX10_drop 57 = .ok (.aload_n 0, 1) := by decide +kernel
theorem dX10_drop_58 : decode cX10_drop 58 = .ok (.iload_n 1, 1) := by decide +kernel
theorem dX10_drop_59 : decode cX10_drop 59 = .ok (.iload 4, 2) := by decide +kernel
theorem dX10_drop_61 : decode cX10_drop 61 = .ok (.invokestatic 141, 3) := by decide +kernel
theorem dX10_drop_64 : decode cX10_drop 64 = .ok (.iload_n 3, 1) := by decide +kernel
theorem dX10_drop_65 : decode cX10_drop 65 = .ok (.invokestatic 51, 3) := by decide +kernel
theorem dX10_drop_68 : decode cX10_drop 68 = .ok (.invokevirtual 70, 3) := by decide +kernel
theorem dX10_drop_71 : decode cX10_drop 71 = .ok (.aload_n 0, 1) := by decide +kernel
theorem dX10_drop_72 : decode cX10_drop 72 = .ok (.iload_n 1, 1) := by decide +kernel
theorem dX10_drop_73 : decode cX10_drop 73 = .ok (.iload 4, 2) := by decide +kernel
theorem dX10_drop_75 : decode cX10_drop 75 = .ok (.invokevirtual 185, 3) := by decide +kernel
theorem dX10_drop_78 : decode cX10_drop 78 = .ok (.aload_n 0, 1) := by decide +kernel
theorem dX10_drop_79 : decode cX10_drop 79 = .ok (.getfield 14, 3) := by decide +kernel
theorem dX10_drop_82 : decode cX10_drop 82 = .ok (.iload_n 1, 1) := by decide +kernel
theorem dX10_drop_83 : decode cX10_drop 83 = .ok (.iaload, 1) := by decide +kernel
theorem dX10_drop_84 : decode cX10_drop 84 = .ok (.ireturn, 1) := by decide +kernel
set_option maxRecDepth 20000 in
theorem ggX10_empty_X10_isLayer : GoodIn wsX10_empty wsX10_isLayer := goodIn_r _ [5] (by decide +kernel) (by decide +kernel)
set_option maxRecDepth 20000 in
theorem gX10_empty_X10_isLayer : GoodIn wsX10_empty (va_wsS RX10 151 yX10_isLayer wsX10_isLayer) := goodIn_app (goodIn_of _ (by decide +kernel)) ggX10_empty_X10_isLayer
theorem dX10_empty_0 : decode cX10_empty 0 = .ok (.iload_n 1, 1) := by decide +kernel
theorem dX10_empty_1 : decode cX10_empty 1 = .ok (.invokestatic 151, 3) := by decide +kernel
theorem dX10_empty_4 : decode cX10_empty 4 = .ok (.ifCond .ne 5, 3) := by decide +kernel
theorem dX10_empty_7 : decode cX10_empty 7 = .ok (.iconst (-1), 1) := by decide +kernel
theorem dX10_empty_8 : decode cX10_empty 8 = .ok (.ireturn, 1) := by decide +kernel
theorem dX10_empty_9 : decode cX10_empty 9 = .ok (.aload_n 0, 1) := by decide +kernel
theorem dX10_empty_10 : decode cX10_empty 10 = .ok (.getfield 14, 3) := by decide +kernel
theorem dX10_empty_13 : decode cX10_empty 13 = .ok (.iload_n 1, 1) := by decide +kernel
theorem dX10_empty_14 : decode cX10_empty 14 = .ok (.iaload, 1) := by decide +kernel
theorem dX10_empty_15 : decode cX10_empty 15 = .ok (.istore_n 2, 1) := by decide +kernel
theorem dX10_empty_16 : decode cX10_empty 16 = .ok (.aload_n 0, 1) := by decide +kernel
theorem dX10_empty_17 : decode cX10_empty 17 = .ok (.getfield 14, 3) := by decide +kernel
theorem dX10_empty_20 : decode cX10_empty 20 = .ok (.iload_n 1, 1) := by decide +kernel
theorem dX10_empty_21 : decode cX10_empty 21 = .ok (.iconst 0, 1) := by decide +kernel
theorem dX10_empty_22 : decode cX10_empty 22 = .ok (.iastore, 1) := by decide +kernel
theorem dX10_empty_23 : decode cX10_empty 23 = .ok (.iload_n 2, 1) := by decide +kernel
theorem dX10_empty_24 : decode cX10_empty 24 = .ok (.ireturn, 1) := by decide +kernel
set_option maxRecDepth 20000 in
theorem ggX10_size_X10_isLayer : GoodIn wsX10_size wsX10_isLayer := goodIn_r _ [5] (by decide +kernel) (by decide +kernel)
set_option maxRecDepth 20000 in
theorem gX10_size_X10_isLayer : GoodIn wsX10_size (va_wsS RX10 151 yX10_isLayer wsX10_isLayer) := goodIn_app (goodIn_of _ (by decide +kernel)) ggX10_size_X10_isLayer
theorem dX10_size_0 : decode cX10_size 0 = .ok (.iload_n 1, 1) := by decide +kernel
theorem dX10_size_1 : decode cX10_size 1 = .ok (.invokestatic 151, 3) := by decide +kernel
theorem dX10_size_4 : decode cX10_size 4 = .ok (.ifCond .eq 12, 3) := by decide +kernel
theorem dX10_size_7 : decode cX10_size 7 = .ok (.aload_n 0, 1) := by decide +kernel
theorem dX10_size_8 : decode cX10_size 8 = .ok (.getfield 14, 3) := by decide +kernel
theorem dX10_size_11 : decode cX10_size 11 = .ok (.iload_n 1, 1) := by decide +kernel
theorem dX10_size_12 : decode cX10_size 12 = .ok (.iaload, 1) := by decide +kernel
theorem dX10_size_13 : decode cX10_size 13 = .ok (.goto 4, 3) := by decide +kernel
theorem dX10_size_16 : decode cX10_size 16 = .ok (.iconst (-1), 1) := by decide +kernel
theorem dX10_size_17 : decode cX10_size 17 = .ok (.ireturn, 1) := by decide +kernel
set_option maxRecDepth 20000 in
theorem ggX10_leastLayer_X10_entryOf : GoodIn wsX10_leastLayer wsX10_entryOf := goodIn_r _ [6] (by decide +kernel) (by decide +kernel)
set_option maxRecDepth 20000 in
theorem gX10_leastLayer_X10_entryOf : GoodIn wsX10_leastLayer (va_wsS RX10 135 yX10_entryOf wsX10_entryOf) := goodIn_app (goodIn_of _ (by decide +kernel)) ggX10_leastLayer_X10_entryOf
set_option maxRecDepth 20000 in
theorem ggX10_leastLayer_X10_compare : GoodIn wsX10_leastLayer wsX10_compare := goodIn_r _ [10, 11, 12, 13, 14, 15, 16, 17, 18, 19, 20, 21, 22, 23, 24, 25, 26, 27, 28, 29, 30, 31, 32] (by decide +kernel) (by decide +kernel)
set_option maxRecDepth 20000 in
theorem gX10_leastLayer_X10_compare : GoodIn wsX10_leastLayer (wsV RX10 73 RX10 yX10_compare wsX10_compare) := goodIn_app (goodIn_of _ (by decide +kernel)) ggX10_leastLayer_X10_compare
theorem dX10_leastLayer_0 : decode cX10_leastLayer 0 = .ok (.bipush (-5), 2) := by decide +kernel
theorem dX10_leastLayer_2 : decode cX10_leastLayer 2 = .ok (.istore_n 2, 1) := by decide +kernel
theorem dX10_leastLayer_3 : decode cX10_leastLayer 3 = .ok (.iconst 0, 1) := by decide +kernel
theorem dX10_leastLayer_4 : decode cX10_leastLayer 4 = .ok (.istore_n 3, 1) := by decide +kernel
theorem dX10_leastLayer_5 : decode cX10_leastLayer 5 = .ok (.iload_n 3, 1) := by decide +kernel
theorem dX10_leastLayer_6 : decode cX10_leastLayer 6 = .ok (.iload_n 1, 1) := by decide +kernel
theorem dX10_leastLayer_7 : decode cX10_leastLayer 7 = .ok (.if_icmp .gt 75, 3) := by decide +kernel
theorem dX10_leastLayer_10 : decode cX10_leastLayer 10 = .ok (.aload_n 0, 1) := by decide +kernel
theorem dX10_leastLayer_11 : decode cX10_leastLayer 11 = .ok (.getfield 48, 3) := by decide +kernel
theorem dX10_leastLayer_14 : decode cX10_leastLayer 14 = .ok (.iload_n 3, 1) := by decide +kernel
theorem dX10_leastLayer_15 : decode cX10_leastLayer 15 = .ok (.iaload, 1) := by decide +kernel
theorem dX10_leastLayer_16 : decode cX10_leastLayer 16 = .ok (.aload_n 0, 1) := by decide +kernel
theorem dX10_leastLayer_17 : decode cX10_leastLayer 17 = .ok (.getfield 14, 3) := by decide +kernel
theorem dX10_leastLayer_20 : decode cX10_leastLayer 20 = .ok (.iload_n 3, 1) := by decide +kernel
theorem dX10_leastLayer_21 : decode cX10_leastLayer 21 = .ok (.iaload, 1) := by decide +kernel
theorem dX10_leastLayer_22 : decode cX10_leastLayer 22 = .ok (.if_icmp .ge 40, 3) := by decide +kernel
theorem dX10_leastLayer_25 : decode cX10_leastLayer 25 = .ok (.iload_n 2, 1) := by decide +kernel
theorem dX10_leastLayer_26 : decode cX10_leastLayer 26 = .ok (.bipush (-5), 2) := by decide +kernel
theorem dX10_leastLayer_28 : decode cX10_leastLayer 28 = .ok (.if_icmp .eq 30, 3) := by decide +kernel
theorem dX10_leastLayer_31 : decode cX10_leastLayer 31 = .ok (.aload_n 0, 1) := by decide +kernel
theorem dX10_leastLayer_32 : decode cX10_leastLayer 32 = .ok (.iload_n 3, 1) := by decide +kernel
theorem dX10_leastLayer_33 : decode cX10_leastLayer 33 = .ok (.aload_n 0, 1) := by decide +kernel
theorem dX10_leastLayer_34 : decode cX10_leastLayer 34 = .ok (.getfield 48, 3) := by decide +kernel
theorem dX10_leastLayer_37 : decode cX10_leastLayer 37 = .ok (.iload_n 3, 1) := by decide +kernel
theorem dX10_leastLayer_38 : decode cX10_leastLayer 38 = .ok (.iaload, 1) := by decide +kernel
theorem dX10_leastLayer_39 : decode cX10_leastLayer 39 = .ok (.invokestatic 135, 3) := by decide +kernel
theorem dX10_leastLayer_42 : decode cX10_leastLayer 42 = .ok (.iload_n 2, 1) := by decide +kernel
theorem dX10_leastLayer_43 : decode cX10_leastLayer 43 = .ok (.aload_n 0, 1) := by decide +kernel
theorem dX10_leastLayer_44 : decode cX10_leastLayer 44 = .ok (.getfield 48, 3) := by decide +kernel
theorem dX10_leastLayer_47 : decode cX10_leastLayer 47 = .ok (.iload_n 2, 1) := by decide +kernel
theorem dX10_leastLayer_48 : decode cX10_leastLayer 48 = .ok (.iaload, 1) := by decide +kernel
theorem dX10_leastLayer_49 : decode cX10_leastLayer 49 = .ok (.invokestatic 135, 3) := by decide +kernel
theorem dX10_leastLayer_52 : decode cX10_leastLayer 52 = .ok (.invokevirtual 73, 3) := by decide +kernel
theorem dX10_leastLayer_55 : decode cX10_leastLayer 55 = .ok (.ifCond .ge 7, 3) := by decide +kernel
theorem dX10_leastLayer_58 : decode cX10_leastLayer 58 = .ok (.iconst 1, 1) := by decide +kernel
theorem dX10_leastLayer_59 : decode cX10_leastLayer 59 = .ok (.goto 4, 3) := by decide +kernel
theorem dX10_leastLayer_62 : decode cX10_leastLayer 62 = .ok (.iconst 0, 1) := by decide +kernel
theorem dX10_leastLayer_63 : decode cX10_leastLayer 63 = .ok (.istore 4, 2) := by decide +kernel
theorem dX10_leastLayer_65 : decode cX10_leastLayer 65 = .ok (.iload 4, 2) := by decide +kernel
theorem dX10_leastLayer_67 : decode cX10_leastLayer 67 = .ok (.ifCond .eq 7, 3) := by decide +kernel
theorem dX10_leastLayer_70 : decode cX10_leastLayer 70 = .ok (.iload_n 3, 1) := by decide +kernel
theorem dX10_leastLayer_71 : decode cX10_leastLayer 71 = .ok (.goto 4, 3) := by decide +kernel
theorem dX10_leastLayer_74 : decode cX10_leastLayer 74 = .ok (.iload_n 2, 1) := by decide +kernel
theorem dX10_leastLayer_75 : decode cX10_leastLayer 75 = .ok (.istore_n 2, 1) := by decide +kernel
theorem dX10_leastLayer_76 : decode cX10_leastLayer 76 = .ok (.iinc 3 1, 3) := by decide +kernel
theorem dX10_leastLayer_79 : decode cX10_leastLayer 79 = .ok (.goto (-74), 3) := by decide +kernel
theorem dX10_leastLayer_82 : decode cX10_leastLayer 82 = .ok (.iload_n 2, 1) := by decide +kernel
theorem dX10_leastLayer_83 : decode cX10_leastLayer 83 = .ok (.ireturn, 1) := by decide +kernel
set_option maxRecDepth 20000 in
theorem ggX10_layName_X10_leastLayer : GoodIn wsX10_layName wsX10_leastLayer := goodIn_r _ [7, 1, 2, 8, 9, 6, 10, 11, 12, 13, 14, 15, 20, 21, 22, 23, 24, 25, 26, 27, 28, 29, 30, 31, 32, 33, 34, 35, 36, 37, 38, 39, 40] (by decide +kernel) (by decide +kernel)
set_option maxRecDepth 20000 in
theorem gX10_layName_X10_leastLayer : GoodIn wsX10_layName (wsV RX10 188 RX10 yX10_leastLayer wsX10_leastLayer) := goodIn_app (goodIn_of _ (by decide +kernel)) ggX10_layName_X10_leastLayer
set_option maxRecDepth 20000 in
theorem ggX10_layName_X10_entryOf : GoodIn wsX10_layName wsX10_entryOf := goodIn_r _ [10] (by decide +kernel) (by decide +kernel)
set_option maxRecDepth 20000 in
theorem gX10_layName_X10_entryOf : GoodIn wsX10_layName (va_wsS RX10 135 yX10_entryOf wsX10_entryOf) := goodIn_app (goodIn_of _ (by decide +kernel)) ggX10_layName_X10_entryOf
set_option maxRecDepth 20000 in
theorem ggX10_layName_X10_copyText : GoodIn wsX10_layName wsX10_copyText := goodIn_r _ [19, 15, 20, 21, 22, 23, 24, 25, 26, 27, 28, 29, 30, 31, 32, 33, 34, 35, 36, 37, 38, 39, 40] (by decide +kernel) (by decide +kernel)
set_option maxRecDepth 20000 in
theorem gX10_layName_X10_copyText : GoodIn wsX10_layName (wsV RX10 70 RX10 yX10_copyText wsX10_copyText) := goodIn_app (goodIn_of _ (by decide +kernel)) ggX10_layName_X10_copyText
set_option maxRecDepth 20000 in
theorem ggX10_layName_X10_compare : GoodIn wsX10_layName wsX10_compare := goodIn_r _ [14, 15, 20, 21, 22, 23, 24, 25, 26, 27, 28, 29, 30, 31, 32, 33, 34, 35, 36, 37, 38, 39, 40] (by decide +kernel) (by decide +kernel)
set_option maxRecDepth 20000 in
theorem gX10_layName_X10_compare : GoodIn wsX10_layName (wsV RX10 73 RX10 yX10_compare wsX10_compare) := goodIn_app (goodIn_of _ (by decide +kernel)) ggX10_layName_X10_compare
theorem dX10_layName_0 : decode cX10_layName 0 = .ok (.aload_n 0, 1) := by decide +kernel
theorem dX10_layName_1 : decode cX10_layName 1 = .ok (.iload_n 1, 1) := by decide +kernel
theorem dX10_layName_2 : decode cX10_layName 2 = .ok (.invokevirtual 188, 3) := by decide +kernel
theorem dX10_layName_5 : decode cX10_layName 5 = .ok (.istore_n 2, 1) := by decide +kernel
theorem dX10_layName_6 : decode cX10_layName 6 = .ok (.iload_n 2, 1) := by decide +kernel
theorem dX10_layName_7 : decode cX10_layName 7 = .ok (.bipush (-5), 2) := by decide +kernel
theorem dX10_layName_9 : decode cX10_layName 9 = .ok (.if_icmp .ne 5, 3) := by decide +kernel
theorem dX10_layName_12 : decode cX10_layName 12 = .ok (.iconst 0, 1) := by decide +kernel
theorem dX10_layName_13 : decode cX10_layName 13 = .ok (.ireturn, 1) := by decide +kernel
theorem dX10_layName_14 : decode cX10_layName 14 = .ok (.aload_n 0, 1) := by decide +kernel
theorem dX10_layName_15 : decode cX10_layName 15 = .ok (.iload_n 2, 1) := by decide +kernel
theorem dX10_layName_16 : decode cX10_layName 16 = .ok (.aload_n 0, 1) := by decide +kernel
theorem dX10_layName_17 : decode cX10_layName 17 = .ok (.getfield 48, 3) := by decide +kernel
theorem dX10_layName_20 : decode cX10_layName 20 = .ok (.iload_n 2, 1) := by decide +kernel
theorem dX10_layName_21 : decode cX10_layName 21 = .ok (.iaload, 1) := by decide +kernel
theorem dX10_layName_22 : decode cX10_layName 22 = .ok (.invokestatic 135, 3) := by decide +kernel
theorem dX10_layName_25 : decode cX10_layName 25 = .ok (.sipush 1806, 3) := by decide +kernel
theorem dX10_layName_28 : decode cX10_layName 28 = .ok (.invokevirtual 70, 3) := by decide +kernel
theorem dX10_layName_31 : decode cX10_layName 31 = .ok (.iconst 0, 1) := by decide +kernel
theorem dX10_layName_32 : decode cX10_layName 32 = .ok (.istore_n 3, 1) := by decide +kernel
theorem dX10_layName_33 : decode cX10_layName 33 = .ok (.iload_n 3, 1) := by decide +kernel
theorem dX10_layName_34 : decode cX10_layName 34 = .ok (.iload_n 1, 1) := by decide +kernel
theorem dX10_layName_35 : decode cX10_layName 35 = .ok (.if_icmp .gt 58, 3) := by decide +kernel
theorem dX10_layName_38 : decode cX10_layName 38 = .ok (.aload_n 0, 1) := by decide +kernel
theorem dX10_layName_39 : decode cX10_layName 39 = .ok (.getfield 48, 3) := by decide +kernel
theorem dX10_layName_42 : decode cX10_layName 42 = .ok (.iload_n 3, 1) := by decide +kernel
theorem dX10_layName_43 : decode cX10_layName 43 = .ok (.dup2, 1) := by decide +kernel
theorem dX10_layName_44 : decode cX10_layName 44 = .ok (.iaload, 1) := by decide +kernel
theorem dX10_layName_45 : decode cX10_layName 45 = .ok (.aload_n 0, 1) := by decide +kernel
theorem dX10_layName_46 : decode cX10_layName 46 = .ok (.getfield 48, 3) := by decide +kernel
theorem dX10_layName_49 : decode cX10_layName 49 = .ok (.iload_n 3, 1) := by decide +kernel
theorem dX10_layName_50 : decode cX10_layName 50 = .ok (.iaload, 1) := by decide +kernel
theorem dX10_layName_51 : decode cX10_layName 51 = .ok (.aload_n 0, 1) := by decide +kernel
theorem dX10_layName_52 : decode cX10_layName 52 = .ok (.getfield 14, 3) := by decide +kernel
theorem dX10_layName_55 : decode cX10_layName 55 = .ok (.iload_n 3, 1) := by decide +kernel
theorem dX10_layName_56 : decode cX10_layName 56 = .ok (.iaload, 1) := by decide +kernel
theorem dX10_layName_57 : decode cX10_layName 57 = .ok (.if_icmp .ge 27, 3) := by decide +kernel
theorem dX10_layName_60 : decode cX10_layName 60 = .ok (.aload_n 0, 1) := by decide +kernel
theorem dX10_layName_61 : decode cX10_layName 61 = .ok (.iload_n 3, 1) := by decide +kernel
theorem dX10_layName_62 : decode cX10_layName 62 = .ok (.aload_n 0, 1) := by decide +kernel
theorem dX10_layName_63 : decode cX10_layName 63 = .ok (.getfield 48, 3) := by decide +kernel
theorem dX10_layName_66 : decode cX10_layName 66 = .ok (.iload_n 3, 1) := by decide +kernel
theorem dX10_layName_67 : decode cX10_layName 67 = .ok (.iaload, 1) := by decide +kernel
theorem dX10_layName_68 : decode cX10_layName 68 = .ok (.invokestatic 135, 3) := by decide +kernel
theorem dX10_layName_71 : decode cX10_layName 71 = .ok (.sipush 1806, 3) := by decide +kernel
theorem dX10_layName_74 : decode cX10_layName 74 = .ok (.invokevirtual 73, 3) := by decide +kernel
theorem dX10_layName_77 : decode cX10_layName 77 = .ok (.ifCond .ne 7, 3) := by decide +kernel
theorem dX10_layName_80 : decode cX10_layName 80 = .ok (.iconst 1, 1) := by decide +kernel
theorem dX10_layName_81 : decode cX10_layName 81 = .ok (.goto 4, 3) := by decide +kernel
theorem dX10_layName_84 : decode cX10_layName 84 = .ok (.iconst 0, 1) := by decide +kernel
theorem dX10_layName_85 : decode cX10_layName 85 = .ok (.iadd, 1) := by decide +kernel
theorem dX10_layName_86 : decode cX10_layName 86 = .ok (.iastore, 1) := by decide +kernel
theorem dX10_layName_87 : decode cX10_layName 87 = .ok (.iinc 3 1, 3) := by decide +kernel
theorem dX10_layName_90 : decode cX10_layName 90 = .ok (.goto (-57), 3) := by decide +kernel
theorem dX10_layName_93 : decode cX10_layName 93 = .ok (.iconst 1, 1) := by decide +kernel
theorem dX10_layName_94 : decode cX10_layName 94 = .ok (.ireturn, 1) := by decide +kernel
theorem dX10_toNames_0 : decode cX10_toNames 0 = .ok (.iconst 0, 1) := by decide +kernel
theorem dX10_toNames_1 : decode cX10_toNames 1 = .ok (.istore_n 1, 1) := by decide +kernel
theorem dX10_toNames_2 : decode cX10_toNames 2 = .ok (.iload_n 1, 1) := by decide +kernel
theorem dX10_toNames_3 : decode cX10_toNames 3 = .ok (.iconst 4, 1) := by decide +kernel
theorem dX10_toNames_4 : decode cX10_toNames 4 = .ok (.if_icmp .ge 16, 3) := by decide +kernel
theorem dX10_toNames_7 : decode cX10_toNames 7 = .ok (.aload_n 0, 1) := by decide +kernel
theorem dX10_toNames_8 : decode cX10_toNames 8 = .ok (.getfield 48, 3) := by decide +kernel
theorem dX10_toNames_11 : decode cX10_toNames 11 = .ok (.iload_n 1, 1) := by decide +kernel
theorem dX10_toNames_12 : decode cX10_toNames 12 = .ok (.iconst 0, 1) := by decide +kernel
theorem dX10_toNames_13 : decode cX10_toNames 13 = .ok (.iastore, 1) := by decide +kernel
theorem dX10_toNames_14 : decode cX10_toNames 14 = .ok (.iinc 1 1, 3) := by decide +kernel
theorem dX10_toNames_17 : decode cX10_toNames 17 = .ok (.goto (-15), 3) := by decide +kernel
theorem dX10_toNames_20 : decode cX10_toNames 20 = .ok (.return_, 1) := by decide +kernel
set_option maxRecDepth 20000 in
theorem ggX10_names_X10_isLayer : GoodIn wsX10_names wsX10_isLayer := goodIn_r _ [4] (by decide +kernel) (by decide +kernel)
set_option maxRecDepth 20000 in
theorem gX10_names_X10_isLayer : GoodIn wsX10_names (va_wsS RX10 151 yX10_isLayer wsX10_isLayer) := goodIn_app (goodIn_of _ (by decide +kernel)) ggX10_names_X10_isLayer
set_option maxRecDepth 20000 in
theorem ggX10_names_X10_toNames : GoodIn wsX10_names wsX10_toNames := goodIn_r _ [8, 9, 31, 32, 33, 34, 35, 36, 37, 38, 39, 40, 41, 42, 43, 44, 45, 46, 47, 48, 49, 50, 51] (by decide +kernel) (by decide +kernel)
set_option maxRecDepth 20000 in
theorem gX10_names_X10_toNames : GoodIn wsX10_names (wsV RX10 191 RX10 yX10_toNames wsX10_toNames) := goodIn_app (goodIn_of _ (by decide +kernel)) ggX10_names_X10_toNames
set_option maxRecDepth 20000 in
theorem ggX10_names_X10_layName : GoodIn wsX10_names wsX10_layName := goodIn_r _ [13, 9, 14, 15, 16, 17, 3, 18, 19, 20, 21, 22, 23, 24, 25, 26, 27, 28, 29, 30, 31, 32, 33, 34, 35, 36, 37, 38, 39, 40, 41, 42, 43, 44, 45, 46, 47, 48, 49, 50, 51] (by decide +kernel) (by decide +kernel)
set_option maxRecDepth 20000 in
theorem gX10_names_X10_layName : GoodIn wsX10_names (wsV RX10 194 RX10 yX10_layName wsX10_layName) := goodIn_app (goodIn_of _ (by decide +kernel)) ggX10_names_X10_layName
theorem dX10_names_0 : decode cX10_names 0 = .ok (.iload_n 1, 1) := by decide +kernel
theorem dX10_names_1 : decode cX10_names 1 = .ok (.invokestatic 151, 3) := by decide +kernel
theorem dX10_names_4 : decode cX10_names 4 = .ok (.ifCond .ne 5, 3) := by decide +kernel
theorem dX10_names_7 : decode cX10_names 7 = .ok (.iconst (-1), 1) := by decide +kernel
theorem dX10_names_8 : decode cX10_names 8 = .ok (.ireturn, 1) := by decide +kernel
theorem dX10_names_9 : decode cX10_names 9 = .ok (.aload_n 0, 1) := by decide +kernel
theorem dX10_names_10 : decode cX10_names 10 = .ok (.invokevirtual 191, 3) := by decide +kernel
theorem dX10_names_13 : decode cX10_names 13 = .ok (.iconst 0, 1) := by decide +kernel
theorem dX10_names_14 : decode cX10_names 14 = .ok (.istore_n 2, 1) := by decide +kernel
theorem dX10_names_15 : decode cX10_names 15 = .ok (.aload_n 0, 1) := by decide +kernel
theorem dX10_names_16 : decode cX10_names 16 = .ok (.iload_n 1, 1) := by decide +kernel
theorem dX10_names_17 : decode cX10_names 17 = .ok (.invokevirtual 194, 3) := by decide +kernel
theorem dX10_names_20 : decode cX10_names 20 = .ok (.ifCond .eq 9, 3) := by decide +kernel
theorem dX10_names_23 : decode cX10_names 23 = .ok (.iinc 2 1, 3) := by decide +kernel
theorem dX10_names_26 : decode cX10_names 26 = .ok (.goto (-11), 3) := by decide +kernel
theorem dX10_names_29 : decode cX10_names 29 = .ok (.iload_n 2, 1) := by decide +kernel
theorem dX10_names_30 : decode cX10_names 30 = .ok (.ireturn, 1) := by decide +kernel
set_option maxRecDepth 20000 in
theorem ggX10_name_X10_isLayer : GoodIn wsX10_name wsX10_isLayer := goodIn_r _ [5] (by decide +kernel) (by decide +kernel)
set_option maxRecDepth 20000 in
theorem gX10_name_X10_isLayer : GoodIn wsX10_name (va_wsS RX10 151 yX10_isLayer wsX10_isLayer) := goodIn_app (goodIn_of _ (by decide +kernel)) ggX10_name_X10_isLayer
set_option maxRecDepth 20000 in
theorem ggX10_name_X10_isSlot : GoodIn wsX10_name wsX10_isSlot := goodIn_r _ [8] (by decide +kernel) (by decide +kernel)
set_option maxRecDepth 20000 in
theorem gX10_name_X10_isSlot : GoodIn wsX10_name (va_wsS RX10 59 yX10_isSlot wsX10_isSlot) := goodIn_app (goodIn_of _ (by decide +kernel)) ggX10_name_X10_isSlot
set_option maxRecDepth 20000 in
theorem ggX10_name_X10_toNames : GoodIn wsX10_name wsX10_toNames := goodIn_r _ [12, 13, 37, 38, 39, 40, 41, 42, 43, 44, 45, 46, 47, 48, 49, 50, 51, 52, 53, 54, 55, 56, 57] (by decide +kernel) (by decide +kernel)
set_option maxRecDepth 20000 in
theorem gX10_name_X10_toNames : GoodIn wsX10_name (wsV RX10 191 RX10 yX10_toNames wsX10_toNames) := goodIn_app (goodIn_of _ (by decide +kernel)) ggX10_name_X10_toNames
set_option maxRecDepth 20000 in
theorem ggX10_name_X10_layName : GoodIn wsX10_name wsX10_layName := goodIn_r _ [17, 13, 18, 19, 20, 21, 4, 22, 23, 24, 25, 26, 27, 28, 29, 1, 30, 31, 32, 33, 37, 38, 39, 40, 41, 42, 43, 44, 45, 46, 47, 48, 49, 50, 51, 52, 53, 54, 55, 56, 57] (by decide +kernel) (by decide +kernel)
set_option maxRecDepth 20000 in
theorem gX10_name_X10_layName : GoodIn wsX10_name (wsV RX10 194 RX10 yX10_layName wsX10_layName) := goodIn_app (goodIn_of _ (by decide +kernel)) ggX10_name_X10_layName
set_option maxRecDepth 20000 in
theorem ggX10_name_X10_at : GoodIn wsX10_name wsX10_at := goodIn_r _ [36] (by decide +kernel) (by decide +kernel)
set_option maxRecDepth 20000 in
theorem gX10_name_X10_at : GoodIn wsX10_name (va_wsS RX10 51 yX10_at wsX10_at) := goodIn_app (goodIn_of _ (by decide +kernel)) ggX10_name_X10_at
set_option maxRecDepth 20000 in
theorem ggX10_name_X10_copyText : GoodIn wsX10_name wsX10_copyText := goodIn_r _ [33, 1, 37, 38, 39, 40, 41, 42, 43, 44, 45, 46, 47, 48, 49, 50, 51, 52, 53, 54, 55, 56, 57] (by decide +kernel) (by decide +kernel)
set_option maxRecDepth 20000 in
theorem gX10_name_X10_copyText : GoodIn wsX10_name (wsV RX10 70 RX10 yX10_copyText wsX10_copyText) := goodIn_app (goodIn_of _ (by decide +kernel)) ggX10_name_X10_copyText
theorem dX10_name_0 : decode cX10_name 0 = .ok (.iload_n 1, 1) := by decide +kernel
theorem dX10_name_1 : decode cX10_name 1 = .ok (.invokestatic 151, 3) := by decide +kernel
theorem dX10_name_4 : decode cX10_name 4 = .ok (.ifCond .eq 10, 3) := by decide +kernel
theorem dX10_name_7 : decode cX10_name 7 = .ok (.iload_n 3, 1) := by decide +kernel
theorem dX10_name_8 : decode cX10_name 8 = .ok (.invokestatic 59, 3) := by decide +kernel
theorem dX10_name_11 : decode cX10_name 11 = .ok (.ifCond .ne 5, 3) := by decide +kernel
theorem dX10_name_14 : decode cX10_name 14 = .ok (.iconst (-1), 1) := by decide +kernel
theorem dX10_name_15 : decode cX10_name 15 = .ok (.ireturn, 1) := by decide +kernel
theorem dX10_name_16 : decode cX10_name 16 = .ok (.iload_n 2, 1) := by decide +kernel
theorem dX10_name_17 : decode cX10_name 17 = .ok (.ifCond .ge 6, 3) := by decide +kernel
theorem dX10_name_20 : decode cX10_name 20 = .ok (.bipush (-5), 2) := by decide +kernel
theorem dX10_name_22 : decode cX10_name 22 = .ok (.ireturn, 1) := by decide +kernel
theorem dX10_name_23 : decode cX10_name 23 = .ok (.aload_n 0, 1) := by decide +kernel
theorem dX10_name_24 : decode cX10_name 24 = .ok (.invokevirtual 191, 3) := by decide +kernel
theorem dX10_name_27 : decode cX10_name 27 = .ok (.iconst 0, 1) := by decide +kernel
theorem dX10_name_28 : decode cX10_name 28 = .ok (.istore 4, 2) := by decide +kernel
theorem dX10_name_30 : decode cX10_name 30 = .ok (.aload_n 0, 1) := by decide +kernel
theorem dX10_name_31 : decode cX10_name 31 = .ok (.iload_n 1, 1) := by decide +kernel
theorem dX10_name_32 : decode cX10_name 32 = .ok (.invokevirtual 194, 3) := by decide +kernel
theorem dX10_name_35 : decode cX10_name 35 = .ok (.ifCond .eq 35, 3) := by decide +kernel
theorem dX10_name_38 : decode cX10_name 38 = .ok (.iload 4, 2) := by decide +kernel
theorem dX10_name_40 : decode cX10_name 40 = .ok (.iload_n 2, 1) := by decide +kernel
theorem dX10_name_41 : decode cX10_name 41 = .ok (.if_icmp .ne 23, 3) := by decide +kernel
theorem dX10_name_44 : decode cX10_name 44 = .ok (.aload_n 0, 1) := by decide +kernel
theorem dX10_name_45 : decode cX10_name 45 = .ok (.sipush 1806, 3) := by decide +kernel
theorem dX10_name_48 : decode cX10_name 48 = .ok (.iload_n 3, 1) := by decide +kernel
theorem dX10_name_49 : decode cX10_name 49 = .ok (.invokestatic 51, 3) := by decide +kernel
theorem dX10_name_52 : decode cX10_name 52 = .ok (.invokevirtual 70, 3) := by decide +kernel
theorem dX10_name_55 : decode cX10_name 55 = .ok (.aload_n 0, 1) := by decide +kernel
theorem dX10_name_56 : decode cX10_name 56 = .ok (.getfield 8, 3) := by decide +kernel
theorem dX10_name_59 : decode cX10_name 59 = .ok (.sipush 1806, 3) := by decide +kernel
theorem dX10_name_62 : decode cX10_name 62 = .ok (.iaload, 1) := by decide +kernel
theorem dX10_name_63 : decode cX10_name 63 = .ok (.ireturn, 1) := by decide +kernel
theorem dX10_name_64 : decode cX10_name 64 = .ok (.iinc 4 1, 3) := by decide +kernel
theorem dX10_name_67 : decode cX10_name 67 = .ok (.goto (-37), 3) := by decide +kernel
theorem dX10_name_70 : decode cX10_name 70 = .ok (.bipush (-5), 2) := by decide +kernel
theorem dX10_name_72 : decode cX10_name 72 = .ok (.ireturn, 1) := by decide +kernel
set_option maxRecDepth 20000 in
theorem ggX10_keyFrom_X10_isLayer : GoodIn wsX10_keyFrom wsX10_isLayer := goodIn_r _ [6] (by decide +kernel) (by decide +kernel)
set_option maxRecDepth 20000 in
theorem gX10_keyFrom_X10_isLayer : GoodIn wsX10_keyFrom (va_wsS RX10 151 yX10_isLayer wsX10_isLayer) := goodIn_app (goodIn_of _ (by decide +kernel)) ggX10_keyFrom_X10_isLayer
set_option maxRecDepth 20000 in
theorem ggX10_keyFrom_X10_isSlot : GoodIn wsX10_keyFrom wsX10_isSlot := goodIn_r _ [9] (by decide +kernel) (by decide +kernel)
set_option maxRecDepth 20000 in
theorem gX10_keyFrom_X10_isSlot : GoodIn wsX10_keyFrom (va_wsS RX10 59 yX10_isSlot wsX10_isSlot) := goodIn_app (goodIn_of _ (by decide +kernel)) ggX10_keyFrom_X10_isSlot
set_option maxRecDepth 20000 in
theorem ggX10_keyFrom_X10_hasNothing : GoodIn wsX10_keyFrom wsX10_hasNothing := goodIn_r _ [13, 2, 14, 15, 5, 16, 32, 33, 34, 35, 36, 37, 38, 39, 40, 41, 42, 43, 44, 45, 46, 47, 48, 49, 50, 51, 52] (by decide +kernel) (by decide +kernel)
set_option maxRecDepth 20000 in
theorem gX10_keyFrom_X10_hasNothing : GoodIn wsX10_keyFrom (wsV RX10 63 RX10 yX10_hasNothing wsX10_hasNothing) := goodIn_app (goodIn_of _ (by decide +kernel)) ggX10_keyFrom_X10_hasNothing
set_option maxRecDepth 20000 in
theorem ggX10_keyFrom_X10_at : GoodIn wsX10_keyFrom wsX10_at := goodIn_r _ [16] (by decide +kernel) (by decide +kernel)
set_option maxRecDepth 20000 in
theorem gX10_keyFrom_X10_at : GoodIn wsX10_keyFrom (va_wsS RX10 51 yX10_at wsX10_at) := goodIn_app (goodIn_of _ (by decide +kernel)) ggX10_keyFrom_X10_at
set_option maxRecDepth 20000 in
theorem ggX10_keyFrom_X10_placeOf : GoodIn wsX10_keyFrom wsX10_placeOf := goodIn_r _ [20, 1, 21, 22, 5, 23, 24, 25, 26, 27, 2, 32, 33, 34, 35, 36, 37, 38, 39, 40, 41, 42, 43, 44, 45, 46, 47, 48, 49, 50, 51, 52] (by decide +kernel) (by decide +kernel)
set_option maxRecDepth 20000 in
theorem gX10_keyFrom_X10_placeOf : GoodIn wsX10_keyFrom (wsV RX10 138 RX10 yX10_placeOf wsX10_placeOf) := goodIn_app (goodIn_of _ (by decide +kernel)) ggX10_keyFrom_X10_placeOf
set_option maxRecDepth 20000 in
theorem ggX10_keyFrom_X10_entryOf : GoodIn wsX10_keyFrom wsX10_entryOf := goodIn_r _ [23] (by decide +kernel) (by decide +kernel)
set_option maxRecDepth 20000 in
theorem gX10_keyFrom_X10_entryOf : GoodIn wsX10_keyFrom (va_wsS RX10 135 yX10_entryOf wsX10_entryOf) := goodIn_app (goodIn_of _ (by decide +kernel)) ggX10_keyFrom_X10_entryOf
set_option maxRecDepth 20000 in
theorem ggX10_keyFrom_X10_copyText : GoodIn wsX10_keyFrom wsX10_copyText := goodIn_r _ [31, 2, 32, 33, 34, 35, 36, 37, 38, 39, 40, 41, 42, 43, 44, 45, 46, 47, 48, 49, 50, 51, 52] (by decide +kernel) (by decide +kernel)
set_option maxRecDepth 20000 in
theorem gX10_keyFrom_X10_copyText : GoodIn wsX10_keyFrom (wsV RX10 70 RX10 yX10_copyText wsX10_copyText) := goodIn_app (goodIn_of _ (by decide +kernel)) ggX10_keyFrom_X10_copyText
theorem dX10_keyFrom_0 : decode cX10_keyFrom 0 = .ok (.iload_n 1, 1) := by decide +kernel
theorem dX10_keyFrom_1 : decode cX10_keyFrom 1 = .ok (.invokestatic 151, 3) := by decide +kernel
theorem dX10_keyFrom_4 : decode cX10_keyFrom 4 = .ok (.ifCond .eq 17, 3) := by decide +kernel
theorem dX10_keyFrom_7 : decode cX10_keyFrom 7 = .ok (.iload_n 2, 1) := by decide +kernel
theorem dX10_keyFrom_8 : decode cX10_keyFrom 8 = .ok (.invokestatic 59, 3) := by decide +kernel
theorem dX10_keyFrom_11 : decode cX10_keyFrom 11 = .ok (.ifCond .eq 10, 3) := by decide +kernel
theorem dX10_keyFrom_14 : decode cX10_keyFrom 14 = .ok (.iload_n 3, 1) := by decide +kernel
theorem dX10_keyFrom_15 : decode cX10_keyFrom 15 = .ok (.invokestatic 59, 3) := by decide +kernel
theorem dX10_keyFrom_18 : decode cX10_keyFrom 18 = .ok (.ifCond .ne 5, 3) := by decide +kernel
theorem dX10_keyFrom_21 : decode cX10_keyFrom 21 = .ok (.iconst (-1), 1) := by decide +kernel
theorem dX10_keyFrom_22 : decode cX10_keyFrom 22 = .ok (.ireturn, 1) := by decide +kernel
theorem dX10_keyFrom_23 : decode cX10_keyFrom 23 = .ok (.aload_n 0, 1) := by decide +kernel
theorem dX10_keyFrom_24 : decode cX10_keyFrom 24 = .ok (.iload_n 2, 1) := by decide +kernel
theorem dX10_keyFrom_25 : decode cX10_keyFrom 25 = .ok (.invokevirtual 63, 3) := by decide +kernel
theorem dX10_keyFrom_28 : decode cX10_keyFrom 28 = .ok (.ifCond .eq 6, 3) := by decide +kernel
theorem dX10_keyFrom_31 : decode cX10_keyFrom 31 = .ok (.bipush (-2), 2) := by decide +kernel
theorem dX10_keyFrom_33 : decode cX10_keyFrom 33 = .ok (.ireturn, 1) := by decide +kernel
theorem dX10_keyFrom_34 : decode cX10_keyFrom 34 = .ok (.aload_n 0, 1) := by decide +kernel
theorem dX10_keyFrom_35 : decode cX10_keyFrom 35 = .ok (.iload_n 1, 1) := by decide +kernel
theorem dX10_keyFrom_36 : decode cX10_keyFrom 36 = .ok (.iload_n 2, 1) := by decide +kernel
theorem dX10_keyFrom_37 : decode cX10_keyFrom 37 = .ok (.invokestatic 51, 3) := by decide +kernel
theorem dX10_keyFrom_40 : decode cX10_keyFrom 40 = .ok (.invokevirtual 138, 3) := by decide +kernel
theorem dX10_keyFrom_43 : decode cX10_keyFrom 43 = .ok (.istore 4, 2) := by decide +kernel
theorem dX10_keyFrom_45 : decode cX10_keyFrom 45 = .ok (.iload 4, 2) := by decide +kernel
theorem dX10_keyFrom_47 : decode cX10_keyFrom 47 = .ok (.aload_n 0, 1) := by decide +kernel
theorem dX10_keyFrom_48 : decode cX10_keyFrom 48 = .ok (.getfield 14, 3) := by decide +kernel
theorem dX10_keyFrom_51 : decode cX10_keyFrom 51 = .ok (.iload_n 1, 1) := by decide +kernel
theorem dX10_keyFrom_52 : decode cX10_keyFrom 52 = .ok (.iaload, 1) := by decide +kernel
theorem dX10_keyFrom_53 : decode cX10_keyFrom 53 = .ok (.if_icmp .ne 6, 3) := by decide +kernel
theorem dX10_keyFrom_56 : decode cX10_keyFrom 56 = .ok (.bipush (-5), 2) := by decide +kernel
theorem dX10_keyFrom_58 : decode cX10_keyFrom 58 = .ok (.ireturn, 1) := by decide +kernel
theorem dX10_keyFrom_59 : decode cX10_keyFrom 59 = .ok (.aload_n 0, 1) := by decide +kernel
theorem dX10_keyFrom_60 : decode cX10_keyFrom 60 = .ok (.iload_n 1, 1) := by decide +kernel
theorem dX10_keyFrom_61 : decode cX10_keyFrom 61 = .ok (.iload 4, 2) := by decide +kernel
theorem dX10_keyFrom_63 : decode cX10_keyFrom 63 = .ok (.invokestatic 135, 3) := by decide +kernel
theorem dX10_keyFrom_66 : decode cX10_keyFrom 66 = .ok (.iload_n 3, 1) := by decide +kernel
theorem dX10_keyFrom_67 : decode cX10_keyFrom 67 = .ok (.invokestatic 51, 3) := by decide +kernel
theorem dX10_keyFrom_70 : decode cX10_keyFrom 70 = .ok (.invokevirtual 70, 3) := by decide +kernel
theorem dX10_keyFrom_73 : decode cX10_keyFrom 73 = .ok (.aload_n 0, 1) := by decide +kernel
theorem dX10_keyFrom_74 : decode cX10_keyFrom 74 = .ok (.getfield 8, 3) := by decide +kernel
theorem dX10_keyFrom_77 : decode cX10_keyFrom 77 = .ok (.iload_n 3, 1) := by decide +kernel
theorem dX10_keyFrom_78 : decode cX10_keyFrom 78 = .ok (.invokestatic 51, 3) := by decide +kernel
theorem dX10_keyFrom_81 : decode cX10_keyFrom 81 = .ok (.iaload, 1) := by decide +kernel
theorem dX10_keyFrom_82 : decode cX10_keyFrom 82 = .ok (.ireturn, 1) := by decide +kernel
set_option maxRecDepth 20000 in
theorem ggX10_alike_X10_isLayer : GoodIn wsX10_alike wsX10_isLayer := goodIn_r _ [5] (by decide +kernel) (by decide +kernel)
set_option maxRecDepth 20000 in
theorem gX10_alike_X10_isLayer : GoodIn wsX10_alike (va_wsS RX10 151 yX10_isLayer wsX10_isLayer) := goodIn_app (goodIn_of _ (by decide +kernel)) ggX10_alike_X10_isLayer
set_option maxRecDepth 20000 in
theorem ggX10_alike_X10_entryOf : GoodIn wsX10_alike wsX10_entryOf := goodIn_r _ [8] (by decide +kernel) (by decide +kernel)
set_option maxRecDepth 20000 in
theorem gX10_alike_X10_entryOf : GoodIn wsX10_alike (va_wsS RX10 135 yX10_entryOf wsX10_entryOf) := goodIn_app (goodIn_of _ (by decide +kernel)) ggX10_alike_X10_entryOf
set_option maxRecDepth 20000 in
theorem ggX10_alike_X10_compare : GoodIn wsX10_alike wsX10_compare := goodIn_r _ [12, 13, 17, 18, 19, 20, 21, 22, 23, 24, 25, 26, 27, 28, 29, 30, 31, 32, 33, 34, 35, 36, 37] (by decide +kernel) (by decide +kernel)
set_option maxRecDepth 20000 in
theorem gX10_alike_X10_compare : GoodIn wsX10_alike (wsV RX10 73 RX10 yX10_compare wsX10_compare) := goodIn_app (goodIn_of _ (by decide +kernel)) ggX10_alike_X10_compare
set_option maxRecDepth 20000 in
theorem ggX10_alike_X10_valueOf : GoodIn wsX10_alike wsX10_valueOf := goodIn_r _ [16, 6, 7, 4, 8] (by decide +kernel) (by decide +kernel)
set_option maxRecDepth 20000 in
theorem gX10_alike_X10_valueOf : GoodIn wsX10_alike (va_wsS RX10 141 yX10_valueOf wsX10_valueOf) := goodIn_app (goodIn_of _ (by decide +kernel)) ggX10_alike_X10_valueOf
theorem dX10_alike_0 : decode cX10_alike 0 = .ok (.iload_n 1, 1) := by decide +kernel
theorem dX10_alike_1 : decode cX10_alike 1 = .ok (.invokestatic 151, 3) := by decide +kernel
theorem dX10_alike_4 : decode cX10_alike 4 = .ok (.ifCond .eq 10, 3) := by decide +kernel
theorem dX10_alike_7 : decode cX10_alike 7 = .ok (.iload_n 2, 1) := by decide +kernel
theorem dX10_alike_8 : decode cX10_alike 8 = .ok (.invokestatic 151, 3) := by decide +kernel
theorem dX10_alike_11 : decode cX10_alike 11 = .ok (.ifCond .ne 5, 3) := by decide +kernel
theorem dX10_alike_14 : decode cX10_alike 14 = .ok (.iconst (-1), 1) := by decide +kernel
theorem dX10_alike_15 : decode cX10_alike 15 = .ok (.ireturn, 1) := by decide +kernel
theorem dX10_alike_16 : decode cX10_alike 16 = .ok (.aload_n 0, 1) := by decide +kernel
theorem dX10_alike_17 : decode cX10_alike 17 = .ok (.getfield 14, 3) := by decide +kernel
theorem dX10_alike_20 : decode cX10_alike 20 = .ok (.iload_n 1, 1) := by decide +kernel
theorem dX10_alike_21 : decode cX10_alike 21 = .ok (.iaload, 1) := by decide +kernel
theorem dX10_alike_22 : decode cX10_alike 22 = .ok (.aload_n 0, 1) := by decide +kernel
theorem dX10_alike_23 : decode cX10_alike 23 = .ok (.getfield 14, 3) := by decide +kernel
theorem dX10_alike_26 : decode cX10_alike 26 = .ok (.iload_n 2, 1) := by decide +kernel
theorem dX10_alike_27 : decode cX10_alike 27 = .ok (.iaload, 1) := by decide +kernel
theorem dX10_alike_28 : decode cX10_alike 28 = .ok (.if_icmp .ne 7, 3) := by decide +kernel
theorem dX10_alike_31 : decode cX10_alike 31 = .ok (.iconst 1, 1) := by decide +kernel
theorem dX10_alike_32 : decode cX10_alike 32 = .ok (.goto 4, 3) := by decide +kernel
theorem dX10_alike_35 : decode cX10_alike 35 = .ok (.iconst 0, 1) := by decide +kernel
theorem dX10_alike_36 : decode cX10_alike 36 = .ok (.istore_n 3, 1) := by decide +kernel
theorem dX10_alike_37 : decode cX10_alike 37 = .ok (.iconst 0, 1) := by decide +kernel
theorem dX10_alike_38 : decode cX10_alike 38 = .ok (.istore 4, 2) := by decide +kernel
theorem dX10_alike_40 : decode cX10_alike 40 = .ok (.iload 4, 2) := by decide +kernel
theorem dX10_alike_42 : decode cX10_alike 42 = .ok (.aload_n 0, 1) := by decide +kernel
theorem dX10_alike_43 : decode cX10_alike 43 = .ok (.getfield 14, 3) := by decide +kernel
theorem dX10_alike_46 : decode cX10_alike 46 = .ok (.iload_n 1, 1) := by decide +kernel
theorem dX10_alike_47 : decode cX10_alike 47 = .ok (.iaload, 1) := by decide +kernel
theorem dX10_alike_48 : decode cX10_alike 48 = .ok (.if_icmp .ge 57, 3) := by decide +kernel
theorem dX10_alike_51 : decode cX10_alike 51 = .ok (.iload_n 3, 1) := by decide +kernel
theorem dX10_alike_52 : decode cX10_alike 52 = .ok (.ifCond .eq 53, 3) := by decide +kernel
theorem dX10_alike_55 : decode cX10_alike 55 = .ok (.aload_n 0, 1) := by decide +kernel
theorem dX10_alike_56 : decode cX10_alike 56 = .ok (.iload_n 1, 1) := by decide +kernel
theorem dX10_alike_57 : decode cX10_alike 57 = .ok (.iload 4, 2) := by decide +kernel
theorem dX10_alike_59 : decode cX10_alike 59 = .ok (.invokestatic 135, 3) := by decide +kernel
theorem dX10_alike_62 : decode cX10_alike 62 = .ok (.iload_n 2, 1) := by decide +kernel
theorem dX10_alike_63 : decode cX10_alike 63 = .ok (.iload 4, 2) := by decide +kernel
theorem dX10_alike_65 : decode cX10_alike 65 = .ok (.invokestatic 135, 3) := by decide +kernel
theorem dX10_alike_68 : decode cX10_alike 68 = .ok (.invokevirtual 73, 3) := by decide +kernel
theorem dX10_alike_71 : decode cX10_alike 71 = .ok (.ifCond .ne 26, 3) := by decide +kernel
theorem dX10_alike_74 : decode cX10_alike 74 = .ok (.aload_n 0, 1) := by decide +kernel
theorem dX10_alike_75 : decode cX10_alike 75 = .ok (.iload_n 1, 1) := by decide +kernel
theorem dX10_alike_76 : decode cX10_alike 76 = .ok (.iload 4, 2) := by decide +kernel
theorem dX10_alike_78 : decode cX10_alike 78 = .ok (.invokestatic 141, 3) := by decide +kernel
theorem dX10_alike_81 : decode cX10_alike 81 = .ok (.iload_n 2, 1) := by decide +kernel
theorem dX10_alike_82 : decode cX10_alike 82 = .ok (.iload 4, 2) := by decide +kernel
theorem dX10_alike_84 : decode cX10_alike 84 = .ok (.invokestatic 141, 3) := by decide +kernel
theorem dX10_alike_87 : decode cX10_alike 87 = .ok (.invokevirtual 73, 3) := by decide +kernel
theorem dX10_alike_90 : decode cX10_alike 90 = .ok (.ifCond .ne 7, 3) := by decide +kernel
theorem dX10_alike_93 : decode cX10_alike 93 = .ok (.iconst 1, 1) := by decide +kernel
theorem dX10_alike_94 : decode cX10_alike 94 = .ok (.goto 4, 3) := by decide +kernel
theorem dX10_alike_97 : decode cX10_alike 97 = .ok (.iconst 0, 1) := by decide +kernel
theorem dX10_alike_98 : decode cX10_alike 98 = .ok (.istore_n 3, 1) := by decide +kernel
theorem dX10_alike_99 : decode cX10_alike 99 = .ok (.iinc 4 1, 3) := by decide +kernel
theorem dX10_alike_102 : decode cX10_alike 102 = .ok (.goto (-62), 3) := by decide +kernel
theorem dX10_alike_105 : decode cX10_alike 105 = .ok (.iload_n 3, 1) := by decide +kernel
theorem dX10_alike_106 : decode cX10_alike 106 = .ok (.ifCond .eq 7, 3) := by decide +kernel
theorem dX10_alike_109 : decode cX10_alike 109 = .ok (.iconst 1, 1) := by decide +kernel
theorem dX10_alike_110 : decode cX10_alike 110 = .ok (.goto 4, 3) := by decide +kernel
theorem dX10_alike_113 : decode cX10_alike 113 = .ok (.iconst 0, 1) := by decide +kernel
theorem dX10_alike_114 : decode cX10_alike 114 = .ok (.ireturn, 1) := by decide +kernel
theorem dX10_mixed_0 : decode cX10_mixed 0 = .ok (.iload_n 1, 1) := by decide +kernel
theorem dX10_mixed_1 : decode cX10_mixed 1 = .ok (.istore 4, 2) := by decide +kernel
theorem dX10_mixed_3 : decode cX10_mixed 3 = .ok (.iconst 1, 1) := by decide +kernel
theorem dX10_mixed_4 : decode cX10_mixed 4 = .ok (.istore 5, 2) := by decide +kernel
theorem dX10_mixed_6 : decode cX10_mixed 6 = .ok (.iload 5, 2) := by decide +kernel
theorem dX10_mixed_8 : decode cX10_mixed 8 = .ok (.aload_n 0, 1) := by decide +kernel
theorem dX10_mixed_9 : decode cX10_mixed 9 = .ok (.getfield 8, 3) := by decide +kernel
theorem dX10_mixed_12 : decode cX10_mixed 12 = .ok (.iload_n 2, 1) := by decide +kernel
theorem dX10_mixed_13 : decode cX10_mixed 13 = .ok (.iaload, 1) := by decide +kernel
theorem dX10_mixed_14 : decode cX10_mixed 14 = .ok (.if_icmp .gt 26, 3) := by decide +kernel
theorem dX10_mixed_17 : decode cX10_mixed 17 = .ok (.bipush 31, 2) := by decide +kernel
theorem dX10_mixed_19 : decode cX10_mixed 19 = .ok (.iload 4, 2) := by decide +kernel
theorem dX10_mixed_21 : decode cX10_mixed 21 = .ok (.imul, 1) := by decide +kernel
theorem dX10_mixed_22 : decode cX10_mixed 22 = .ok (.aload_n 0, 1) := by decide +kernel
theorem dX10_mixed_23 : decode cX10_mixed 23 = .ok (.getfield 8, 3) := by decide +kernel
theorem dX10_mixed_26 : decode cX10_mixed 26 = .ok (.iload_n 2, 1) := by decide +kernel
theorem dX10_mixed_27 : decode cX10_mixed 27 = .ok (.iload 5, 2) := by decide +kernel
theorem dX10_mixed_29 : decode cX10_mixed 29 = .ok (.iadd, 1) := by decide +kernel
theorem dX10_mixed_30 : decode cX10_mixed 30 = .ok (.iaload, 1) := by decide +kernel
theorem dX10_mixed_31 : decode cX10_mixed 31 = .ok (.iadd, 1) := by decide +kernel
theorem dX10_mixed_32 : decode cX10_mixed 32 = .ok (.istore 4, 2) := by decide +kernel
theorem dX10_mixed_34 : decode cX10_mixed 34 = .ok (.iinc 5 1, 3) := by decide +kernel
theorem dX10_mixed_37 : decode cX10_mixed 37 = .ok (.goto (-31), 3) := by decide +kernel
theorem dX10_mixed_40 : decode cX10_mixed 40 = .ok (.bipush 31, 2) := by decide +kernel
theorem dX10_mixed_42 : decode cX10_mixed 42 = .ok (.iload 4, 2) := by decide +kernel
theorem dX10_mixed_44 : decode cX10_mixed 44 = .ok (.imul, 1) := by decide +kernel
theorem dX10_mixed_45 : decode cX10_mixed 45 = .ok (.iload_n 3, 1) := by decide +kernel
theorem dX10_mixed_46 : decode cX10_mixed 46 = .ok (.iadd, 1) := by decide +kernel
theorem dX10_mixed_47 : decode cX10_mixed 47 = .ok (.ireturn, 1) := by decide +kernel
set_option maxRecDepth 20000 in
theorem ggX10_digest_X10_isLayer : GoodIn wsX10_digest wsX10_isLayer := goodIn_r _ [5] (by decide +kernel) (by decide +kernel)
set_option maxRecDepth 20000 in
theorem gX10_digest_X10_isLayer : GoodIn wsX10_digest (va_wsS RX10 151 yX10_isLayer wsX10_isLayer) := goodIn_app (goodIn_of _ (by decide +kernel)) ggX10_digest_X10_isLayer
set_option maxRecDepth 20000 in
theorem ggX10_digest_X10_entryOf : GoodIn wsX10_digest wsX10_entryOf := goodIn_r _ [8] (by decide +kernel) (by decide +kernel)
set_option maxRecDepth 20000 in
theorem gX10_digest_X10_entryOf : GoodIn wsX10_digest (va_wsS RX10 135 yX10_entryOf wsX10_entryOf) := goodIn_app (goodIn_of _ (by decide +kernel)) ggX10_digest_X10_entryOf
set_option maxRecDepth 20000 in
theorem ggX10_digest_X10_mixed : GoodIn wsX10_digest wsX10_mixed := goodIn_r _ [12, 13, 17, 18, 19, 20, 21, 22, 23, 24, 25, 26, 27, 28, 29, 30, 31, 32, 33, 34, 35, 36, 37] (by decide +kernel) (by decide +kernel)
set_option maxRecDepth 20000 in
theorem gX10_digest_X10_mixed : GoodIn wsX10_digest (wsV RX10 197 RX10 yX10_mixed wsX10_mixed) := goodIn_app (goodIn_of _ (by decide +kernel)) ggX10_digest_X10_mixed
set_option maxRecDepth 20000 in
theorem ggX10_digest_X10_valueOf : GoodIn wsX10_digest wsX10_valueOf := goodIn_r _ [16, 6, 7, 4, 8] (by decide +kernel) (by decide +kernel)
set_option maxRecDepth 20000 in
theorem gX10_digest_X10_valueOf : GoodIn wsX10_digest (va_wsS RX10 141 yX10_valueOf wsX10_valueOf) := goodIn_app (goodIn_of _ (by decide +kernel)) ggX10_digest_X10_valueOf
theorem dX10_digest_0 : decode cX10_digest 0 = .ok (.iload_n 1, 1) := by decide +kernel
theorem dX10_digest_1 : decode cX10_digest 1 = .ok (.invokestatic 151, 3) := by decide +kernel
theorem dX10_digest_4 : decode cX10_digest 4 = .ok (.ifCond .ne 5, 3) := by decide +kernel
theorem dX10_digest_7 : decode cX10_digest 7 = .ok (.iconst 0, 1) := by decide +kernel
theorem dX10_digest_8 : decode cX10_digest 8 = .ok (.ireturn, 1) := by decide +kernel
theorem dX10_digest_9 : decode cX10_digest 9 = .ok (.bipush 7, 2) := by decide +kernel
theorem dX10_digest_11 : decode cX10_digest 11 = .ok (.istore_n 2, 1) := by decide +kernel
theorem dX10_digest_12 : decode cX10_digest 12 = .ok (.iconst 0, 1) := by decide +kernel
theorem dX10_digest_13 : decode cX10_digest 13 = .ok (.istore_n 3, 1) := by decide +kernel
theorem dX10_digest_14 : decode cX10_digest 14 = .ok (.iload_n 3, 1) := by decide +kernel
theorem dX10_digest_15 : decode cX10_digest 15 = .ok (.aload_n 0, 1) := by decide +kernel
theorem dX10_digest_16 : decode cX10_digest 16 = .ok (.getfield 14, 3) := by decide +kernel
theorem dX10_digest_19 : decode cX10_digest 19 = .ok (.iload_n 1, 1) := by decide +kernel
theorem dX10_digest_20 : decode cX10_digest 20 = .ok (.iaload, 1) := by decide +kernel
theorem dX10_digest_21 : decode cX10_digest 21 = .ok (.if_icmp .ge 35, 3) := by decide +kernel
theorem dX10_digest_24 : decode cX10_digest 24 = .ok (.aload_n 0, 1) := by decide +kernel
theorem dX10_digest_25 : decode cX10_digest 25 = .ok (.aload_n 0, 1) := by decide +kernel
theorem dX10_digest_26 : decode cX10_digest 26 = .ok (.iload_n 2, 1) := by decide +kernel
theorem dX10_digest_27 : decode cX10_digest 27 = .ok (.iload_n 1, 1) := by decide +kernel
theorem dX10_digest_28 : decode cX10_digest 28 = .ok (.iload_n 3, 1) := by decide +kernel
theorem dX10_digest_29 : decode cX10_digest 29 = .ok (.invokestatic 135, 3) := by decide +kernel
theorem dX10_digest_32 : decode cX10_digest 32 = .ok (.sipush 256, 3) := by decide +kernel
theorem dX10_digest_35 : decode cX10_digest 35 = .ok (.invokevirtual 197, 3) := by decide +kernel
theorem dX10_digest_38 : decode cX10_digest 38 = .ok (.iload_n 1, 1) := by decide +kernel
theorem dX10_digest_39 : decode cX10_digest 39 = .ok (.iload_n 3, 1) := by decide +kernel
theorem dX10_digest_40 : decode cX10_digest 40 = .ok (.invokestatic 141, 3) := by decide +kernel
theorem dX10_digest_43 : decode cX10_digest 43 = .ok (.sipush 257, 3) := by decide +kernel
theorem dX10_digest_46 : decode cX10_digest 46 = .ok (.invokevirtual 197, 3) := by decide +kernel
theorem dX10_digest_49 : decode cX10_digest 49 = .ok (.istore_n 2, 1) := by decide +kernel
theorem dX10_digest_50 : decode cX10_digest 50 = .ok (.iinc 3 1, 3) := by decide +kernel
theorem dX10_digest_53 : decode cX10_digest 53 = .ok (.goto (-39), 3) := by decide +kernel
theorem dX10_digest_56 : decode cX10_digest 56 = .ok (.iload_n 2, 1) := by decide +kernel
theorem dX10_digest_57 : decode cX10_digest 57 = .ok (.ireturn, 1) := by decide +kernel
theorem dX10_isTokenizer_0 : decode cX10_isTokenizer 0 = .ok (.iload_n 0, 1) := by decide +kernel
theorem dX10_isTokenizer_1 : decode cX10_isTokenizer 1 = .ok (.ifCond .eq 8, 3) := by decide +kernel
theorem dX10_isTokenizer_4 : decode cX10_isTokenizer 4 = .ok (.iload_n 0, 1) := by decide +kernel
theorem dX10_isTokenizer_5 : decode cX10_isTokenizer 5 = .ok (.iconst 1, 1) := by decide +kernel
theorem dX10_isTokenizer_6 : decode cX10_isTokenizer 6 = .ok (.if_icmp .ne 7, 3) := by decide +kernel
theorem dX10_isTokenizer_9 : decode cX10_isTokenizer 9 = .ok (.iconst 1, 1) := by decide +kernel
theorem dX10_isTokenizer_10 : decode cX10_isTokenizer 10 = .ok (.goto 4, 3) := by decide +kernel
theorem dX10_isTokenizer_13 : decode cX10_isTokenizer 13 = .ok (.iconst 0, 1) := by decide +kernel
theorem dX10_isTokenizer_14 : decode cX10_isTokenizer 14 = .ok (.ireturn, 1) := by decide +kernel
theorem dX10_tokenText_0 : decode cX10_tokenText 0 = .ok (.sipush 6930, 3) := by decide +kernel
theorem dX10_tokenText_3 : decode cX10_tokenText 3 = .ok (.sipush 301, 3) := by decide +kernel
theorem dX10_tokenText_6 : decode cX10_tokenText 6 = .ok (.iload_n 0, 1) := by decide +kernel
theorem dX10_tokenText_7 : decode cX10_tokenText 7 = .ok (.imul, 1) := by decide +kernel
theorem dX10_tokenText_8 : decode cX10_tokenText 8 = .ok (.iadd, 1) := by decide +kernel
theorem dX10_tokenText_9 : decode cX10_tokenText 9 = .ok (.ireturn, 1) := by decide +kernel
theorem dX10_isDelimiter_0 : decode cX10_isDelimiter 0 = .ok (.aload_n 0, 1) := by decide +kernel
theorem dX10_isDelimiter_1 : decode cX10_isDelimiter 1 = .ok (.getfield 8, 3) := by decide +kernel
theorem dX10_isDelimiter_4 : decode cX10_isDelimiter 4 = .ok (.sipush 7540, 3) := by decide +kernel
theorem dX10_isDelimiter_7 : decode cX10_isDelimiter 7 = .ok (.sipush 256, 3) := by decide +kernel
theorem dX10_isDelimiter_10 : decode cX10_isDelimiter 10 = .ok (.iload_n 1, 1) := by decide +kernel
theorem dX10_isDelimiter_11 : decode cX10_isDelimiter 11 = .ok (.imul, 1) := by decide +kernel
theorem dX10_isDelimiter_12 : decode cX10_isDelimiter 12 = .ok (.iadd, 1) := by decide +kernel
theorem dX10_isDelimiter_13 : decode cX10_isDelimiter 13 = .ok (.iload_n 2, 1) := by decide +kernel
theorem dX10_isDelimiter_14 : decode cX10_isDelimiter 14 = .ok (.iadd, 1) := by decide +kernel
theorem dX10_isDelimiter_15 : decode cX10_isDelimiter 15 = .ok (.iaload, 1) := by decide +kernel
theorem dX10_isDelimiter_16 : decode cX10_isDelimiter 16 = .ok (.iconst 1, 1) := by decide +kernel
theorem dX10_isDelimiter_17 : decode cX10_isDelimiter 17 = .ok (.if_icmp .ne 7, 3) := by decide +kernel
theorem dX10_isDelimiter_20 : decode cX10_isDelimiter 20 = .ok (.iconst 1, 1) := by decide +kernel
theorem dX10_isDelimiter_21 : decode cX10_isDelimiter 21 = .ok (.goto 4, 3) := by decide +kernel
theorem dX10_isDelimiter_24 : decode cX10_isDelimiter 24 = .ok (.iconst 0, 1) := by decide +kernel
theorem dX10_isDelimiter_25 : decode cX10_isDelimiter 25 = .ok (.ireturn, 1) := by decide +kernel
theorem dX10_layDelimiters_0 : decode cX10_layDelimiters 0 = .ok (.iconst 0, 1) := by decide +kernel
theorem dX10_layDelimiters_1 : decode cX10_layDelimiters 1 = .ok (.istore_n 3, 1) := by decide +kernel
theorem dX10_layDelimiters_2 : decode cX10_layDelimiters 2 = .ok (.iload_n 3, 1) := by decide +kernel
theorem dX10_layDelimiters_3 : decode cX10_layDelimiters 3 = .ok (.sipush 256, 3) := by decide +kernel
theorem dX10_layDelimiters_6 : decode cX10_layDelimiters 6 = .ok (.if_icmp .ge 26, 3) := by decide +kernel
theorem dX10_layDelimiters_9 : decode cX10_layDelimiters 9 = .ok (.aload_n 0, 1) := by decide +kernel
theorem dX10_layDelimiters_10 : decode cX10_layDelimiters 10 = .ok (.getfield 8, 3) := by decide +kernel
theorem dX10_layDelimiters_13 : decode cX10_layDelimiters 13 = .ok (.sipush 7540, 3) := by decide +kernel
theorem dX10_layDelimiters_16 : decode cX10_layDelimiters 16 = .ok (.sipush 256, 3) := by decide +kernel
theorem dX10_layDelimiters_19 : decode cX10_layDelimiters 19 = .ok (.iload_n 1, 1) := by decide +kernel
theorem dX10_layDelimiters_20 : decode cX10_layDelimiters 20 = .ok (.imul, 1) := by decide +kernel
theorem dX10_layDelimiters_21 : decode cX10_layDelimiters 21 = .ok (.iadd, 1) := by decide +kernel
theorem dX10_layDelimiters_22 : decode cX10_layDelimiters 22 = .ok (.iload_n 3, 1) := by decide +kernel
theorem dX10_layDelimiters_23 : decode cX10_layDelimiters 23 = .ok (.iadd, 1) := by decide +kernel
theorem dX10_layDelimiters_24 : decode cX10_layDelimiters 24 = .ok (.iconst 0, 1) := by decide +kernel
theorem dX10_layDelimiters_25 : decode cX10_layDelimiters 25 = .ok (.iastore, 1) := by decide +kernel
theorem dX10_layDelimiters_26 : decode cX10_layDelimiters 26 = .ok (.iinc 3 1, 3) := by decide +kernel
theorem dX10_layDelimiters_29 : decode cX10_layDelimiters 29 = .ok (.goto (-27), 3) := by decide +kernel
theorem dX10_layDelimiters_32 : decode cX10_layDelimiters 32 = .ok (.iconst 1, 1) := by decide +kernel
theorem dX10_layDelimiters_33 : decode cX10_layDelimiters 33 = .ok (.istore_n 3, 1) := by decide +kernel
theorem dX10_layDelimiters_34 : decode cX10_layDelimiters 34 = .ok (.iload_n 3, 1) := by decide +kernel
theorem dX10_layDelimiters_35 : decode cX10_layDelimiters 35 = .ok (.aload_n 0, 1) := by decide +kernel
theorem dX10_layDelimiters_36 : decode cX10_layDelimiters 36 = .ok (.getfield 8, 3) := by decide +kernel
theorem dX10_layDelimiters_39 : decode cX10_layDelimiters 39 = .ok (.iload_n 2, 1) := by decide +kernel
theorem dX10_layDelimiters_40 : decode cX10_layDelimiters 40 = .ok (.iaload, 1) := by decide +kernel
theorem dX10_layDelimiters_41 : decode cX10_layDelimiters 41 = .ok (.if_icmp .gt 33, 3) := by decide +kernel
theorem dX10_layDelimiters_44 : decode cX10_layDelimiters 44 = .ok (.aload_n 0, 1) := by decide +kernel
theorem dX10_layDelimiters_45 : decode cX10_layDelimiters 45 = .ok (.getfield 8, 3) := by decide +kernel
theorem dX10_layDelimiters_48 : decode cX10_layDelimiters 48 = .ok (.sipush 7540, 3) := by decide +kernel
theorem dX10_layDelimiters_51 : decode cX10_layDelimiters 51 = .ok (.sipush 256, 3) := by decide +kernel
theorem dX10_layDelimiters_54 : decode cX10_layDelimiters 54 = .ok (.iload_n 1, 1) := by decide +kernel
theorem dX10_layDelimiters_55 : decode cX10_layDelimiters 55 = .ok (.imul, 1) := by decide +kernel
theorem dX10_layDelimiters_56 : decode cX10_layDelimiters 56 = .ok (.iadd, 1) := by decide +kernel
theorem dX10_layDelimiters_57 : decode cX10_layDelimiters 57 = .ok (.aload_n 0, 1) := by decide +kernel
theorem dX10_layDelimiters_58 : decode cX10_layDelimiters 58 = .ok (.getfield 8, 3) := by decide +kernel
theorem dX10_layDelimiters_61 : decode cX10_layDelimiters 61 = .ok (.iload_n 2, 1) := by decide +kernel
theorem dX10_layDelimiters_62 : decode cX10_layDelimiters 62 = .ok (.iload_n 3, 1) := by decide +kernel
theorem dX10_layDelimiters_63 : decode cX10_layDelimiters 63 = .ok (.iadd, 1) := by decide +kernel
theorem dX10_layDelimiters_64 : decode cX10_layDelimiters 64 = .ok (.iaload, 1) := by decide +kernel
theorem dX10_layDelimiters_65 : decode cX10_layDelimiters 65 = .ok (.iadd, 1) := by decide +kernel
theorem dX10_layDelimiters_66 : decode cX10_layDelimiters 66 = .ok (.iconst 1, 1) := by decide +kernel
theorem dX10_layDelimiters_67 : decode cX10_layDelimiters 67 = .ok (.iastore, 1) := by decide +kernel
theorem dX10_layDelimiters_68 : decode cX10_layDelimiters 68 = .ok (.iinc 3 1, 3) := by decide +kernel
theorem dX10_layDelimiters_71 : decode cX10_layDelimiters 71 = .ok (.goto (-37), 3) := by decide +kernel
theorem dX10_layDelimiters_74 : decode cX10_layDelimiters 74 = .ok (.return_, 1) := by decide +kernel
set_option maxRecDepth 20000 in
theorem ggX10_make_X10_tokenText : GoodIn wsX10_make wsX10_tokenText := goodIn_r _ [7] (by decide +kernel) (by decide +kernel)
set_option maxRecDepth 20000 in
theorem gX10_make_X10_tokenText : GoodIn wsX10_make (va_wsS RX10 200 yX10_tokenText wsX10_tokenText) := goodIn_app (goodIn_of _ (by decide +kernel)) ggX10_make_X10_tokenText
set_option maxRecDepth 20000 in
theorem ggX10_make_X10_copyText : GoodIn wsX10_make wsX10_copyText := goodIn_r _ [11, 12, 33, 34, 35, 36, 37, 38, 39, 40, 41, 42, 43, 44, 45, 46, 47, 48, 49, 50, 51, 52, 53] (by decide +kernel) (by decide +kernel)
set_option maxRecDepth 20000 in
theorem gX10_make_X10_copyText : GoodIn wsX10_make (wsV RX10 70 RX10 yX10_copyText wsX10_copyText) := goodIn_app (goodIn_of _ (by decide +kernel)) ggX10_make_X10_copyText
set_option maxRecDepth 20000 in
theorem ggX10_make_X10_counted : GoodIn wsX10_make wsX10_counted := goodIn_r _ [16, 3, 12, 17, 18, 19, 6, 20, 2, 4, 5, 7, 21, 22, 23, 24, 25, 26, 27, 28, 29, 30, 31, 32, 33, 34, 35, 36, 37, 38, 39, 40, 41, 42, 43, 44, 45, 46, 47, 48, 49, 50, 51, 52, 53] (by decide +kernel) (by decide +kernel)
set_option maxRecDepth 20000 in
theorem gX10_make_X10_counted : GoodIn wsX10_make (wsV RX10 203 RX10 yX10_counted wsX10_counted) := goodIn_app (goodIn_of _ (by decide +kernel)) ggX10_make_X10_counted
theorem dX10_make_0 : decode cX10_make 0 = .ok (.aload_n 0, 1) := by decide +kernel
theorem dX10_make_1 : decode cX10_make 1 = .ok (.iload_n 2, 1) := by decide +kernel
theorem dX10_make_2 : decode cX10_make 2 = .ok (.iload_n 1, 1) := by decide +kernel
theorem dX10_make_3 : decode cX10_make 3 = .ok (.invokestatic 200, 3) := by decide +kernel
theorem dX10_make_6 : decode cX10_make 6 = .ok (.invokevirtual 70, 3) := by decide +kernel
theorem dX10_make_9 : decode cX10_make 9 = .ok (.aload_n 0, 1) := by decide +kernel
theorem dX10_make_10 : decode cX10_make 10 = .ok (.getfield 27, 3) := by decide +kernel
theorem dX10_make_13 : decode cX10_make 13 = .ok (.iload_n 1, 1) := by decide +kernel
theorem dX10_make_14 : decode cX10_make 14 = .ok (.iconst 1, 1) := by decide +kernel
theorem dX10_make_15 : decode cX10_make 15 = .ok (.bastore, 1) := by decide +kernel
theorem dX10_make_16 : decode cX10_make 16 = .ok (.aload_n 0, 1) := by decide +kernel
theorem dX10_make_17 : decode cX10_make 17 = .ok (.getfield 30, 3) := by decide +kernel
theorem dX10_make_20 : decode cX10_make 20 = .ok (.iload_n 1, 1) := by decide +kernel
theorem dX10_make_21 : decode cX10_make 21 = .ok (.iload_n 3, 1) := by decide +kernel
theorem dX10_make_22 : decode cX10_make 22 = .ok (.bastore, 1) := by decide +kernel
theorem dX10_make_23 : decode cX10_make 23 = .ok (.aload_n 0, 1) := by decide +kernel
theorem dX10_make_24 : decode cX10_make 24 = .ok (.getfield 33, 3) := by decide +kernel
theorem dX10_make_27 : decode cX10_make 27 = .ok (.iload_n 1, 1) := by decide +kernel
theorem dX10_make_28 : decode cX10_make 28 = .ok (.iconst 0, 1) := by decide +kernel
theorem dX10_make_29 : decode cX10_make 29 = .ok (.iastore, 1) := by decide +kernel
theorem dX10_make_30 : decode cX10_make 30 = .ok (.aload_n 0, 1) := by decide +kernel
theorem dX10_make_31 : decode cX10_make 31 = .ok (.iload_n 1, 1) := by decide +kernel
theorem dX10_make_32 : decode cX10_make 32 = .ok (.invokevirtual 203, 3) := by decide +kernel
theorem dX10_make_35 : decode cX10_make 35 = .ok (.ireturn, 1) := by decide +kernel
set_option maxRecDepth 20000 in
theorem ggX10_signOf_X10_tokenText : GoodIn wsX10_signOf wsX10_tokenText := goodIn_r _ [5] (by decide +kernel) (by decide +kernel)
set_option maxRecDepth 20000 in
theorem gX10_signOf_X10_tokenText : GoodIn wsX10_signOf (va_wsS RX10 200 yX10_tokenText wsX10_tokenText) := goodIn_app (goodIn_of _ (by decide +kernel)) ggX10_signOf_X10_tokenText
theorem dX10_signOf_0 : decode cX10_signOf 0 = .ok (.aload_n 0, 1) := by decide +kernel
theorem dX10_signOf_1 : decode cX10_signOf 1 = .ok (.getfield 8, 3) := by decide +kernel
theorem dX10_signOf_4 : decode cX10_signOf 4 = .ok (.iload_n 1, 1) := by decide +kernel
theorem dX10_signOf_5 : decode cX10_signOf 5 = .ok (.invokestatic 200, 3) := by decide +kernel
theorem dX10_signOf_8 : decode cX10_signOf 8 = .ok (.iconst 1, 1) := by decide +kernel
theorem dX10_signOf_9 : decode cX10_signOf 9 = .ok (.iadd, 1) := by decide +kernel
theorem dX10_signOf_10 : decode cX10_signOf 10 = .ok (.iload_n 2, 1) := by decide +kernel
theorem dX10_signOf_11 : decode cX10_signOf 11 = .ok (.iadd, 1) := by decide +kernel
theorem dX10_signOf_12 : decode cX10_signOf 12 = .ok (.iaload, 1) := by decide +kernel
theorem dX10_signOf_13 : decode cX10_signOf 13 = .ok (.ireturn, 1) := by decide +kernel
set_option maxRecDepth 20000 in
theorem ggX10_beginOf_X10_tokenText : GoodIn wsX10_beginOf wsX10_tokenText := goodIn_r _ [6] (by decide +kernel) (by decide +kernel)
set_option maxRecDepth 20000 in
theorem gX10_beginOf_X10_tokenText : GoodIn wsX10_beginOf (va_wsS RX10 200 yX10_tokenText wsX10_tokenText) := goodIn_app (goodIn_of _ (by decide +kernel)) ggX10_beginOf_X10_tokenText
set_option maxRecDepth 20000 in
theorem ggX10_beginOf_X10_signOf : GoodIn wsX10_beginOf wsX10_signOf := goodIn_r _ [10, 2, 3, 4, 5, 6, 15, 16, 17, 18, 19, 20, 21, 22, 23, 24, 25, 26, 27, 28, 29, 30, 31, 32, 33, 34, 35] (by decide +kernel) (by decide +kernel)
set_option maxRecDepth 20000 in
theorem gX10_beginOf_X10_signOf : GoodIn wsX10_beginOf (wsV RX10 206 RX10 yX10_signOf wsX10_signOf) := goodIn_app (goodIn_of _ (by decide +kernel)) ggX10_beginOf_X10_signOf
set_option maxRecDepth 20000 in
theorem ggX10_beginOf_X10_isDelimiter : GoodIn wsX10_beginOf wsX10_isDelimiter := goodIn_r _ [14, 2, 15, 16, 17, 18, 19, 20, 21, 22, 23, 24, 25, 26, 27, 28, 29, 30, 31, 32, 33, 34, 35] (by decide +kernel) (by decide +kernel)
set_option maxRecDepth 20000 in
theorem gX10_beginOf_X10_isDelimiter : GoodIn wsX10_beginOf (wsV RX10 209 RX10 yX10_isDelimiter wsX10_isDelimiter) := goodIn_app (goodIn_of _ (by decide +kernel)) ggX10_beginOf_X10_isDelimiter
theorem dX10_beginOf_0 : decode cX10_beginOf 0 = .ok (.iload_n 2, 1) := by decide +kernel
theorem dX10_beginOf_1 : decode cX10_beginOf 1 = .ok (.istore_n 3, 1) := by decide +kernel
theorem dX10_beginOf_2 : decode cX10_beginOf 2 = .ok (.aload_n 0, 1) := by decide +kernel
theorem dX10_beginOf_3 : decode cX10_beginOf 3 = .ok (.getfield 30, 3) := by decide +kernel
theorem dX10_beginOf_6 : decode cX10_beginOf 6 = .ok (.iload_n 1, 1) := by decide +kernel
theorem dX10_beginOf_7 : decode cX10_beginOf 7 = .ok (.baload, 1) := by decide +kernel
theorem dX10_beginOf_8 : decode cX10_beginOf 8 = .ok (.ifCond .ne 36, 3) := by decide +kernel
theorem dX10_beginOf_11 : decode cX10_beginOf 11 = .ok (.iload_n 3, 1) := by decide +kernel
theorem dX10_beginOf_12 : decode cX10_beginOf 12 = .ok (.aload_n 0, 1) := by decide +kernel
theorem dX10_beginOf_13 : decode cX10_beginOf 13 = .ok (.getfield 8, 3) := by decide +kernel
theorem dX10_beginOf_16 : decode cX10_beginOf 16 = .ok (.iload_n 1, 1) := by decide +kernel
theorem dX10_beginOf_17 : decode cX10_beginOf 17 = .ok (.invokestatic 200, 3) := by decide +kernel
theorem dX10_beginOf_20 : decode cX10_beginOf 20 = .ok (.iaload, 1) := by decide +kernel
theorem dX10_beginOf_21 : decode cX10_beginOf 21 = .ok (.if_icmp .ge 23, 3) := by decide +kernel
theorem dX10_beginOf_24 : decode cX10_beginOf 24 = .ok (.aload_n 0, 1) := by decide +kernel
theorem dX10_beginOf_25 : decode cX10_beginOf 25 = .ok (.iload_n 1, 1) := by decide +kernel
theorem dX10_beginOf_26 : decode cX10_beginOf 26 = .ok (.aload_n 0, 1) := by decide +kernel
theorem dX10_beginOf_27 : decode cX10_beginOf 27 = .ok (.iload_n 1, 1) := by decide +kernel
theorem dX10_beginOf_28 : decode cX10_beginOf 28 = .ok (.iload_n 3, 1) := by decide +kernel
theorem dX10_beginOf_29 : decode cX10_beginOf 29 = .ok (.invokevirtual 206, 3) := by decide +kernel
theorem dX10_beginOf_32 : decode cX10_beginOf 32 = .ok (.invokevirtual 209, 3) := by decide +kernel
theorem dX10_beginOf_35 : decode cX10_beginOf 35 = .ok (.ifCond .eq 9, 3) := by decide +kernel
theorem dX10_beginOf_38 : decode cX10_beginOf 38 = .ok (.iinc 3 1, 3) := by decide +kernel
theorem dX10_beginOf_41 : decode cX10_beginOf 41 = .ok (.goto (-39), 3) := by decide +kernel
theorem dX10_beginOf_44 : decode cX10_beginOf 44 = .ok (.iload_n 3, 1) := by decide +kernel
theorem dX10_beginOf_45 : decode cX10_beginOf 45 = .ok (.ireturn, 1) := by decide +kernel
set_option maxRecDepth 20000 in
theorem ggX10_endOf_X10_signOf : GoodIn wsX10_endOf wsX10_signOf := goodIn_r _ [6, 1, 7, 8, 5, 9, 14, 15, 16, 17, 18, 19, 20, 21, 22, 23, 24, 25, 26, 27, 28, 29, 30, 31, 32, 33, 34] (by decide +kernel) (by decide +kernel)
set_option maxRecDepth 20000 in
theorem gX10_endOf_X10_signOf : GoodIn wsX10_endOf (wsV RX10 206 RX10 yX10_signOf wsX10_signOf) := goodIn_app (goodIn_of _ (by decide +kernel)) ggX10_endOf_X10_signOf
set_option maxRecDepth 20000 in
theorem ggX10_endOf_X10_isDelimiter : GoodIn wsX10_endOf wsX10_isDelimiter := goodIn_r _ [13, 1, 14, 15, 16, 17, 18, 19, 20, 21, 22, 23, 24, 25, 26, 27, 28, 29, 30, 31, 32, 33, 34] (by decide +kernel) (by decide +kernel)
set_option maxRecDepth 20000 in
theorem gX10_endOf_X10_isDelimiter : GoodIn wsX10_endOf (wsV RX10 209 RX10 yX10_isDelimiter wsX10_isDelimiter) := goodIn_app (goodIn_of _ (by decide +kernel)) ggX10_endOf_X10_isDelimiter
set_option maxRecDepth 20000 in
theorem ggX10_endOf_X10_tokenText : GoodIn wsX10_endOf wsX10_tokenText := goodIn_r _ [9] (by decide +kernel) (by decide +kernel)
set_option maxRecDepth 20000 in
theorem gX10_endOf_X10_tokenText : GoodIn wsX10_endOf (va_wsS RX10 200 yX10_tokenText wsX10_tokenText) := goodIn_app (goodIn_of _ (by decide +kernel)) ggX10_endOf_X10_tokenText
theorem dX10_endOf_0 : decode cX10_endOf 0 = .ok (.aload_n 0, 1) := by decide +kernel
theorem dX10_endOf_1 : decode cX10_endOf 1 = .ok (.iload_n 1, 1) := by decide +kernel
theorem dX10_endOf_2 : decode cX10_endOf 2 = .ok (.aload_n 0, 1) := by decide +kernel
theorem dX10_endOf_3 : decode cX10_endOf 3 = .ok (.iload_n 1, 1) := by decide +kernel
theorem dX10_endOf_4 : decode cX10_endOf 4 = .ok (.iload_n 2, 1) := by decide +kernel
theorem dX10_endOf_5 : decode cX10_endOf 5 = .ok (.invokevirtual 206, 3) := by decide +kernel
theorem dX10_endOf_8 : decode cX10_endOf 8 = .ok (.invokevirtual 209, 3) := by decide +kernel
theorem dX10_endOf_11 : decode cX10_endOf 11 = .ok (.ifCond .eq 7, 3) := by decide +kernel
theorem dX10_endOf_14 : decode cX10_endOf 14 = .ok (.iload_n 2, 1) := by decide +kernel
theorem dX10_endOf_15 : decode cX10_endOf 15 = .ok (.iconst 1, 1) := by decide +kernel
theorem dX10_endOf_16 : decode cX10_endOf 16 = .ok (.iadd, 1) := by decide +kernel
theorem dX10_endOf_17 : decode cX10_endOf 17 = .ok (.ireturn, 1) := by decide +kernel
theorem dX10_endOf_18 : decode cX10_endOf 18 = .ok (.iload_n 2, 1) := by decide +kernel
theorem dX10_endOf_19 : decode cX10_endOf 19 = .ok (.istore_n 3, 1) := by decide +kernel
theorem dX10_endOf_20 : decode cX10_endOf 20 = .ok (.iload_n 3, 1) := by decide +kernel
theorem dX10_endOf_21 : decode cX10_endOf 21 = .ok (.aload_n 0, 1) := by decide +kernel
theorem dX10_endOf_22 : decode cX10_endOf 22 = .ok (.getfield 8, 3) := by decide +kernel
theorem dX10_endOf_25 : decode cX10_endOf 25 = .ok (.iload_n 1, 1) := by decide +kernel
theorem dX10_endOf_26 : decode cX10_endOf 26 = .ok (.invokestatic 200, 3) := by decide +kernel
theorem dX10_endOf_29 : decode cX10_endOf 29 = .ok (.iaload, 1) := by decide +kernel
theorem dX10_endOf_30 : decode cX10_endOf 30 = .ok (.if_icmp .ge 23, 3) := by decide +kernel
theorem dX10_endOf_33 : decode cX10_endOf 33 = .ok (.aload_n 0, 1) := by decide +kernel
theorem dX10_endOf_34 : decode cX10_endOf 34 = .ok (.iload_n 1, 1) := by decide +kernel
theorem dX10_endOf_35 : decode cX10_endOf 35 = .ok (.aload_n 0, 1) := by decide +kernel
theorem dX10_endOf_36 : decode cX10_endOf 36 = .ok (.iload_n 1, 1) := by decide +kernel
theorem dX10_endOf_37 : decode cX10_endOf 37 = .ok (.iload_n 3, 1) := by decide +kernel
theorem dX10_endOf_38 : decode cX10_endOf 38 = .ok (.invokevirtual 206, 3) := by decide +kernel
theorem dX10_endOf_41 : decode cX10_endOf 41 = .ok (.invokevirtual 209, 3) := by decide +kernel
theorem dX10_endOf_44 : decode cX10_endOf 44 = .ok (.ifCond .ne 9, 3) := by decide +kernel
theorem dX10_endOf_47 : decode cX10_endOf 47 = .ok (.iinc 3 1, 3) := by decide +kernel
theorem dX10_endOf_50 : decode cX10_endOf 50 = .ok (.goto (-30), 3) := by decide +kernel
theorem dX10_endOf_53 : decode cX10_endOf 53 = .ok (.iload_n 3, 1) := by decide +kernel
theorem dX10_endOf_54 : decode cX10_endOf 54 = .ok (.ireturn, 1) := by decide +kernel
set_option maxRecDepth 20000 in
theorem ggX10_counted_X10_beginOf : GoodIn wsX10_counted wsX10_beginOf := goodIn_r _ [7, 8, 2, 9, 10, 6, 11, 12, 13, 14, 15, 16, 17, 18, 19, 24, 25, 26, 27, 28, 29, 30, 31, 32, 33, 34, 35, 36, 37, 38, 39, 40, 41, 42, 43, 44] (by decide +kernel) (by decide +kernel)
set_option maxRecDepth 20000 in
theorem gX10_counted_X10_beginOf : GoodIn wsX10_counted (wsV RX10 213 RX10 yX10_beginOf wsX10_beginOf) := goodIn_app (goodIn_of _ (by decide +kernel)) ggX10_counted_X10_beginOf
set_option maxRecDepth 20000 in
theorem ggX10_counted_X10_tokenText : GoodIn wsX10_counted wsX10_tokenText := goodIn_r _ [11] (by decide +kernel) (by decide +kernel)
set_option maxRecDepth 20000 in
theorem gX10_counted_X10_tokenText : GoodIn wsX10_counted (va_wsS RX10 200 yX10_tokenText wsX10_tokenText) := goodIn_app (goodIn_of _ (by decide +kernel)) ggX10_counted_X10_tokenText
set_option maxRecDepth 20000 in
theorem ggX10_counted_X10_endOf : GoodIn wsX10_counted wsX10_endOf := goodIn_r _ [23, 2, 12, 13, 14, 6, 15, 9, 10, 11, 16, 17, 18, 19, 24, 25, 26, 27, 28, 29, 30, 31, 32, 33, 34, 35, 36, 37, 38, 39, 40, 41, 42, 43, 44] (by decide +kernel) (by decide +kernel)
set_option maxRecDepth 20000 in
theorem gX10_counted_X10_endOf : GoodIn wsX10_counted (wsV RX10 216 RX10 yX10_endOf wsX10_endOf) := goodIn_app (goodIn_of _ (by decide +kernel)) ggX10_counted_X10_endOf
theorem dX10_counted_0 : decode cX10_counted 0 = .ok (.iconst 0, 1) := by decide +kernel
theorem dX10_counted_1 : decode cX10_counted 1 = .ok (.istore_n 2, 1) := by decide +kernel
theorem dX10_counted_2 : decode cX10_counted 2 = .ok (.aload_n 0, 1) := by decide +kernel
theorem dX10_counted_3 : decode cX10_counted 3 = .ok (.iload_n 1, 1) := by decide +kernel
theorem dX10_counted_4 : decode cX10_counted 4 = .ok (.aload_n 0, 1) := by decide +kernel
theorem dX10_counted_5 : decode cX10_counted 5 = .ok (.getfield 33, 3) := by decide +kernel
theorem dX10_counted_8 : decode cX10_counted 8 = .ok (.iload_n 1, 1) := by decide +kernel
theorem dX10_counted_9 : decode cX10_counted 9 = .ok (.iaload, 1) := by decide +kernel
theorem dX10_counted_10 : decode cX10_counted 10 = .ok (.invokevirtual 213, 3) := by decide +kernel
theorem dX10_counted_13 : decode cX10_counted 13 = .ok (.istore_n 3, 1) := by decide +kernel
theorem dX10_counted_14 : decode cX10_counted 14 = .ok (.iload_n 3, 1) := by decide +kernel
theorem dX10_counted_15 : decode cX10_counted 15 = .ok (.aload_n 0, 1) := by decide +kernel
theorem dX10_counted_16 : decode cX10_counted 16 = .ok (.getfield 8, 3) := by decide +kernel
theorem dX10_counted_19 : decode cX10_counted 19 = .ok (.iload_n 1, 1) := by decide +kernel
theorem dX10_counted_20 : decode cX10_counted 20 = .ok (.invokestatic 200, 3) := by decide +kernel
theorem dX10_counted_23 : decode cX10_counted 23 = .ok (.iaload, 1) := by decide +kernel
theorem dX10_counted_24 : decode cX10_counted 24 = .ok (.if_icmp .ge 21, 3) := by decide +kernel
theorem dX10_counted_27 : decode cX10_counted 27 = .ok (.iinc 2 1, 3) := by decide +kernel
theorem dX10_counted_30 : decode cX10_counted 30 = .ok (.aload_n 0, 1) := by decide +kernel
theorem dX10_counted_31 : decode cX10_counted 31 = .ok (.iload_n 1, 1) := by decide +kernel
theorem dX10_counted_32 : decode cX10_counted 32 = .ok (.aload_n 0, 1) := by decide +kernel
theorem dX10_counted_33 : decode cX10_counted 33 = .ok (.iload_n 1, 1) := by decide +kernel
theorem dX10_counted_34 : decode cX10_counted 34 = .ok (.iload_n 3, 1) := by decide +kernel
theorem dX10_counted_35 : decode cX10_counted 35 = .ok (.invokevirtual 216, 3) := by decide +kernel
theorem dX10_counted_38 : decode cX10_counted 38 = .ok (.invokevirtual 213, 3) := by decide +kernel
theorem dX10_counted_41 : decode cX10_counted 41 = .ok (.istore_n 3, 1) := by decide +kernel
theorem dX10_counted_42 : decode cX10_counted 42 = .ok (.goto (-28), 3) := by decide +kernel
theorem dX10_counted_45 : decode cX10_counted 45 = .ok (.iload_n 2, 1) := by decide +kernel
theorem dX10_counted_46 : decode cX10_counted 46 = .ok (.ireturn, 1) := by decide +kernel
set_option maxRecDepth 20000 in
theorem ggX10_tokenize_X10_isTokenizer : GoodIn wsX10_tokenize wsX10_isTokenizer := goodIn_r _ [5] (by decide +kernel) (by decide +kernel)
set_option maxRecDepth 20000 in
theorem gX10_tokenize_X10_isTokenizer : GoodIn wsX10_tokenize (va_wsS RX10 219 yX10_isTokenizer wsX10_isTokenizer) := goodIn_app (goodIn_of _ (by decide +kernel)) ggX10_tokenize_X10_isTokenizer
set_option maxRecDepth 20000 in
theorem ggX10_tokenize_X10_isSlot : GoodIn wsX10_tokenize wsX10_isSlot := goodIn_r _ [8] (by decide +kernel) (by decide +kernel)
set_option maxRecDepth 20000 in
theorem gX10_tokenize_X10_isSlot : GoodIn wsX10_tokenize (va_wsS RX10 59 yX10_isSlot wsX10_isSlot) := goodIn_app (goodIn_of _ (by decide +kernel)) ggX10_tokenize_X10_isSlot
set_option maxRecDepth 20000 in
theorem ggX10_tokenize_X10_hasNothing : GoodIn wsX10_tokenize wsX10_hasNothing := goodIn_r _ [12, 1, 13, 14, 4, 15, 63, 64, 65, 66, 67, 68, 69, 70, 71, 72, 73, 74, 75, 76, 77, 78, 79, 80, 81, 82, 83] (by decide +kernel) (by decide +kernel)
set_option maxRecDepth 20000 in
theorem gX10_tokenize_X10_hasNothing : GoodIn wsX10_tokenize (wsV RX10 63 RX10 yX10_hasNothing wsX10_hasNothing) := goodIn_app (goodIn_of _ (by decide +kernel)) ggX10_tokenize_X10_hasNothing
set_option maxRecDepth 20000 in
theorem ggX10_tokenize_X10_refusedNull : GoodIn wsX10_tokenize wsX10_refusedNull := goodIn_r _ [19, 20, 63, 64, 65, 66, 67, 68, 69, 70, 71, 72, 73, 74, 75, 76, 77, 78, 79, 80, 81, 82, 83] (by decide +kernel) (by decide +kernel)
set_option maxRecDepth 20000 in
theorem gX10_tokenize_X10_refusedNull : GoodIn wsX10_tokenize (wsV RX10 176 RX10 yX10_refusedNull wsX10_refusedNull) := goodIn_app (goodIn_of _ (by decide +kernel)) ggX10_tokenize_X10_refusedNull
set_option maxRecDepth 20000 in
theorem ggX10_tokenize_X10_addSign : GoodIn wsX10_tokenize wsX10_addSign := goodIn_r _ [24, 1, 63, 64, 65, 66, 67, 68, 69, 70, 71, 72, 73, 74, 75, 76, 77, 78, 79, 80, 81, 82, 83] (by decide +kernel) (by decide +kernel)
set_option maxRecDepth 20000 in
theorem gX10_tokenize_X10_addSign : GoodIn wsX10_tokenize (wsV RX10 66 RX10 yX10_addSign wsX10_addSign) := goodIn_app (goodIn_of _ (by decide +kernel)) ggX10_tokenize_X10_addSign
set_option maxRecDepth 20000 in
theorem ggX10_tokenize_X10_layDelimiters : GoodIn wsX10_tokenize wsX10_layDelimiters := goodIn_r _ [28, 1, 63, 64, 65, 66, 67, 68, 69, 70, 71, 72, 73, 74, 75, 76, 77, 78, 79, 80, 81, 82, 83] (by decide +kernel) (by decide +kernel)
set_option maxRecDepth 20000 in
theorem gX10_tokenize_X10_layDelimiters : GoodIn wsX10_tokenize (wsV RX10 222 RX10 yX10_layDelimiters wsX10_layDelimiters) := goodIn_app (goodIn_of _ (by decide +kernel)) ggX10_tokenize_X10_layDelimiters
set_option maxRecDepth 20000 in
theorem ggX10_tokenize_X10_at : GoodIn wsX10_tokenize wsX10_at := goodIn_r _ [15] (by decide +kernel) (by decide +kernel)
set_option maxRecDepth 20000 in
theorem gX10_tokenize_X10_at : GoodIn wsX10_tokenize (va_wsS RX10 51 yX10_at wsX10_at) := goodIn_app (goodIn_of _ (by decide +kernel)) ggX10_tokenize_X10_at
set_option maxRecDepth 20000 in
theorem ggX10_tokenize_X10_make : GoodIn wsX10_tokenize wsX10_make := goodIn_r _ [32, 33, 34, 35, 36, 37, 4, 38, 39, 40, 41, 42, 1, 43, 44, 45, 46, 47, 48, 49, 50, 51, 52, 53, 54, 55, 56, 57, 58, 59, 60, 61, 62, 63, 64, 65, 66, 67, 68, 69, 70, 71, 72, 73, 74, 75, 76, 77, 78, 79, 80, 81, 82, 83] (by decide +kernel) (by decide +kernel)
set_option maxRecDepth 20000 in
theorem gX10_tokenize_X10_make : GoodIn wsX10_tokenize (wsV RX10 225 RX10 yX10_make wsX10_make) := goodIn_app (goodIn_of _ (by decide +kernel)) ggX10_tokenize_X10_make
theorem dX10_tokenize_0 : decode cX10_tokenize 0 = .ok (.iload_n 1, 1) := by decide +kernel
theorem dX10_tokenize_1 : decode cX10_tokenize 1 = .ok (.invokestatic 219, 3) := by decide +kernel
theorem dX10_tokenize_4 : decode cX10_tokenize 4 = .ok (.ifCond .eq 10, 3) := by decide +kernel
theorem dX10_tokenize_7 : decode cX10_tokenize 7 = .ok (.iload_n 2, 1) := by decide +kernel
theorem dX10_tokenize_8 : decode cX10_tokenize 8 = .ok (.invokestatic 59, 3) := by decide +kernel
theorem dX10_tokenize_11 : decode cX10_tokenize 11 = .ok (.ifCond .ne 5, 3) := by decide +kernel
theorem dX10_tokenize_14 : decode cX10_tokenize 14 = .ok (.iconst (-1), 1) := by decide +kernel
theorem dX10_tokenize_15 : decode cX10_tokenize 15 = .ok (.ireturn, 1) := by decide +kernel
theorem dX10_tokenize_16 : decode cX10_tokenize 16 = .ok (.aload_n 0, 1) := by decide +kernel
theorem dX10_tokenize_17 : decode cX10_tokenize 17 = .ok (.iload_n 2, 1) := by decide +kernel
theorem dX10_tokenize_18 : decode cX10_tokenize 18 = .ok (.invokevirtual 63, 3) := by decide +kernel
theorem dX10_tokenize_21 : decode cX10_tokenize 21 = .ok (.ifCond .eq 8, 3) := by decide +kernel
theorem dX10_tokenize_24 : decode cX10_tokenize 24 = .ok (.aload_n 0, 1) := by decide +kernel
theorem dX10_tokenize_25 : decode cX10_tokenize 25 = .ok (.invokevirtual 176, 3) := by decide +kernel
theorem dX10_tokenize_28 : decode cX10_tokenize 28 = .ok (.ireturn, 1) := by decide +kernel
theorem dX10_tokenize_29 : decode cX10_tokenize 29 = .ok (.aload_n 0, 1) := by decide +kernel
theorem dX10_tokenize_30 : decode cX10_tokenize 30 = .ok (.getfield 8, 3) := by decide +kernel
theorem dX10_tokenize_33 : decode cX10_tokenize 33 = .ok (.sipush 1806, 3) := by decide +kernel
theorem dX10_tokenize_36 : decode cX10_tokenize 36 = .ok (.iconst 0, 1) := by decide +kernel
theorem dX10_tokenize_37 : decode cX10_tokenize 37 = .ok (.iastore, 1) := by decide +kernel
theorem dX10_tokenize_38 : decode cX10_tokenize 38 = .ok (.aload_n 0, 1) := by decide +kernel
theorem dX10_tokenize_39 : decode cX10_tokenize 39 = .ok (.sipush 1806, 3) := by decide +kernel
theorem dX10_tokenize_42 : decode cX10_tokenize 42 = .ok (.bipush 32, 2) := by decide +kernel
theorem dX10_tokenize_44 : decode cX10_tokenize 44 = .ok (.invokevirtual 66, 3) := by decide +kernel
theorem dX10_tokenize_47 : decode cX10_tokenize 47 = .ok (.aload_n 0, 1) := by decide +kernel
theorem dX10_tokenize_48 : decode cX10_tokenize 48 = .ok (.sipush 1806, 3) := by decide +kernel
theorem dX10_tokenize_51 : decode cX10_tokenize 51 = .ok (.bipush 9, 2) := by decide +kernel
theorem dX10_tokenize_53 : decode cX10_tokenize 53 = .ok (.invokevirtual 66, 3) := by decide +kernel
theorem dX10_tokenize_56 : decode cX10_tokenize 56 = .ok (.aload_n 0, 1) := by decide +kernel
theorem dX10_tokenize_57 : decode cX10_tokenize 57 = .ok (.sipush 1806, 3) := by decide +kernel
theorem dX10_tokenize_60 : decode cX10_tokenize 60 = .ok (.bipush 10, 2) := by decide +kernel
theorem dX10_tokenize_62 : decode cX10_tokenize 62 = .ok (.invokevirtual 66, 3) := by decide +kernel
theorem dX10_tokenize_65 : decode cX10_tokenize 65 = .ok (.aload_n 0, 1) := by decide +kernel
theorem dX10_tokenize_66 : decode cX10_tokenize 66 = .ok (.sipush 1806, 3) := by decide +kernel
theorem dX10_tokenize_69 : decode cX10_tokenize 69 = .ok (.bipush 13, 2) := by decide +kernel
theorem dX10_tokenize_71 : decode cX10_tokenize 71 = .ok (.invokevirtual 66, 3) := by decide +kernel
theorem dX10_tokenize_74 : decode cX10_tokenize 74 = .ok (.aload_n 0, 1) := by decide +kernel
theorem dX10_tokenize_75 : decode cX10_tokenize 75 = .ok (.sipush 1806, 3) := by decide +kernel
theorem dX10_tokenize_78 : decode cX10_tokenize 78 = .ok (.bipush 12, 2) := by decide +kernel
theorem dX10_tokenize_80 : decode cX10_tokenize 80 = .ok (.invokevirtual 66, 3) := by decide +kernel
theorem dX10_tokenize_83 : decode cX10_tokenize 83 = .ok (.aload_n 0, 1) := by decide +kernel
theorem dX10_tokenize_84 : decode cX10_tokenize 84 = .ok (.iload_n 1, 1) := by decide +kernel
theorem dX10_tokenize_85 : decode cX10_tokenize 85 = .ok (.sipush 1806, 3) := by decide +kernel
theorem dX10_tokenize_88 : decode cX10_tokenize 88 = .ok (.invokevirtual 222, 3) := by decide +kernel
theorem dX10_tokenize_91 : decode cX10_tokenize 91 = .ok (.aload_n 0, 1) := by decide +kernel
theorem dX10_tokenize_92 : decode cX10_tokenize 92 = .ok (.iload_n 1, 1) := by decide +kernel
theorem dX10_tokenize_93 : decode cX10_tokenize 93 = .ok (.iload_n 2, 1) := by decide +kernel
theorem dX10_tokenize_94 : decode cX10_tokenize 94 = .ok (.invokestatic 51, 3) := by decide +kernel
theorem dX10_tokenize_97 : decode cX10_tokenize 97 = .ok (.iconst 0, 1) := by decide +kernel
theorem dX10_tokenize_98 : decode cX10_tokenize 98 = .ok (.invokevirtual 225, 3) := by decide +kernel
theorem dX10_tokenize_101 : decode cX10_tokenize 101 = .ok (.ireturn, 1) := by decide +kernel
set_option maxRecDepth 20000 in
theorem ggX10_tokenizeTold_X10_isTokenizer : GoodIn wsX10_tokenizeTold wsX10_isTokenizer := goodIn_r _ [4] (by decide +kernel) (by decide +kernel)
set_option maxRecDepth 20000 in
theorem gX10_tokenizeTold_X10_isTokenizer : GoodIn wsX10_tokenizeTold (va_wsS RX10 219 yX10_isTokenizer wsX10_isTokenizer) := goodIn_app (goodIn_of _ (by decide +kernel)) ggX10_tokenizeTold_X10_isTokenizer
set_option maxRecDepth 20000 in
theorem ggX10_tokenizeTold_X10_isSlot : GoodIn wsX10_tokenizeTold wsX10_isSlot := goodIn_r _ [7] (by decide +kernel) (by decide +kernel)
set_option maxRecDepth 20000 in
theorem gX10_tokenizeTold_X10_isSlot : GoodIn wsX10_tokenizeTold (va_wsS RX10 59 yX10_isSlot wsX10_isSlot) := goodIn_app (goodIn_of _ (by decide +kernel)) ggX10_tokenizeTold_X10_isSlot
set_option maxRecDepth 20000 in
theorem ggX10_tokenizeTold_X10_hasNothing : GoodIn wsX10_tokenizeTold wsX10_hasNothing := goodIn_r _ [11, 12, 13, 14, 3, 15, 59, 60, 61, 62, 63, 64, 65, 66, 67, 68, 69, 70, 71, 72, 73, 74, 75, 76, 77, 78, 79] (by decide +kernel) (by decide +kernel)
set_option maxRecDepth 20000 in
theorem gX10_tokenizeTold_X10_hasNothing : GoodIn wsX10_tokenizeTold (wsV RX10 63 RX10 yX10_hasNothing wsX10_hasNothing) := goodIn_app (goodIn_of _ (by decide +kernel)) ggX10_tokenizeTold_X10_hasNothing
set_option maxRecDepth 20000 in
theorem ggX10_tokenizeTold_X10_refusedNull : GoodIn wsX10_tokenizeTold wsX10_refusedNull := goodIn_r _ [19, 20, 59, 60, 61, 62, 63, 64, 65, 66, 67, 68, 69, 70, 71, 72, 73, 74, 75, 76, 77, 78, 79] (by decide +kernel) (by decide +kernel)
set_option maxRecDepth 20000 in
theorem gX10_tokenizeTold_X10_refusedNull : GoodIn wsX10_tokenizeTold (wsV RX10 176 RX10 yX10_refusedNull wsX10_refusedNull) := goodIn_app (goodIn_of _ (by decide +kernel)) ggX10_tokenizeTold_X10_refusedNull
set_option maxRecDepth 20000 in
theorem ggX10_tokenizeTold_X10_at : GoodIn wsX10_tokenizeTold wsX10_at := goodIn_r _ [15] (by decide +kernel) (by decide +kernel)
set_option maxRecDepth 20000 in
theorem gX10_tokenizeTold_X10_at : GoodIn wsX10_tokenizeTold (va_wsS RX10 51 yX10_at wsX10_at) := goodIn_app (goodIn_of _ (by decide +kernel)) ggX10_tokenizeTold_X10_at
set_option maxRecDepth 20000 in
theorem ggX10_tokenizeTold_X10_layDelimiters : GoodIn wsX10_tokenizeTold wsX10_layDelimiters := goodIn_r _ [24, 12, 59, 60, 61, 62, 63, 64, 65, 66, 67, 68, 69, 70, 71, 72, 73, 74, 75, 76, 77, 78, 79] (by decide +kernel) (by decide +kernel)
set_option maxRecDepth 20000 in
theorem gX10_tokenizeTold_X10_layDelimiters : GoodIn wsX10_tokenizeTold (wsV RX10 222 RX10 yX10_layDelimiters wsX10_layDelimiters) := goodIn_app (goodIn_of _ (by decide +kernel)) ggX10_tokenizeTold_X10_layDelimiters
set_option maxRecDepth 20000 in
theorem ggX10_tokenizeTold_X10_make : GoodIn wsX10_tokenizeTold wsX10_make := goodIn_r _ [28, 29, 30, 31, 32, 33, 3, 34, 35, 36, 37, 38, 12, 39, 40, 41, 42, 43, 44, 45, 46, 47, 48, 49, 50, 51, 52, 53, 54, 55, 56, 57, 58, 59, 60, 61, 62, 63, 64, 65, 66, 67, 68, 69, 70, 71, 72, 73, 74, 75, 76, 77, 78, 79] (by decide +kernel) (by decide +kernel)
set_option maxRecDepth 20000 in
theorem gX10_tokenizeTold_X10_make : GoodIn wsX10_tokenizeTold (wsV RX10 225 RX10 yX10_make wsX10_make) := goodIn_app (goodIn_of _ (by decide +kernel)) ggX10_tokenizeTold_X10_make
theorem dX10_tokenizeTold_0 : decode cX10_tokenizeTold 0 = .ok (.iload_n 1, 1) := by decide +kernel
theorem dX10_tokenizeTold_1 : decode cX10_tokenizeTold 1 = .ok (.invokestatic 219, 3) := by decide +kernel
theorem dX10_tokenizeTold_4 : decode cX10_tokenizeTold 4 = .ok (.ifCond .eq 17, 3) := by decide +kernel
theorem dX10_tokenizeTold_7 : decode cX10_tokenizeTold 7 = .ok (.iload_n 2, 1) := by decide +kernel
theorem dX10_tokenizeTold_8 : decode cX10_tokenizeTold 8 = .ok (.invokestatic 59, 3) := by decide +kernel
theorem dX10_tokenizeTold_11 : decode cX10_tokenizeTold 11 = .ok (.ifCond .eq 10, 3) := by decide +kernel
theorem dX10_tokenizeTold_14 : decode cX10_tokenizeTold 14 = .ok (.iload_n 3, 1) := by decide +kernel
theorem dX10_tokenizeTold_15 : decode cX10_tokenizeTold 15 = .ok (.invokestatic 59, 3) := by decide +kernel
theorem dX10_tokenizeTold_18 : decode cX10_tokenizeTold 18 = .ok (.ifCond .ne 5, 3) := by decide +kernel
theorem dX10_tokenizeTold_21 : decode cX10_tokenizeTold 21 = .ok (.iconst (-1), 1) := by decide +kernel
theorem dX10_tokenizeTold_22 : decode cX10_tokenizeTold 22 = .ok (.ireturn, 1) := by decide +kernel
theorem dX10_tokenizeTold_23 : decode cX10_tokenizeTold 23 = .ok (.aload_n 0, 1) := by decide +kernel
theorem dX10_tokenizeTold_24 : decode cX10_tokenizeTold 24 = .ok (.iload_n 3, 1) := by decide +kernel
theorem dX10_tokenizeTold_25 : decode cX10_tokenizeTold 25 = .ok (.invokevirtual 63, 3) := by decide +kernel
theorem dX10_tokenizeTold_28 : decode cX10_tokenizeTold 28 = .ok (.ifCond .eq 6, 3) := by decide +kernel
theorem dX10_tokenizeTold_31 : decode cX10_tokenizeTold 31 = .ok (.bipush (-2), 2) := by decide +kernel
theorem dX10_tokenizeTold_33 : decode cX10_tokenizeTold 33 = .ok (.ireturn, 1) := by decide +kernel
theorem dX10_tokenizeTold_34 : decode cX10_tokenizeTold 34 = .ok (.aload_n 0, 1) := by decide +kernel
theorem dX10_tokenizeTold_35 : decode cX10_tokenizeTold 35 = .ok (.iload_n 2, 1) := by decide +kernel
theorem dX10_tokenizeTold_36 : decode cX10_tokenizeTold 36 = .ok (.invokevirtual 63, 3) := by decide +kernel
theorem dX10_tokenizeTold_39 : decode cX10_tokenizeTold 39 = .ok (.ifCond .eq 8, 3) := by decide +kernel
theorem dX10_tokenizeTold_42 : decode cX10_tokenizeTold 42 = .ok (.aload_n 0, 1) := by decide +kernel
theorem dX10_tokenizeTold_43 : decode cX10_tokenizeTold 43 = .ok (.invokevirtual 176, 3) := by decide +kernel
theorem dX10_tokenizeTold_46 : decode cX10_tokenizeTold 46 = .ok (.ireturn, 1) := by decide +kernel
theorem dX10_tokenizeTold_47 : decode cX10_tokenizeTold 47 = .ok (.aload_n 0, 1) := by decide +kernel
theorem dX10_tokenizeTold_48 : decode cX10_tokenizeTold 48 = .ok (.iload_n 1, 1) := by decide +kernel
theorem dX10_tokenizeTold_49 : decode cX10_tokenizeTold 49 = .ok (.iload_n 3, 1) := by decide +kernel
theorem dX10_tokenizeTold_50 : decode cX10_tokenizeTold 50 = .ok (.invokestatic 51, 3) := by decide +kernel
theorem dX10_tokenizeTold_53 : decode cX10_tokenizeTold 53 = .ok (.invokevirtual 222, 3) := by decide +kernel
theorem dX10_tokenizeTold_56 : decode cX10_tokenizeTold 56 = .ok (.aload_n 0, 1) := by decide +kernel
theorem dX10_tokenizeTold_57 : decode cX10_tokenizeTold 57 = .ok (.iload_n 1, 1) := by decide +kernel
theorem dX10_tokenizeTold_58 : decode cX10_tokenizeTold 58 = .ok (.iload_n 2, 1) := by decide +kernel
theorem dX10_tokenizeTold_59 : decode cX10_tokenizeTold 59 = .ok (.invokestatic 51, 3) := by decide +kernel
theorem dX10_tokenizeTold_62 : decode cX10_tokenizeTold 62 = .ok (.iload 4, 2) := by decide +kernel
theorem dX10_tokenizeTold_64 : decode cX10_tokenizeTold 64 = .ok (.invokevirtual 225, 3) := by decide +kernel
theorem dX10_tokenizeTold_67 : decode cX10_tokenizeTold 67 = .ok (.ireturn, 1) := by decide +kernel
set_option maxRecDepth 20000 in
theorem ggX10_tokenizeBy_X10_tokenizeTold : GoodIn wsX10_tokenizeBy wsX10_tokenizeTold := goodIn_r _ [5, 6, 7, 4, 8, 9, 10, 11, 12, 13, 14, 15, 16, 17, 18, 19, 20, 21, 22, 23, 24, 25, 26, 27, 28, 29, 30, 31, 32, 33, 34, 35, 36, 37, 38, 39, 40, 41, 42, 43, 44, 45, 46, 47, 48, 49, 50, 51, 52, 53, 54, 55, 56, 57, 58, 59, 60, 61, 62, 63, 64, 65, 66, 67, 68, 69, 70, 71, 72, 73, 74, 75, 76, 77, 78, 79, 80, 81, 82, 83] (by decide +kernel) (by decide +kernel)
set_option maxRecDepth 20000 in
theorem gX10_tokenizeBy_X10_tokenizeTold : GoodIn wsX10_tokenizeBy (wsV RX10 229 RX10 yX10_tokenizeTold wsX10_tokenizeTold) := goodIn_app (goodIn_of _ (by decide +kernel)) ggX10_tokenizeBy_X10_tokenizeTold
theorem dX10_tokenizeBy_0 : decode cX10_tokenizeBy 0 = .ok (.aload_n 0, 1) := by decide +kernel
theorem dX10_tokenizeBy_1 : decode cX10_tokenizeBy 1 = .ok (.iload_n 1, 1) := by decide +kernel
theorem dX10_tokenizeBy_2 : decode cX10_tokenizeBy 2 = .ok (.iload_n 2, 1) := by decide +kernel
theorem dX10_tokenizeBy_3 : decode cX10_tokenizeBy 3 = .ok (.iload_n 3, 1) := by decide +kernel
theorem dX10_tokenizeBy_4 : decode cX10_tokenizeBy 4 = .ok (.iconst 0, 1) := by decide +kernel
theorem dX10_tokenizeBy_5 : decode cX10_tokenizeBy 5 = .ok (.invokevirtual 229, 3) := by decide +kernel
theorem dX10_tokenizeBy_8 : decode cX10_tokenizeBy 8 = .ok (.ireturn, 1) := by decide +kernel
set_option maxRecDepth 20000 in
theorem ggX10_tokenizeAll_X10_tokenizeTold : GoodIn wsX10_tokenizeAll wsX10_tokenizeTold := goodIn_r _ [5, 6, 7, 4, 8, 9, 10, 11, 12, 13, 14, 15, 16, 17, 18, 19, 20, 21, 22, 23, 24, 25, 26, 27, 28, 29, 30, 31, 32, 33, 34, 35, 36, 37, 38, 39, 40, 41, 42, 43, 44, 45, 46, 47, 48, 49, 50, 51, 52, 53, 54, 55, 56, 57, 58, 59, 60, 61, 62, 63, 64, 65, 66, 67, 68, 69, 70, 71, 72, 73, 74, 75, 76, 77, 78, 79, 80, 81, 82, 83] (by decide +kernel) (by decide +kernel)
set_option maxRecDepth 20000 in
theorem gX10_tokenizeAll_X10_tokenizeTold : GoodIn wsX10_tokenizeAll (wsV RX10 229 RX10 yX10_tokenizeTold wsX10_tokenizeTold) := goodIn_app (goodIn_of _ (by decide +kernel)) ggX10_tokenizeAll_X10_tokenizeTold
theorem dX10_tokenizeAll_0 : decode cX10_tokenizeAll 0 = .ok (.aload_n 0, 1) := by decide +kernel
theorem dX10_tokenizeAll_1 : decode cX10_tokenizeAll 1 = .ok (.iload_n 1, 1) := by decide +kernel
theorem dX10_tokenizeAll_2 : decode cX10_tokenizeAll 2 = .ok (.iload_n 2, 1) := by decide +kernel
theorem dX10_tokenizeAll_3 : decode cX10_tokenizeAll 3 = .ok (.iload_n 3, 1) := by decide +kernel
theorem dX10_tokenizeAll_4 : decode cX10_tokenizeAll 4 = .ok (.iconst 1, 1) := by decide +kernel
theorem dX10_tokenizeAll_5 : decode cX10_tokenizeAll 5 = .ok (.invokevirtual 229, 3) := by decide +kernel
theorem dX10_tokenizeAll_8 : decode cX10_tokenizeAll 8 = .ok (.ireturn, 1) := by decide +kernel
set_option maxRecDepth 20000 in
theorem ggX10_tokenizeValue_X10_isTokenizer : GoodIn wsX10_tokenizeValue wsX10_isTokenizer := goodIn_r _ [4] (by decide +kernel) (by decide +kernel)
set_option maxRecDepth 20000 in
theorem gX10_tokenizeValue_X10_isTokenizer : GoodIn wsX10_tokenizeValue (va_wsS RX10 219 yX10_isTokenizer wsX10_isTokenizer) := goodIn_app (goodIn_of _ (by decide +kernel)) ggX10_tokenizeValue_X10_isTokenizer
set_option maxRecDepth 20000 in
theorem ggX10_tokenizeValue_X10_isLayer : GoodIn wsX10_tokenizeValue wsX10_isLayer := goodIn_r _ [7] (by decide +kernel) (by decide +kernel)
set_option maxRecDepth 20000 in
theorem gX10_tokenizeValue_X10_isLayer : GoodIn wsX10_tokenizeValue (va_wsS RX10 151 yX10_isLayer wsX10_isLayer) := goodIn_app (goodIn_of _ (by decide +kernel)) ggX10_tokenizeValue_X10_isLayer
set_option maxRecDepth 20000 in
theorem ggX10_tokenizeValue_X10_isSlot : GoodIn wsX10_tokenizeValue wsX10_isSlot := goodIn_r _ [10] (by decide +kernel) (by decide +kernel)
set_option maxRecDepth 20000 in
theorem gX10_tokenizeValue_X10_isSlot : GoodIn wsX10_tokenizeValue (va_wsS RX10 59 yX10_isSlot wsX10_isSlot) := goodIn_app (goodIn_of _ (by decide +kernel)) ggX10_tokenizeValue_X10_isSlot
set_option maxRecDepth 20000 in
theorem ggX10_tokenizeValue_X10_hasNothing : GoodIn wsX10_tokenizeValue wsX10_hasNothing := goodIn_r _ [14, 15, 16, 17, 3, 18, 85, 86, 87, 88, 89, 90, 91, 92, 93, 94, 95, 96, 97, 98, 99, 100, 101, 102, 103, 104, 105] (by decide +kernel) (by decide +kernel)
set_option maxRecDepth 20000 in
theorem gX10_tokenizeValue_X10_hasNothing : GoodIn wsX10_tokenizeValue (wsV RX10 63 RX10 yX10_hasNothing wsX10_hasNothing) := goodIn_app (goodIn_of _ (by decide +kernel)) ggX10_tokenizeValue_X10_hasNothing
set_option maxRecDepth 20000 in
theorem ggX10_tokenizeValue_X10_refusedNull : GoodIn wsX10_tokenizeValue wsX10_refusedNull := goodIn_r _ [22, 23, 85, 86, 87, 88, 89, 90, 91, 92, 93, 94, 95, 96, 97, 98, 99, 100, 101, 102, 103, 104, 105] (by decide +kernel) (by decide +kernel)
set_option maxRecDepth 20000 in
theorem gX10_tokenizeValue_X10_refusedNull : GoodIn wsX10_tokenizeValue (wsV RX10 176 RX10 yX10_refusedNull wsX10_refusedNull) := goodIn_app (goodIn_of _ (by decide +kernel)) ggX10_tokenizeValue_X10_refusedNull
set_option maxRecDepth 20000 in
theorem ggX10_tokenizeValue_X10_at : GoodIn wsX10_tokenizeValue wsX10_at := goodIn_r _ [18] (by decide +kernel) (by decide +kernel)
set_option maxRecDepth 20000 in
theorem gX10_tokenizeValue_X10_at : GoodIn wsX10_tokenizeValue (va_wsS RX10 51 yX10_at wsX10_at) := goodIn_app (goodIn_of _ (by decide +kernel)) ggX10_tokenizeValue_X10_at
set_option maxRecDepth 20000 in
theorem ggX10_tokenizeValue_X10_layerWith : GoodIn wsX10_tokenizeValue wsX10_layerWith := goodIn_r _ [27, 28, 29, 30, 3, 31, 32, 33, 34, 35, 36, 37, 38, 39, 40, 41, 42, 43, 15, 85, 86, 87, 88, 89, 90, 91, 92, 93, 94, 95, 96, 97, 98, 99, 100, 101, 102, 103, 104, 105] (by decide +kernel) (by decide +kernel)
set_option maxRecDepth 20000 in
theorem gX10_tokenizeValue_X10_layerWith : GoodIn wsX10_tokenizeValue (wsV RX10 179 RX10 yX10_layerWith wsX10_layerWith) := goodIn_app (goodIn_of _ (by decide +kernel)) ggX10_tokenizeValue_X10_layerWith
set_option maxRecDepth 20000 in
theorem ggX10_tokenizeValue_X10_layDelimiters : GoodIn wsX10_tokenizeValue wsX10_layDelimiters := goodIn_r _ [47, 15, 85, 86, 87, 88, 89, 90, 91, 92, 93, 94, 95, 96, 97, 98, 99, 100, 101, 102, 103, 104, 105] (by decide +kernel) (by decide +kernel)
set_option maxRecDepth 20000 in
theorem gX10_tokenizeValue_X10_layDelimiters : GoodIn wsX10_tokenizeValue (wsV RX10 222 RX10 yX10_layDelimiters wsX10_layDelimiters) := goodIn_app (goodIn_of _ (by decide +kernel)) ggX10_tokenizeValue_X10_layDelimiters
set_option maxRecDepth 20000 in
theorem ggX10_tokenizeValue_X10_find : GoodIn wsX10_tokenizeValue wsX10_find := goodIn_r _ [31, 32, 33, 34, 35, 3, 36, 37, 38, 39, 40, 41, 42, 43, 15, 85, 86, 87, 88, 89, 90, 91, 92, 93, 94, 95, 96, 97, 98, 99, 100, 101, 102, 103, 104, 105] (by decide +kernel) (by decide +kernel)
set_option maxRecDepth 20000 in
theorem gX10_tokenizeValue_X10_find : GoodIn wsX10_tokenizeValue (wsV RX10 144 RX10 yX10_find wsX10_find) := goodIn_app (goodIn_of _ (by decide +kernel)) ggX10_tokenizeValue_X10_find
set_option maxRecDepth 20000 in
theorem ggX10_tokenizeValue_X10_valueOf : GoodIn wsX10_tokenizeValue wsX10_valueOf := goodIn_r _ [50, 37, 38, 3, 39] (by decide +kernel) (by decide +kernel)
set_option maxRecDepth 20000 in
theorem gX10_tokenizeValue_X10_valueOf : GoodIn wsX10_tokenizeValue (va_wsS RX10 141 yX10_valueOf wsX10_valueOf) := goodIn_app (goodIn_of _ (by decide +kernel)) ggX10_tokenizeValue_X10_valueOf
set_option maxRecDepth 20000 in
theorem ggX10_tokenizeValue_X10_make : GoodIn wsX10_tokenizeValue wsX10_make := goodIn_r _ [54, 55, 56, 57, 58, 59, 3, 60, 61, 62, 63, 64, 15, 65, 66, 67, 68, 69, 70, 71, 72, 73, 74, 75, 76, 77, 78, 79, 80, 81, 82, 83, 84, 85, 86, 87, 88, 89, 90, 91, 92, 93, 94, 95, 96, 97, 98, 99, 100, 101, 102, 103, 104, 105] (by decide +kernel) (by decide +kernel)
set_option maxRecDepth 20000 in
theorem gX10_tokenizeValue_X10_make : GoodIn wsX10_tokenizeValue (wsV RX10 225 RX10 yX10_make wsX10_make) := goodIn_app (goodIn_of _ (by decide +kernel)) ggX10_tokenizeValue_X10_make
theorem dX10_tokenizeValue_0 : decode cX10_tokenizeValue 0 = .ok (.iload_n 1, 1) := by decide +kernel
theorem dX10_tokenizeValue_1 : decode cX10_tokenizeValue 1 = .ok (.invokestatic 219, 3) := by decide +kernel
theorem dX10_tokenizeValue_4 : decode cX10_tokenizeValue 4 = .ok (.ifCond .eq 25, 3) := by decide +kernel
theorem dX10_tokenizeValue_7 : decode cX10_tokenizeValue 7 = .ok (.iload_n 2, 1) := by decide +kernel
theorem dX10_tokenizeValue_8 : decode cX10_tokenizeValue 8 = .ok (.invokestatic 151, 3) := by decide +kernel
theorem dX10_tokenizeValue_11 : decode cX10_tokenizeValue 11 = .ok (.ifCond .eq 18, 3) := by decide +kernel
theorem dX10_tokenizeValue_14 : decode cX10_tokenizeValue 14 = .ok (.iload_n 3, 1) := by decide +kernel
theorem dX10_tokenizeValue_15 : decode cX10_tokenizeValue 15 = .ok (.invokestatic 59, 3) := by decide +kernel
theorem dX10_tokenizeValue_18 : decode cX10_tokenizeValue 18 = .ok (.ifCond .eq 11, 3) := by decide +kernel
theorem dX10_tokenizeValue_21 : decode cX10_tokenizeValue 21 = .ok (.iload 4, 2) := by decide +kernel
theorem dX10_tokenizeValue_23 : decode cX10_tokenizeValue 23 = .ok (.invokestatic 59, 3) := by decide +kernel
theorem dX10_tokenizeValue_26 : decode cX10_tokenizeValue 26 = .ok (.ifCond .ne 5, 3) := by decide +kernel
theorem dX10_tokenizeValue_29 : decode cX10_tokenizeValue 29 = .ok (.iconst (-1), 1) := by decide +kernel
theorem dX10_tokenizeValue_30 : decode cX10_tokenizeValue 30 = .ok (.ireturn, 1) := by decide +kernel
theorem dX10_tokenizeValue_31 : decode cX10_tokenizeValue 31 = .ok (.aload_n 0, 1) := by decide +kernel
theorem dX10_tokenizeValue_32 : decode cX10_tokenizeValue 32 = .ok (.iload 4, 2) := by decide +kernel
theorem dX10_tokenizeValue_34 : decode cX10_tokenizeValue 34 = .ok (.invokevirtual 63, 3) := by decide +kernel
theorem dX10_tokenizeValue_37 : decode cX10_tokenizeValue 37 = .ok (.ifCond .eq 6, 3) := by decide +kernel
theorem dX10_tokenizeValue_40 : decode cX10_tokenizeValue 40 = .ok (.bipush (-2), 2) := by decide +kernel
theorem dX10_tokenizeValue_42 : decode cX10_tokenizeValue 42 = .ok (.ireturn, 1) := by decide +kernel
theorem dX10_tokenizeValue_43 : decode cX10_tokenizeValue 43 = .ok (.aload_n 0, 1) := by decide +kernel
theorem dX10_tokenizeValue_44 : decode cX10_tokenizeValue 44 = .ok (.iload_n 3, 1) := by decide +kernel
theorem dX10_tokenizeValue_45 : decode cX10_tokenizeValue 45 = .ok (.invokevirtual 63, 3) := by decide +kernel
theorem dX10_tokenizeValue_48 : decode cX10_tokenizeValue 48 = .ok (.ifCond .eq 8, 3) := by decide +kernel
theorem dX10_tokenizeValue_51 : decode cX10_tokenizeValue 51 = .ok (.aload_n 0, 1) := by decide +kernel
theorem dX10_tokenizeValue_52 : decode cX10_tokenizeValue 52 = .ok (.invokevirtual 176, 3) := by decide +kernel
theorem dX10_tokenizeValue_55 : decode cX10_tokenizeValue 55 = .ok (.ireturn, 1) := by decide +kernel
theorem dX10_tokenizeValue_56 : decode cX10_tokenizeValue 56 = .ok (.aload_n 0, 1) := by decide +kernel
theorem dX10_tokenizeValue_57 : decode cX10_tokenizeValue 57 = .ok (.iload_n 2, 1) := by decide +kernel
theorem dX10_tokenizeValue_58 : decode cX10_tokenizeValue 58 = .ok (.iload_n 3, 1) := by decide +kernel
theorem dX10_tokenizeValue_59 : decode cX10_tokenizeValue 59 = .ok (.invokestatic 51, 3) := by decide +kernel
theorem dX10_tokenizeValue_62 : decode cX10_tokenizeValue 62 = .ok (.invokevirtual 179, 3) := by decide +kernel
theorem dX10_tokenizeValue_65 : decode cX10_tokenizeValue 65 = .ok (.istore 5, 2) := by decide +kernel
theorem dX10_tokenizeValue_67 : decode cX10_tokenizeValue 67 = .ok (.iload 5, 2) := by decide +kernel
theorem dX10_tokenizeValue_69 : decode cX10_tokenizeValue 69 = .ok (.bipush (-5), 2) := by decide +kernel
theorem dX10_tokenizeValue_71 : decode cX10_tokenizeValue 71 = .ok (.if_icmp .ne 6, 3) := by decide +kernel
theorem dX10_tokenizeValue_74 : decode cX10_tokenizeValue 74 = .ok (.bipush (-5), 2) := by decide +kernel
theorem dX10_tokenizeValue_76 : decode cX10_tokenizeValue 76 = .ok (.ireturn, 1) := by decide +kernel
theorem dX10_tokenizeValue_77 : decode cX10_tokenizeValue 77 = .ok (.aload_n 0, 1) := by decide +kernel
theorem dX10_tokenizeValue_78 : decode cX10_tokenizeValue 78 = .ok (.iload_n 1, 1) := by decide +kernel
theorem dX10_tokenizeValue_79 : decode cX10_tokenizeValue 79 = .ok (.iload 4, 2) := by decide +kernel
theorem dX10_tokenizeValue_81 : decode cX10_tokenizeValue 81 = .ok (.invokestatic 51, 3) := by decide +kernel
theorem dX10_tokenizeValue_84 : decode cX10_tokenizeValue 84 = .ok (.invokevirtual 222, 3) := by decide +kernel
theorem dX10_tokenizeValue_87 : decode cX10_tokenizeValue 87 = .ok (.aload_n 0, 1) := by decide +kernel
theorem dX10_tokenizeValue_88 : decode cX10_tokenizeValue 88 = .ok (.iload_n 1, 1) := by decide +kernel
theorem dX10_tokenizeValue_89 : decode cX10_tokenizeValue 89 = .ok (.iload 5, 2) := by decide +kernel
theorem dX10_tokenizeValue_91 : decode cX10_tokenizeValue 91 = .ok (.aload_n 0, 1) := by decide +kernel
theorem dX10_tokenizeValue_92 : decode cX10_tokenizeValue 92 = .ok (.iload 5, 2) := by decide +kernel
theorem dX10_tokenizeValue_94 : decode cX10_tokenizeValue 94 = .ok (.iload_n 3, 1) := by decide +kernel
theorem dX10_tokenizeValue_95 : decode cX10_tokenizeValue 95 = .ok (.invokestatic 51, 3) := by decide +kernel
theorem dX10_tokenizeValue_98 : decode cX10_tokenizeValue 98 = .ok (.invokevirtual 144, 3) := by decide +kernel
theorem dX10_tokenizeValue_101 : decode cX10_tokenizeValue 101 = .ok (.invokestatic 141, 3) := by decide +kernel
theorem dX10_tokenizeValue_104 : decode cX10_tokenizeValue 104 = .ok (.iconst 0, 1) := by decide +kernel
theorem dX10_tokenizeValue_105 : decode cX10_tokenizeValue 105 = .ok (.invokevirtual 225, 3) := by decide +kernel
theorem dX10_tokenizeValue_108 : decode cX10_tokenizeValue 108 = .ok (.ireturn, 1) := by decide +kernel
set_option maxRecDepth 20000 in
theorem ggX10_more_X10_isTokenizer : GoodIn wsX10_more wsX10_isTokenizer := goodIn_r _ [7] (by decide +kernel) (by decide +kernel)
set_option maxRecDepth 20000 in
theorem gX10_more_X10_isTokenizer : GoodIn wsX10_more (va_wsS RX10 219 yX10_isTokenizer wsX10_isTokenizer) := goodIn_app (goodIn_of _ (by decide +kernel)) ggX10_more_X10_isTokenizer
set_option maxRecDepth 20000 in
theorem ggX10_more_X10_beginOf : GoodIn wsX10_more wsX10_beginOf := goodIn_r _ [11, 12, 3, 13, 14, 6, 15, 16, 17, 18, 19, 20, 21, 22, 23, 24, 25, 26, 27, 28, 29, 30, 31, 32, 33, 34, 35, 36, 37, 38, 39, 40, 41, 42, 43, 44] (by decide +kernel) (by decide +kernel)
set_option maxRecDepth 20000 in
theorem gX10_more_X10_beginOf : GoodIn wsX10_more (wsV RX10 213 RX10 yX10_beginOf wsX10_beginOf) := goodIn_app (goodIn_of _ (by decide +kernel)) ggX10_more_X10_beginOf
set_option maxRecDepth 20000 in
theorem ggX10_more_X10_tokenText : GoodIn wsX10_more wsX10_tokenText := goodIn_r _ [15] (by decide +kernel) (by decide +kernel)
set_option maxRecDepth 20000 in
theorem gX10_more_X10_tokenText : GoodIn wsX10_more (va_wsS RX10 200 yX10_tokenText wsX10_tokenText) := goodIn_app (goodIn_of _ (by decide +kernel)) ggX10_more_X10_tokenText
theorem dX10_more_0 : decode cX10_more 0 = .ok (.iload_n 1, 1) := by decide +kernel
theorem dX10_more_1 : decode cX10_more 1 = .ok (.invokestatic 219, 3) := by decide +kernel
theorem dX10_more_4 : decode cX10_more 4 = .ok (.ifCond .ne 5, 3) := by decide +kernel
theorem dX10_more_7 : decode cX10_more 7 = .ok (.iconst (-1), 1) := by decide +kernel
theorem dX10_more_8 : decode cX10_more 8 = .ok (.ireturn, 1) := by decide +kernel
theorem dX10_more_9 : decode cX10_more 9 = .ok (.aload_n 0, 1) := by decide +kernel
theorem dX10_more_10 : decode cX10_more 10 = .ok (.getfield 27, 3) := by decide +kernel
theorem dX10_more_13 : decode cX10_more 13 = .ok (.iload_n 1, 1) := by decide +kernel
theorem dX10_more_14 : decode cX10_more 14 = .ok (.baload, 1) := by decide +kernel
theorem dX10_more_15 : decode cX10_more 15 = .ok (.ifCond .ne 8, 3) := by decide +kernel
theorem dX10_more_18 : decode cX10_more 18 = .ok (.bipush (-4), 2) := by decide +kernel
theorem dX10_more_20 : decode cX10_more 20 = .ok (.goto 31, 3) := by decide +kernel
theorem dX10_more_23 : decode cX10_more 23 = .ok (.aload_n 0, 1) := by decide +kernel
theorem dX10_more_24 : decode cX10_more 24 = .ok (.iload_n 1, 1) := by decide +kernel
theorem dX10_more_25 : decode cX10_more 25 = .ok (.aload_n 0, 1) := by decide +kernel
theorem dX10_more_26 : decode cX10_more 26 = .ok (.getfield 33, 3) := by decide +kernel
theorem dX10_more_29 : decode cX10_more 29 = .ok (.iload_n 1, 1) := by decide +kernel
theorem dX10_more_30 : decode cX10_more 30 = .ok (.iaload, 1) := by decide +kernel
theorem dX10_more_31 : decode cX10_more 31 = .ok (.invokevirtual 213, 3) := by decide +kernel
theorem dX10_more_34 : decode cX10_more 34 = .ok (.aload_n 0, 1) := by decide +kernel
theorem dX10_more_35 : decode cX10_more 35 = .ok (.getfield 8, 3) := by decide +kernel
theorem dX10_more_38 : decode cX10_more 38 = .ok (.iload_n 1, 1) := by decide +kernel
theorem dX10_more_39 : decode cX10_more 39 = .ok (.invokestatic 200, 3) := by decide +kernel
theorem dX10_more_42 : decode cX10_more 42 = .ok (.iaload, 1) := by decide +kernel
theorem dX10_more_43 : decode cX10_more 43 = .ok (.if_icmp .ge 7, 3) := by decide +kernel
theorem dX10_more_46 : decode cX10_more 46 = .ok (.iconst 1, 1) := by decide +kernel
theorem dX10_more_47 : decode cX10_more 47 = .ok (.goto 4, 3) := by decide +kernel
theorem dX10_more_50 : decode cX10_more 50 = .ok (.iconst 0, 1) := by decide +kernel
theorem dX10_more_51 : decode cX10_more 51 = .ok (.ireturn, 1) := by decide +kernel
set_option maxRecDepth 20000 in
theorem ggX10_count_X10_isTokenizer : GoodIn wsX10_count wsX10_isTokenizer := goodIn_r _ [5] (by decide +kernel) (by decide +kernel)
set_option maxRecDepth 20000 in
theorem gX10_count_X10_isTokenizer : GoodIn wsX10_count (va_wsS RX10 219 yX10_isTokenizer wsX10_isTokenizer) := goodIn_app (goodIn_of _ (by decide +kernel)) ggX10_count_X10_isTokenizer
set_option maxRecDepth 20000 in
theorem ggX10_count_X10_counted : GoodIn wsX10_count wsX10_counted := goodIn_r _ [9, 10, 11, 12, 13, 14, 4, 15, 16, 17, 18, 19, 20, 21, 22, 23, 24, 25, 26, 27, 28, 29, 30, 31, 32, 33, 34, 35, 36, 37, 38, 39, 40, 41, 42, 43, 44, 45, 46, 47, 48, 49, 50, 51, 52] (by decide +kernel) (by decide +kernel)
set_option maxRecDepth 20000 in
theorem gX10_count_X10_counted : GoodIn wsX10_count (wsV RX10 203 RX10 yX10_counted wsX10_counted) := goodIn_app (goodIn_of _ (by decide +kernel)) ggX10_count_X10_counted
theorem dX10_count_0 : decode cX10_count 0 = .ok (.iload_n 1, 1) := by decide +kernel
theorem dX10_count_1 : decode cX10_count 1 = .ok (.invokestatic 219, 3) := by decide +kernel
theorem dX10_count_4 : decode cX10_count 4 = .ok (.ifCond .ne 7, 3) := by decide +kernel
theorem dX10_count_7 : decode cX10_count 7 = .ok (.iconst (-1), 1) := by decide +kernel
theorem dX10_count_8 : decode cX10_count 8 = .ok (.goto 22, 3) := by decide +kernel
theorem dX10_count_11 : decode cX10_count 11 = .ok (.aload_n 0, 1) := by decide +kernel
theorem dX10_count_12 : decode cX10_count 12 = .ok (.getfield 27, 3) := by decide +kernel
theorem dX10_count_15 : decode cX10_count 15 = .ok (.iload_n 1, 1) := by decide +kernel
theorem dX10_count_16 : decode cX10_count 16 = .ok (.baload, 1) := by decide +kernel
theorem dX10_count_17 : decode cX10_count 17 = .ok (.ifCond .ne 8, 3) := by decide +kernel
theorem dX10_count_20 : decode cX10_count 20 = .ok (.bipush (-4), 2) := by decide +kernel
theorem dX10_count_22 : decode cX10_count 22 = .ok (.goto 8, 3) := by decide +kernel
theorem dX10_count_25 : decode cX10_count 25 = .ok (.aload_n 0, 1) := by decide +kernel
theorem dX10_count_26 : decode cX10_count 26 = .ok (.iload_n 1, 1) := by decide +kernel
theorem dX10_count_27 : decode cX10_count 27 = .ok (.invokevirtual 203, 3) := by decide +kernel
theorem dX10_count_30 : decode cX10_count 30 = .ok (.ireturn, 1) := by decide +kernel
set_option maxRecDepth 20000 in
theorem ggX10_takeToken_X10_beginOf : GoodIn wsX10_takeToken wsX10_beginOf := goodIn_r _ [9, 10, 2, 11, 12, 8, 13, 14, 15, 16, 17, 18, 19, 20, 21, 33, 34, 35, 36, 37, 38, 39, 40, 41, 42, 43, 44, 45, 46, 47, 48, 49, 50, 51, 52, 53] (by decide +kernel) (by decide +kernel)
set_option maxRecDepth 20000 in
theorem gX10_takeToken_X10_beginOf : GoodIn wsX10_takeToken (wsV RX10 213 RX10 yX10_beginOf wsX10_beginOf) := goodIn_app (goodIn_of _ (by decide +kernel)) ggX10_takeToken_X10_beginOf
set_option maxRecDepth 20000 in
theorem ggX10_takeToken_X10_tokenText : GoodIn wsX10_takeToken wsX10_tokenText := goodIn_r _ [13] (by decide +kernel) (by decide +kernel)
set_option maxRecDepth 20000 in
theorem gX10_takeToken_X10_tokenText : GoodIn wsX10_takeToken (va_wsS RX10 200 yX10_tokenText wsX10_tokenText) := goodIn_app (goodIn_of _ (by decide +kernel)) ggX10_takeToken_X10_tokenText
set_option maxRecDepth 20000 in
theorem ggX10_takeToken_X10_endOf : GoodIn wsX10_takeToken wsX10_endOf := goodIn_r _ [25, 2, 14, 15, 16, 8, 17, 11, 12, 13, 18, 19, 20, 21, 33, 34, 35, 36, 37, 38, 39, 40, 41, 42, 43, 44, 45, 46, 47, 48, 49, 50, 51, 52, 53] (by decide +kernel) (by decide +kernel)
set_option maxRecDepth 20000 in
theorem gX10_takeToken_X10_endOf : GoodIn wsX10_takeToken (wsV RX10 216 RX10 yX10_endOf wsX10_endOf) := goodIn_app (goodIn_of _ (by decide +kernel)) ggX10_takeToken_X10_endOf
set_option maxRecDepth 20000 in
theorem ggX10_takeToken_X10_at : GoodIn wsX10_takeToken wsX10_at := goodIn_r _ [28] (by decide +kernel) (by decide +kernel)
set_option maxRecDepth 20000 in
theorem gX10_takeToken_X10_at : GoodIn wsX10_takeToken (va_wsS RX10 51 yX10_at wsX10_at) := goodIn_app (goodIn_of _ (by decide +kernel)) ggX10_takeToken_X10_at
set_option maxRecDepth 20000 in
theorem ggX10_takeToken_X10_signOf : GoodIn wsX10_takeToken wsX10_signOf := goodIn_r _ [17, 2, 11, 12, 8, 13, 33, 34, 35, 36, 37, 38, 39, 40, 41, 42, 43, 44, 45, 46, 47, 48, 49, 50, 51, 52, 53] (by decide +kernel) (by decide +kernel)
set_option maxRecDepth 20000 in
theorem gX10_takeToken_X10_signOf : GoodIn wsX10_takeToken (wsV RX10 206 RX10 yX10_signOf wsX10_signOf) := goodIn_app (goodIn_of _ (by decide +kernel)) ggX10_takeToken_X10_signOf
set_option maxRecDepth 20000 in
theorem ggX10_takeToken_X10_addSign : GoodIn wsX10_takeToken wsX10_addSign := goodIn_r _ [32, 2, 33, 34, 35, 36, 37, 38, 39, 40, 41, 42, 43, 44, 45, 46, 47, 48, 49, 50, 51, 52, 53] (by decide +kernel) (by decide +kernel)
set_option maxRecDepth 20000 in
theorem gX10_takeToken_X10_addSign : GoodIn wsX10_takeToken (wsV RX10 66 RX10 yX10_addSign wsX10_addSign) := goodIn_app (goodIn_of _ (by decide +kernel)) ggX10_takeToken_X10_addSign
theorem dX10_takeToken_0 : decode cX10_takeToken 0 = .ok (.aload_n 0, 1) := by decide +kernel
theorem dX10_takeToken_1 : decode cX10_takeToken 1 = .ok (.iload_n 1, 1) := by decide +kernel
theorem dX10_takeToken_2 : decode cX10_takeToken 2 = .ok (.aload_n 0, 1) := by decide +kernel
theorem dX10_takeToken_3 : decode cX10_takeToken 3 = .ok (.getfield 33, 3) := by decide +kernel
theorem dX10_takeToken_6 : decode cX10_takeToken 6 = .ok (.iload_n 1, 1) := by decide +kernel
theorem dX10_takeToken_7 : decode cX10_takeToken 7 = .ok (.iaload, 1) := by decide +kernel
theorem dX10_takeToken_8 : decode cX10_takeToken 8 = .ok (.invokevirtual 213, 3) := by decide +kernel
theorem dX10_takeToken_11 : decode cX10_takeToken 11 = .ok (.istore_n 3, 1) := by decide +kernel
theorem dX10_takeToken_12 : decode cX10_takeToken 12 = .ok (.iload_n 3, 1) := by decide +kernel
theorem dX10_takeToken_13 : decode cX10_takeToken 13 = .ok (.aload_n 0, 1) := by decide +kernel
theorem dX10_takeToken_14 : decode cX10_takeToken 14 = .ok (.getfield 8, 3) := by decide +kernel
theorem dX10_takeToken_17 : decode cX10_takeToken 17 = .ok (.iload_n 1, 1) := by decide +kernel
theorem dX10_takeToken_18 : decode cX10_takeToken 18 = .ok (.invokestatic 200, 3) := by decide +kernel
theorem dX10_takeToken_21 : decode cX10_takeToken 21 = .ok (.iaload, 1) := by decide +kernel
theorem dX10_takeToken_22 : decode cX10_takeToken 22 = .ok (.if_icmp .lt 23, 3) := by decide +kernel
theorem dX10_takeToken_25 : decode cX10_takeToken 25 = .ok (.aload_n 0, 1) := by decide +kernel
theorem dX10_takeToken_26 : decode cX10_takeToken 26 = .ok (.getfield 27, 3) := by decide +kernel
theorem dX10_takeToken_29 : decode cX10_takeToken 29 = .ok (.iload_n 1, 1) := by decide +kernel
theorem dX10_takeToken_30 : decode cX10_takeToken 30 = .ok (.iconst 0, 1) := by decide +kernel
theorem dX10_takeToken_31 : decode cX10_takeToken 31 = .ok (.bastore, 1) := by decide +kernel
theorem dX10_takeToken_32 : decode cX10_takeToken 32 = .ok (.aload_n 0, 1) := by decide +kernel
theorem dX10_takeToken_33 : decode cX10_takeToken 33 = .ok (.dup, 1) := by decide +kernel
theorem dX10_takeToken_34 : decode cX10_takeToken 34 = .ok (.getfield 233, 3) := by decide +kernel
theorem dX10_takeToken_37 : decode cX10_takeToken 37 = .ok (.iconst 1, 1) := by decide +kernel
theorem dX10_takeToken_38 : decode cX10_takeToken 38 = .ok (.iadd, 1) := by decide +kernel
theorem dX10_takeToken_39 : decode cX10_takeToken 39 = .ok (.putfield 233, 3) := by decide +kernel
theorem dX10_takeToken_42 : decode cX10_takeToken 42 = .ok (.bipush (-8), 2) := by decide +kernel
theorem dX10_takeToken_44 : decode cX10_takeToken 44 = .ok (.ireturn, 1) := by decide +kernel
theorem dX10_takeToken_45 : decode cX10_takeToken 45 = .ok (.aload_n 0, 1) := by decide +kernel
theorem dX10_takeToken_46 : decode cX10_takeToken 46 = .ok (.iload_n 1, 1) := by decide +kernel
theorem dX10_takeToken_47 : decode cX10_takeToken 47 = .ok (.iload_n 3, 1) := by decide +kernel
theorem dX10_takeToken_48 : decode cX10_takeToken 48 = .ok (.invokevirtual 216, 3) := by decide +kernel
theorem dX10_takeToken_51 : decode cX10_takeToken 51 = .ok (.istore 4, 2) := by decide +kernel
theorem dX10_takeToken_53 : decode cX10_takeToken 53 = .ok (.aload_n 0, 1) := by decide +kernel
theorem dX10_takeToken_54 : decode cX10_takeToken 54 = .ok (.getfield 8, 3) := by decide +kernel
theorem dX10_takeToken_57 : decode cX10_takeToken 57 = .ok (.iload_n 2, 1) := by decide +kernel
theorem dX10_takeToken_58 : decode cX10_takeToken 58 = .ok (.invokestatic 51, 3) := by decide +kernel
theorem dX10_takeToken_61 : decode cX10_takeToken 61 = .ok (.iconst 0, 1) := by decide +kernel
theorem dX10_takeToken_62 : decode cX10_takeToken 62 = .ok (.iastore, 1) := by decide +kernel
theorem dX10_takeToken_63 : decode cX10_takeToken 63 = .ok (.iload_n 3, 1) := by decide +kernel
theorem dX10_takeToken_64 : decode cX10_takeToken 64 = .ok (.istore 5, 2) := by decide +kernel
theorem dX10_takeToken_66 : decode cX10_takeToken 66 = .ok (.iload 5, 2) := by decide +kernel
theorem dX10_takeToken_68 : decode cX10_takeToken 68 = .ok (.iload 4, 2) := by decide +kernel
theorem dX10_takeToken_70 : decode cX10_takeToken 70 = .ok (.if_icmp .ge 24, 3) := by decide +kernel
theorem dX10_takeToken_73 : decode cX10_takeToken 73 = .ok (.aload_n 0, 1) := by decide +kernel
theorem dX10_takeToken_74 : decode cX10_takeToken 74 = .ok (.iload_n 2, 1) := by decide +kernel
theorem dX10_takeToken_75 : decode cX10_takeToken 75 = .ok (.invokestatic 51, 3) := by decide +kernel
theorem dX10_takeToken_78 : decode cX10_takeToken 78 = .ok (.aload_n 0, 1) := by decide +kernel
theorem dX10_takeToken_79 : decode cX10_takeToken 79 = .ok (.iload_n 1, 1) := by decide +kernel
theorem dX10_takeToken_80 : decode cX10_takeToken 80 = .ok (.iload 5, 2) := by decide +kernel
theorem dX10_takeToken_82 : decode cX10_takeToken 82 = .ok (.invokevirtual 206, 3) := by decide +kernel
theorem dX10_takeToken_85 : decode cX10_takeToken 85 = .ok (.invokevirtual 66, 3) := by decide +kernel
theorem dX10_takeToken_88 : decode cX10_takeToken 88 = .ok (.iinc 5 1, 3) := by decide +kernel
theorem dX10_takeToken_91 : decode cX10_takeToken 91 = .ok (.goto (-25), 3) := by decide +kernel
theorem dX10_takeToken_94 : decode cX10_takeToken 94 = .ok (.aload_n 0, 1) := by decide +kernel
theorem dX10_takeToken_95 : decode cX10_takeToken 95 = .ok (.getfield 33, 3) := by decide +kernel
theorem dX10_takeToken_98 : decode cX10_takeToken 98 = .ok (.iload_n 1, 1) := by decide +kernel
theorem dX10_takeToken_99 : decode cX10_takeToken 99 = .ok (.iload 4, 2) := by decide +kernel
theorem dX10_takeToken_101 : decode cX10_takeToken 101 = .ok (.iastore, 1) := by decide +kernel
theorem dX10_takeToken_102 : decode cX10_takeToken 102 = .ok (.iload 4, 2) := by decide +kernel
theorem dX10_takeToken_104 : decode cX10_takeToken 104 = .ok (.iload_n 3, 1) := by decide +kernel
theorem dX10_takeToken_105 : decode cX10_takeToken 105 = .ok (.isub, 1) := by decide +kernel
theorem dX10_takeToken_106 : decode cX10_takeToken 106 = .ok (.ireturn, 1) := by decide +kernel
set_option maxRecDepth 20000 in
theorem ggX10_next_X10_isTokenizer : GoodIn wsX10_next wsX10_isTokenizer := goodIn_r _ [5] (by decide +kernel) (by decide +kernel)
set_option maxRecDepth 20000 in
theorem gX10_next_X10_isTokenizer : GoodIn wsX10_next (va_wsS RX10 219 yX10_isTokenizer wsX10_isTokenizer) := goodIn_app (goodIn_of _ (by decide +kernel)) ggX10_next_X10_isTokenizer
set_option maxRecDepth 20000 in
theorem ggX10_next_X10_isSlot : GoodIn wsX10_next wsX10_isSlot := goodIn_r _ [8] (by decide +kernel) (by decide +kernel)
set_option maxRecDepth 20000 in
theorem gX10_next_X10_isSlot : GoodIn wsX10_next (va_wsS RX10 59 yX10_isSlot wsX10_isSlot) := goodIn_app (goodIn_of _ (by decide +kernel)) ggX10_next_X10_isSlot
set_option maxRecDepth 20000 in
theorem ggX10_next_X10_takeToken : GoodIn wsX10_next wsX10_takeToken := goodIn_r _ [12, 13, 14, 1, 15, 16, 17, 18, 4, 19, 20, 21, 22, 23, 24, 25, 26, 27, 28, 29, 30, 31, 32, 33, 34, 35, 36, 37, 38, 39, 40, 41, 42, 43, 44, 45, 46, 47, 48, 49, 50, 51, 52, 53, 54, 55, 56, 57, 58, 59, 60, 61, 62, 63] (by decide +kernel) (by decide +kernel)
set_option maxRecDepth 20000 in
theorem gX10_next_X10_takeToken : GoodIn wsX10_next (wsV RX10 236 RX10 yX10_takeToken wsX10_takeToken) := goodIn_app (goodIn_of _ (by decide +kernel)) ggX10_next_X10_takeToken
theorem dX10_next_0 : decode cX10_next 0 = .ok (.iload_n 1, 1) := by decide +kernel
theorem dX10_next_1 : decode cX10_next 1 = .ok (.invokestatic 219, 3) := by decide +kernel
theorem dX10_next_4 : decode cX10_next 4 = .ok (.ifCond .eq 10, 3) := by decide +kernel
theorem dX10_next_7 : decode cX10_next 7 = .ok (.iload_n 2, 1) := by decide +kernel
theorem dX10_next_8 : decode cX10_next 8 = .ok (.invokestatic 59, 3) := by decide +kernel
theorem dX10_next_11 : decode cX10_next 11 = .ok (.ifCond .ne 5, 3) := by decide +kernel
theorem dX10_next_14 : decode cX10_next 14 = .ok (.iconst (-1), 1) := by decide +kernel
theorem dX10_next_15 : decode cX10_next 15 = .ok (.ireturn, 1) := by decide +kernel
theorem dX10_next_16 : decode cX10_next 16 = .ok (.aload_n 0, 1) := by decide +kernel
theorem dX10_next_17 : decode cX10_next 17 = .ok (.getfield 27, 3) := by decide +kernel
theorem dX10_next_20 : decode cX10_next 20 = .ok (.iload_n 1, 1) := by decide +kernel
theorem dX10_next_21 : decode cX10_next 21 = .ok (.baload, 1) := by decide +kernel
theorem dX10_next_22 : decode cX10_next 22 = .ok (.ifCond .ne 8, 3) := by decide +kernel
theorem dX10_next_25 : decode cX10_next 25 = .ok (.bipush (-4), 2) := by decide +kernel
theorem dX10_next_27 : decode cX10_next 27 = .ok (.goto 9, 3) := by decide +kernel
theorem dX10_next_30 : decode cX10_next 30 = .ok (.aload_n 0, 1) := by decide +kernel
theorem dX10_next_31 : decode cX10_next 31 = .ok (.iload_n 1, 1) := by decide +kernel
theorem dX10_next_32 : decode cX10_next 32 = .ok (.iload_n 2, 1) := by decide +kernel
theorem dX10_next_33 : decode cX10_next 33 = .ok (.invokevirtual 236, 3) := by decide +kernel
theorem dX10_next_36 : decode cX10_next 36 = .ok (.ireturn, 1) := by decide +kernel
set_option maxRecDepth 20000 in
theorem ggX10_nextBy_X10_isTokenizer : GoodIn wsX10_nextBy wsX10_isTokenizer := goodIn_r _ [5] (by decide +kernel) (by decide +kernel)
set_option maxRecDepth 20000 in
theorem gX10_nextBy_X10_isTokenizer : GoodIn wsX10_nextBy (va_wsS RX10 219 yX10_isTokenizer wsX10_isTokenizer) := goodIn_app (goodIn_of _ (by decide +kernel)) ggX10_nextBy_X10_isTokenizer
set_option maxRecDepth 20000 in
theorem ggX10_nextBy_X10_isSlot : GoodIn wsX10_nextBy wsX10_isSlot := goodIn_r _ [8] (by decide +kernel) (by decide +kernel)
set_option maxRecDepth 20000 in
theorem gX10_nextBy_X10_isSlot : GoodIn wsX10_nextBy (va_wsS RX10 59 yX10_isSlot wsX10_isSlot) := goodIn_app (goodIn_of _ (by decide +kernel)) ggX10_nextBy_X10_isSlot
set_option maxRecDepth 20000 in
theorem ggX10_nextBy_X10_hasNothing : GoodIn wsX10_nextBy wsX10_hasNothing := goodIn_r _ [12, 13, 14, 15, 4, 16, 51, 52, 53, 54, 55, 56, 57, 58, 59, 60, 61, 62, 63, 64, 65, 66, 67, 68, 69, 70, 71] (by decide +kernel) (by decide +kernel)
set_option maxRecDepth 20000 in
theorem gX10_nextBy_X10_hasNothing : GoodIn wsX10_nextBy (wsV RX10 63 RX10 yX10_hasNothing wsX10_hasNothing) := goodIn_app (goodIn_of _ (by decide +kernel)) ggX10_nextBy_X10_hasNothing
set_option maxRecDepth 20000 in
theorem ggX10_nextBy_X10_at : GoodIn wsX10_nextBy wsX10_at := goodIn_r _ [16] (by decide +kernel) (by decide +kernel)
set_option maxRecDepth 20000 in
theorem gX10_nextBy_X10_at : GoodIn wsX10_nextBy (va_wsS RX10 51 yX10_at wsX10_at) := goodIn_app (goodIn_of _ (by decide +kernel)) ggX10_nextBy_X10_at
set_option maxRecDepth 20000 in
theorem ggX10_nextBy_X10_layDelimiters : GoodIn wsX10_nextBy wsX10_layDelimiters := goodIn_r _ [20, 13, 51, 52, 53, 54, 55, 56, 57, 58, 59, 60, 61, 62, 63, 64, 65, 66, 67, 68, 69, 70, 71] (by decide +kernel) (by decide +kernel)
set_option maxRecDepth 20000 in
theorem gX10_nextBy_X10_layDelimiters : GoodIn wsX10_nextBy (wsV RX10 222 RX10 yX10_layDelimiters wsX10_layDelimiters) := goodIn_app (goodIn_of _ (by decide +kernel)) ggX10_nextBy_X10_layDelimiters
set_option maxRecDepth 20000 in
theorem ggX10_nextBy_X10_takeToken : GoodIn wsX10_nextBy wsX10_takeToken := goodIn_r _ [24, 25, 13, 1, 26, 27, 28, 29, 4, 30, 31, 32, 33, 34, 35, 36, 37, 38, 39, 40, 41, 42, 43, 44, 45, 46, 14, 15, 16, 47, 48, 49, 50, 51, 52, 53, 54, 55, 56, 57, 58, 59, 60, 61, 62, 63, 64, 65, 66, 67, 68, 69, 70, 71] (by decide +kernel) (by decide +kernel)
set_option maxRecDepth 20000 in
theorem gX10_nextBy_X10_takeToken : GoodIn wsX10_nextBy (wsV RX10 236 RX10 yX10_takeToken wsX10_takeToken) := goodIn_app (goodIn_of _ (by decide +kernel)) ggX10_nextBy_X10_takeToken
theorem dX10_nextBy_0 : decode cX10_nextBy 0 = .ok (.iload_n 1, 1) := by decide +kernel
theorem dX10_nextBy_1 : decode cX10_nextBy 1 = .ok (.invokestatic 219, 3) := by decide +kernel
theorem dX10_nextBy_4 : decode cX10_nextBy 4 = .ok (.ifCond .eq 17, 3) := by decide +kernel
theorem dX10_nextBy_7 : decode cX10_nextBy 7 = .ok (.iload_n 2, 1) := by decide +kernel
theorem dX10_nextBy_8 : decode cX10_nextBy 8 = .ok (.invokestatic 59, 3) := by decide +kernel
theorem dX10_nextBy_11 : decode cX10_nextBy 11 = .ok (.ifCond .eq 10, 3) := by decide +kernel
theorem dX10_nextBy_14 : decode cX10_nextBy 14 = .ok (.iload_n 3, 1) := by decide +kernel
theorem dX10_nextBy_15 : decode cX10_nextBy 15 = .ok (.invokestatic 59, 3) := by decide +kernel
theorem dX10_nextBy_18 : decode cX10_nextBy 18 = .ok (.ifCond .ne 5, 3) := by decide +kernel
theorem dX10_nextBy_21 : decode cX10_nextBy 21 = .ok (.iconst (-1), 1) := by decide +kernel
theorem dX10_nextBy_22 : decode cX10_nextBy 22 = .ok (.ireturn, 1) := by decide +kernel
theorem dX10_nextBy_23 : decode cX10_nextBy 23 = .ok (.aload_n 0, 1) := by decide +kernel
theorem dX10_nextBy_24 : decode cX10_nextBy 24 = .ok (.getfield 27, 3) := by decide +kernel
theorem dX10_nextBy_27 : decode cX10_nextBy 27 = .ok (.iload_n 1, 1) := by decide +kernel
theorem dX10_nextBy_28 : decode cX10_nextBy 28 = .ok (.baload, 1) := by decide +kernel
theorem dX10_nextBy_29 : decode cX10_nextBy 29 = .ok (.ifCond .ne 6, 3) := by decide +kernel
theorem dX10_nextBy_32 : decode cX10_nextBy 32 = .ok (.bipush (-4), 2) := by decide +kernel
theorem dX10_nextBy_34 : decode cX10_nextBy 34 = .ok (.ireturn, 1) := by decide +kernel
theorem dX10_nextBy_35 : decode cX10_nextBy 35 = .ok (.aload_n 0, 1) := by decide +kernel
theorem dX10_nextBy_36 : decode cX10_nextBy 36 = .ok (.iload_n 2, 1) := by decide +kernel
theorem dX10_nextBy_37 : decode cX10_nextBy 37 = .ok (.invokevirtual 63, 3) := by decide +kernel
theorem dX10_nextBy_40 : decode cX10_nextBy 40 = .ok (.ifCond .eq 6, 3) := by decide +kernel
theorem dX10_nextBy_43 : decode cX10_nextBy 43 = .ok (.bipush (-2), 2) := by decide +kernel
theorem dX10_nextBy_45 : decode cX10_nextBy 45 = .ok (.ireturn, 1) := by decide +kernel
theorem dX10_nextBy_46 : decode cX10_nextBy 46 = .ok (.aload_n 0, 1) := by decide +kernel
theorem dX10_nextBy_47 : decode cX10_nextBy 47 = .ok (.iload_n 1, 1) := by decide +kernel
theorem dX10_nextBy_48 : decode cX10_nextBy 48 = .ok (.iload_n 2, 1) := by decide +kernel
theorem dX10_nextBy_49 : decode cX10_nextBy 49 = .ok (.invokestatic 51, 3) := by decide +kernel
theorem dX10_nextBy_52 : decode cX10_nextBy 52 = .ok (.invokevirtual 222, 3) := by decide +kernel
theorem dX10_nextBy_55 : decode cX10_nextBy 55 = .ok (.aload_n 0, 1) := by decide +kernel
theorem dX10_nextBy_56 : decode cX10_nextBy 56 = .ok (.iload_n 1, 1) := by decide +kernel
theorem dX10_nextBy_57 : decode cX10_nextBy 57 = .ok (.iload_n 3, 1) := by decide +kernel
theorem dX10_nextBy_58 : decode cX10_nextBy 58 = .ok (.invokevirtual 236, 3) := by decide +kernel
theorem dX10_nextBy_61 : decode cX10_nextBy 61 = .ok (.ireturn, 1) := by decide +kernel
theorem dX10_isJoiner_0 : decode cX10_isJoiner 0 = .ok (.iload_n 0, 1) := by decide +kernel
theorem dX10_isJoiner_1 : decode cX10_isJoiner 1 = .ok (.ifCond .lt 12, 3) := by decide +kernel
theorem dX10_isJoiner_4 : decode cX10_isJoiner 4 = .ok (.iload_n 0, 1) := by decide +kernel
theorem dX10_isJoiner_5 : decode cX10_isJoiner 5 = .ok (.iconst 3, 1) := by decide +kernel
theorem dX10_isJoiner_6 : decode cX10_isJoiner 6 = .ok (.if_icmp .ge 7, 3) := by decide +kernel
theorem dX10_isJoiner_9 : decode cX10_isJoiner 9 = .ok (.iconst 1, 1) := by decide +kernel
theorem dX10_isJoiner_10 : decode cX10_isJoiner 10 = .ok (.goto 4, 3) := by decide +kernel
theorem dX10_isJoiner_13 : decode cX10_isJoiner 13 = .ok (.iconst 0, 1) := by decide +kernel
theorem dX10_isJoiner_14 : decode cX10_isJoiner 14 = .ok (.ireturn, 1) := by decide +kernel
theorem dX10_part_0 : decode cX10_part 0 = .ok (.sipush 2408, 3) := by decide +kernel
theorem dX10_part_3 : decode cX10_part 3 = .ok (.sipush 1505, 3) := by decide +kernel
theorem dX10_part_6 : decode cX10_part 6 = .ok (.iload_n 0, 1) := by decide +kernel
theorem dX10_part_7 : decode cX10_part 7 = .ok (.imul, 1) := by decide +kernel
theorem dX10_part_8 : decode cX10_part 8 = .ok (.iadd, 1) := by decide +kernel
theorem dX10_part_9 : decode cX10_part 9 = .ok (.iload_n 1, 1) := by decide +kernel
theorem dX10_part_10 : decode cX10_part 10 = .ok (.iadd, 1) := by decide +kernel
theorem dX10_part_11 : decode cX10_part 11 = .ok (.ireturn, 1) := by decide +kernel
set_option maxRecDepth 20000 in
theorem ggX10_resultSize_X10_part : GoodIn wsX10_resultSize wsX10_part := goodIn_r _ [6] (by decide +kernel) (by decide +kernel)
set_option maxRecDepth 20000 in
theorem gX10_resultSize_X10_part : GoodIn wsX10_resultSize (va_wsS RX10 239 yX10_part wsX10_part) := goodIn_app (goodIn_of _ (by decide +kernel)) ggX10_resultSize_X10_part
theorem dX10_resultSize_0 : decode cX10_resultSize 0 = .ok (.aload_n 0, 1) := by decide +kernel
theorem dX10_resultSize_1 : decode cX10_resultSize 1 = .ok (.getfield 8, 3) := by decide +kernel
theorem dX10_resultSize_4 : decode cX10_resultSize 4 = .ok (.iload_n 1, 1) := by decide +kernel
theorem dX10_resultSize_5 : decode cX10_resultSize 5 = .ok (.sipush 301, 3) := by decide +kernel
theorem dX10_resultSize_8 : decode cX10_resultSize 8 = .ok (.invokestatic 239, 3) := by decide +kernel
theorem dX10_resultSize_11 : decode cX10_resultSize 11 = .ok (.iaload, 1) := by decide +kernel
theorem dX10_resultSize_12 : decode cX10_resultSize 12 = .ok (.aload_n 0, 1) := by decide +kernel
theorem dX10_resultSize_13 : decode cX10_resultSize 13 = .ok (.getfield 8, 3) := by decide +kernel
theorem dX10_resultSize_16 : decode cX10_resultSize 16 = .ok (.iload_n 1, 1) := by decide +kernel
theorem dX10_resultSize_17 : decode cX10_resultSize 17 = .ok (.sipush 602, 3) := by decide +kernel
theorem dX10_resultSize_20 : decode cX10_resultSize 20 = .ok (.invokestatic 239, 3) := by decide +kernel
theorem dX10_resultSize_23 : decode cX10_resultSize 23 = .ok (.iaload, 1) := by decide +kernel
theorem dX10_resultSize_24 : decode cX10_resultSize 24 = .ok (.iadd, 1) := by decide +kernel
theorem dX10_resultSize_25 : decode cX10_resultSize 25 = .ok (.istore_n 2, 1) := by decide +kernel
theorem dX10_resultSize_26 : decode cX10_resultSize 26 = .ok (.aload_n 0, 1) := by decide +kernel
theorem dX10_resultSize_27 : decode cX10_resultSize 27 = .ok (.getfield 8, 3) := by decide +kernel
theorem dX10_resultSize_30 : decode cX10_resultSize 30 = .ok (.iload_n 1, 1) := by decide +kernel
theorem dX10_resultSize_31 : decode cX10_resultSize 31 = .ok (.sipush 903, 3) := by decide +kernel
theorem dX10_resultSize_34 : decode cX10_resultSize 34 = .ok (.invokestatic 239, 3) := by decide +kernel
theorem dX10_resultSize_37 : decode cX10_resultSize 37 = .ok (.iaload, 1) := by decide +kernel
theorem dX10_resultSize_38 : decode cX10_resultSize 38 = .ok (.istore_n 3, 1) := by decide +kernel
theorem dX10_resultSize_39 : decode cX10_resultSize 39 = .ok (.aload_n 0, 1) := by decide +kernel
theorem dX10_resultSize_40 : decode cX10_resultSize 40 = .ok (.getfield 39, 3) := by decide +kernel
theorem dX10_resultSize_43 : decode cX10_resultSize 43 = .ok (.iload_n 1, 1) := by decide +kernel
theorem dX10_resultSize_44 : decode cX10_resultSize 44 = .ok (.baload, 1) := by decide +kernel
theorem dX10_resultSize_45 : decode cX10_resultSize 45 = .ok (.ifCond .eq 20, 3) := by decide +kernel
theorem dX10_resultSize_48 : decode cX10_resultSize 48 = .ok (.iload_n 2, 1) := by decide +kernel
theorem dX10_resultSize_49 : decode cX10_resultSize 49 = .ok (.aload_n 0, 1) := by decide +kernel
theorem dX10_resultSize_50 : decode cX10_resultSize 50 = .ok (.getfield 8, 3) := by decide +kernel
theorem dX10_resultSize_53 : decode cX10_resultSize 53 = .ok (.iload_n 1, 1) := by decide +kernel
theorem dX10_resultSize_54 : decode cX10_resultSize 54 = .ok (.sipush 1204, 3) := by decide +kernel
theorem dX10_resultSize_57 : decode cX10_resultSize 57 = .ok (.invokestatic 239, 3) := by decide +kernel
theorem dX10_resultSize_60 : decode cX10_resultSize 60 = .ok (.iaload, 1) := by decide +kernel
theorem dX10_resultSize_61 : decode cX10_resultSize 61 = .ok (.iadd, 1) := by decide +kernel
theorem dX10_resultSize_62 : decode cX10_resultSize 62 = .ok (.goto 12, 3) := by decide +kernel
theorem dX10_resultSize_65 : decode cX10_resultSize 65 = .ok (.iload_n 3, 1) := by decide +kernel
theorem dX10_resultSize_66 : decode cX10_resultSize 66 = .ok (.ifCond .lt 7, 3) := by decide +kernel
theorem dX10_resultSize_69 : decode cX10_resultSize 69 = .ok (.iload_n 3, 1) := by decide +kernel
theorem dX10_resultSize_70 : decode cX10_resultSize 70 = .ok (.goto 4, 3) := by decide +kernel
theorem dX10_resultSize_73 : decode cX10_resultSize 73 = .ok (.iload_n 2, 1) := by decide +kernel
theorem dX10_resultSize_74 : decode cX10_resultSize 74 = .ok (.ireturn, 1) := by decide +kernel
set_option maxRecDepth 20000 in
theorem ggX10_begin_X10_part : GoodIn wsX10_begin wsX10_part := goodIn_r _ [7] (by decide +kernel) (by decide +kernel)
set_option maxRecDepth 20000 in
theorem gX10_begin_X10_part : GoodIn wsX10_begin (va_wsS RX10 239 yX10_part wsX10_part) := goodIn_app (goodIn_of _ (by decide +kernel)) ggX10_begin_X10_part
theorem dX10_begin_0 : decode cX10_begin 0 = .ok (.aload_n 0, 1) := by decide +kernel
theorem dX10_begin_1 : decode cX10_begin 1 = .ok (.getfield 36, 3) := by decide +kernel
theorem dX10_begin_4 : decode cX10_begin 4 = .ok (.iload_n 1, 1) := by decide +kernel
theorem dX10_begin_5 : decode cX10_begin 5 = .ok (.iconst 1, 1) := by decide +kernel
theorem dX10_begin_6 : decode cX10_begin 6 = .ok (.bastore, 1) := by decide +kernel
theorem dX10_begin_7 : decode cX10_begin 7 = .ok (.aload_n 0, 1) := by decide +kernel
theorem dX10_begin_8 : decode cX10_begin 8 = .ok (.getfield 39, 3) := by decide +kernel
theorem dX10_begin_11 : decode cX10_begin 11 = .ok (.iload_n 1, 1) := by decide +kernel
theorem dX10_begin_12 : decode cX10_begin 12 = .ok (.iconst 0, 1) := by decide +kernel
theorem dX10_begin_13 : decode cX10_begin 13 = .ok (.bastore, 1) := by decide +kernel
theorem dX10_begin_14 : decode cX10_begin 14 = .ok (.aload_n 0, 1) := by decide +kernel
theorem dX10_begin_15 : decode cX10_begin 15 = .ok (.getfield 8, 3) := by decide +kernel
theorem dX10_begin_18 : decode cX10_begin 18 = .ok (.iload_n 1, 1) := by decide +kernel
theorem dX10_begin_19 : decode cX10_begin 19 = .ok (.sipush 1204, 3) := by decide +kernel
theorem dX10_begin_22 : decode cX10_begin 22 = .ok (.invokestatic 239, 3) := by decide +kernel
theorem dX10_begin_25 : decode cX10_begin 25 = .ok (.iconst 0, 1) := by decide +kernel
theorem dX10_begin_26 : decode cX10_begin 26 = .ok (.iastore, 1) := by decide +kernel
theorem dX10_begin_27 : decode cX10_begin 27 = .ok (.aload_n 0, 1) := by decide +kernel
theorem dX10_begin_28 : decode cX10_begin 28 = .ok (.getfield 8, 3) := by decide +kernel
theorem dX10_begin_31 : decode cX10_begin 31 = .ok (.iload_n 1, 1) := by decide +kernel
theorem dX10_begin_32 : decode cX10_begin 32 = .ok (.sipush 903, 3) := by decide +kernel
theorem dX10_begin_35 : decode cX10_begin 35 = .ok (.invokestatic 239, 3) := by decide +kernel
theorem dX10_begin_38 : decode cX10_begin 38 = .ok (.bipush (-5), 2) := by decide +kernel
theorem dX10_begin_40 : decode cX10_begin 40 = .ok (.iastore, 1) := by decide +kernel
theorem dX10_begin_41 : decode cX10_begin 41 = .ok (.return_, 1) := by decide +kernel
set_option maxRecDepth 20000 in
theorem ggX10_join_X10_isJoiner : GoodIn wsX10_join wsX10_isJoiner := goodIn_r _ [5] (by decide +kernel) (by decide +kernel)
set_option maxRecDepth 20000 in
theorem gX10_join_X10_isJoiner : GoodIn wsX10_join (va_wsS RX10 242 yX10_isJoiner wsX10_isJoiner) := goodIn_app (goodIn_of _ (by decide +kernel)) ggX10_join_X10_isJoiner
set_option maxRecDepth 20000 in
theorem ggX10_join_X10_isSlot : GoodIn wsX10_join wsX10_isSlot := goodIn_r _ [8] (by decide +kernel) (by decide +kernel)
set_option maxRecDepth 20000 in
theorem gX10_join_X10_isSlot : GoodIn wsX10_join (va_wsS RX10 59 yX10_isSlot wsX10_isSlot) := goodIn_app (goodIn_of _ (by decide +kernel)) ggX10_join_X10_isSlot
set_option maxRecDepth 20000 in
theorem ggX10_join_X10_hasNothing : GoodIn wsX10_join wsX10_hasNothing := goodIn_r _ [12, 1, 13, 14, 4, 15, 34, 35, 36, 37, 38, 39, 40, 41, 42, 43, 44, 45, 46, 47, 48, 49, 50, 51, 52, 53, 54] (by decide +kernel) (by decide +kernel)
set_option maxRecDepth 20000 in
theorem gX10_join_X10_hasNothing : GoodIn wsX10_join (wsV RX10 63 RX10 yX10_hasNothing wsX10_hasNothing) := goodIn_app (goodIn_of _ (by decide +kernel)) ggX10_join_X10_hasNothing
set_option maxRecDepth 20000 in
theorem ggX10_join_X10_refusedNull : GoodIn wsX10_join wsX10_refusedNull := goodIn_r _ [19, 20, 34, 35, 36, 37, 38, 39, 40, 41, 42, 43, 44, 45, 46, 47, 48, 49, 50, 51, 52, 53, 54] (by decide +kernel) (by decide +kernel)
set_option maxRecDepth 20000 in
theorem gX10_join_X10_refusedNull : GoodIn wsX10_join (wsV RX10 176 RX10 yX10_refusedNull wsX10_refusedNull) := goodIn_app (goodIn_of _ (by decide +kernel)) ggX10_join_X10_refusedNull
set_option maxRecDepth 20000 in
theorem ggX10_join_X10_begin : GoodIn wsX10_join wsX10_begin := goodIn_r _ [24, 25, 26, 1, 27, 28, 4, 29, 34, 35, 36, 37, 38, 39, 40, 41, 42, 43, 44, 45, 46, 47, 48, 49, 50, 51, 52, 53, 54] (by decide +kernel) (by decide +kernel)
set_option maxRecDepth 20000 in
theorem gX10_join_X10_begin : GoodIn wsX10_join (wsV RX10 245 RX10 yX10_begin wsX10_begin) := goodIn_app (goodIn_of _ (by decide +kernel)) ggX10_join_X10_begin
set_option maxRecDepth 20000 in
theorem ggX10_join_X10_at : GoodIn wsX10_join wsX10_at := goodIn_r _ [15] (by decide +kernel) (by decide +kernel)
set_option maxRecDepth 20000 in
theorem gX10_join_X10_at : GoodIn wsX10_join (va_wsS RX10 51 yX10_at wsX10_at) := goodIn_app (goodIn_of _ (by decide +kernel)) ggX10_join_X10_at
set_option maxRecDepth 20000 in
theorem ggX10_join_X10_part : GoodIn wsX10_join wsX10_part := goodIn_r _ [29] (by decide +kernel) (by decide +kernel)
set_option maxRecDepth 20000 in
theorem gX10_join_X10_part : GoodIn wsX10_join (va_wsS RX10 239 yX10_part wsX10_part) := goodIn_app (goodIn_of _ (by decide +kernel)) ggX10_join_X10_part
set_option maxRecDepth 20000 in
theorem ggX10_join_X10_copyText : GoodIn wsX10_join wsX10_copyText := goodIn_r _ [33, 1, 34, 35, 36, 37, 38, 39, 40, 41, 42, 43, 44, 45, 46, 47, 48, 49, 50, 51, 52, 53, 54] (by decide +kernel) (by decide +kernel)
set_option maxRecDepth 20000 in
theorem gX10_join_X10_copyText : GoodIn wsX10_join (wsV RX10 70 RX10 yX10_copyText wsX10_copyText) := goodIn_app (goodIn_of _ (by decide +kernel)) ggX10_join_X10_copyText
theorem dX10_join_0 : decode cX10_join 0 = .ok (.iload_n 1, 1) := by decide +kernel
theorem dX10_join_1 : decode cX10_join 1 = .ok (.invokestatic 242, 3) := by decide +kernel
theorem dX10_join_4 : decode cX10_join 4 = .ok (.ifCond .eq 10, 3) := by decide +kernel
theorem dX10_join_7 : decode cX10_join 7 = .ok (.iload_n 2, 1) := by decide +kernel
theorem dX10_join_8 : decode cX10_join 8 = .ok (.invokestatic 59, 3) := by decide +kernel
theorem dX10_join_11 : decode cX10_join 11 = .ok (.ifCond .ne 5, 3) := by decide +kernel
theorem dX10_join_14 : decode cX10_join 14 = .ok (.iconst (-1), 1) := by decide +kernel
theorem dX10_join_15 : decode cX10_join 15 = .ok (.ireturn, 1) := by decide +kernel
theorem dX10_join_16 : decode cX10_join 16 = .ok (.aload_n 0, 1) := by decide +kernel
theorem dX10_join_17 : decode cX10_join 17 = .ok (.iload_n 2, 1) := by decide +kernel
theorem dX10_join_18 : decode cX10_join 18 = .ok (.invokevirtual 63, 3) := by decide +kernel
theorem dX10_join_21 : decode cX10_join 21 = .ok (.ifCond .eq 8, 3) := by decide +kernel
theorem dX10_join_24 : decode cX10_join 24 = .ok (.aload_n 0, 1) := by decide +kernel
theorem dX10_join_25 : decode cX10_join 25 = .ok (.invokevirtual 176, 3) := by decide +kernel
theorem dX10_join_28 : decode cX10_join 28 = .ok (.ireturn, 1) := by decide +kernel
theorem dX10_join_29 : decode cX10_join 29 = .ok (.aload_n 0, 1) := by decide +kernel
theorem dX10_join_30 : decode cX10_join 30 = .ok (.iload_n 1, 1) := by decide +kernel
theorem dX10_join_31 : decode cX10_join 31 = .ok (.invokevirtual 245, 3) := by decide +kernel
theorem dX10_join_34 : decode cX10_join 34 = .ok (.aload_n 0, 1) := by decide +kernel
theorem dX10_join_35 : decode cX10_join 35 = .ok (.iload_n 2, 1) := by decide +kernel
theorem dX10_join_36 : decode cX10_join 36 = .ok (.invokestatic 51, 3) := by decide +kernel
theorem dX10_join_39 : decode cX10_join 39 = .ok (.iload_n 1, 1) := by decide +kernel
theorem dX10_join_40 : decode cX10_join 40 = .ok (.iconst 0, 1) := by decide +kernel
theorem dX10_join_41 : decode cX10_join 41 = .ok (.invokestatic 239, 3) := by decide +kernel
theorem dX10_join_44 : decode cX10_join 44 = .ok (.invokevirtual 70, 3) := by decide +kernel
theorem dX10_join_47 : decode cX10_join 47 = .ok (.aload_n 0, 1) := by decide +kernel
theorem dX10_join_48 : decode cX10_join 48 = .ok (.getfield 8, 3) := by decide +kernel
theorem dX10_join_51 : decode cX10_join 51 = .ok (.iload_n 1, 1) := by decide +kernel
theorem dX10_join_52 : decode cX10_join 52 = .ok (.sipush 301, 3) := by decide +kernel
theorem dX10_join_55 : decode cX10_join 55 = .ok (.invokestatic 239, 3) := by decide +kernel
theorem dX10_join_58 : decode cX10_join 58 = .ok (.iconst 0, 1) := by decide +kernel
theorem dX10_join_59 : decode cX10_join 59 = .ok (.iastore, 1) := by decide +kernel
theorem dX10_join_60 : decode cX10_join 60 = .ok (.aload_n 0, 1) := by decide +kernel
theorem dX10_join_61 : decode cX10_join 61 = .ok (.getfield 8, 3) := by decide +kernel
theorem dX10_join_64 : decode cX10_join 64 = .ok (.iload_n 1, 1) := by decide +kernel
theorem dX10_join_65 : decode cX10_join 65 = .ok (.sipush 602, 3) := by decide +kernel
theorem dX10_join_68 : decode cX10_join 68 = .ok (.invokestatic 239, 3) := by decide +kernel
theorem dX10_join_71 : decode cX10_join 71 = .ok (.iconst 0, 1) := by decide +kernel
theorem dX10_join_72 : decode cX10_join 72 = .ok (.iastore, 1) := by decide +kernel
theorem dX10_join_73 : decode cX10_join 73 = .ok (.iconst 0, 1) := by decide +kernel
theorem dX10_join_74 : decode cX10_join 74 = .ok (.ireturn, 1) := by decide +kernel
set_option maxRecDepth 20000 in
theorem ggX10_joinWithin_X10_isJoiner : GoodIn wsX10_joinWithin wsX10_isJoiner := goodIn_r _ [5] (by decide +kernel) (by decide +kernel)
set_option maxRecDepth 20000 in
theorem gX10_joinWithin_X10_isJoiner : GoodIn wsX10_joinWithin (va_wsS RX10 242 yX10_isJoiner wsX10_isJoiner) := goodIn_app (goodIn_of _ (by decide +kernel)) ggX10_joinWithin_X10_isJoiner
set_option maxRecDepth 20000 in
theorem ggX10_joinWithin_X10_isSlot : GoodIn wsX10_joinWithin wsX10_isSlot := goodIn_r _ [8] (by decide +kernel) (by decide +kernel)
set_option maxRecDepth 20000 in
theorem gX10_joinWithin_X10_isSlot : GoodIn wsX10_joinWithin (va_wsS RX10 59 yX10_isSlot wsX10_isSlot) := goodIn_app (goodIn_of _ (by decide +kernel)) ggX10_joinWithin_X10_isSlot
set_option maxRecDepth 20000 in
theorem ggX10_joinWithin_X10_hasNothing : GoodIn wsX10_joinWithin wsX10_hasNothing := goodIn_r _ [12, 1, 13, 14, 4, 15, 38, 39, 40, 41, 42, 43, 44, 45, 46, 47, 48, 49, 50, 51, 52, 53, 54, 55, 56, 57, 58] (by decide +kernel) (by decide +kernel)
set_option maxRecDepth 20000 in
theorem gX10_joinWithin_X10_hasNothing : GoodIn wsX10_joinWithin (wsV RX10 63 RX10 yX10_hasNothing wsX10_hasNothing) := goodIn_app (goodIn_of _ (by decide +kernel)) ggX10_joinWithin_X10_hasNothing
set_option maxRecDepth 20000 in
theorem ggX10_joinWithin_X10_refusedNull : GoodIn wsX10_joinWithin wsX10_refusedNull := goodIn_r _ [19, 20, 38, 39, 40, 41, 42, 43, 44, 45, 46, 47, 48, 49, 50, 51, 52, 53, 54, 55, 56, 57, 58] (by decide +kernel) (by decide +kernel)
set_option maxRecDepth 20000 in
theorem gX10_joinWithin_X10_refusedNull : GoodIn wsX10_joinWithin (wsV RX10 176 RX10 yX10_refusedNull wsX10_refusedNull) := goodIn_app (goodIn_of _ (by decide +kernel)) ggX10_joinWithin_X10_refusedNull
set_option maxRecDepth 20000 in
theorem ggX10_joinWithin_X10_at : GoodIn wsX10_joinWithin wsX10_at := goodIn_r _ [15] (by decide +kernel) (by decide +kernel)
set_option maxRecDepth 20000 in
theorem gX10_joinWithin_X10_at : GoodIn wsX10_joinWithin (va_wsS RX10 51 yX10_at wsX10_at) := goodIn_app (goodIn_of _ (by decide +kernel)) ggX10_joinWithin_X10_at
set_option maxRecDepth 20000 in
theorem ggX10_joinWithin_X10_begin : GoodIn wsX10_joinWithin wsX10_begin := goodIn_r _ [24, 25, 26, 1, 27, 28, 4, 29, 38, 39, 40, 41, 42, 43, 44, 45, 46, 47, 48, 49, 50, 51, 52, 53, 54, 55, 56, 57, 58] (by decide +kernel) (by decide +kernel)
set_option maxRecDepth 20000 in
theorem gX10_joinWithin_X10_begin : GoodIn wsX10_joinWithin (wsV RX10 245 RX10 yX10_begin wsX10_begin) := goodIn_app (goodIn_of _ (by decide +kernel)) ggX10_joinWithin_X10_begin
set_option maxRecDepth 20000 in
theorem ggX10_joinWithin_X10_part : GoodIn wsX10_joinWithin wsX10_part := goodIn_r _ [29] (by decide +kernel) (by decide +kernel)
set_option maxRecDepth 20000 in
theorem gX10_joinWithin_X10_part : GoodIn wsX10_joinWithin (va_wsS RX10 239 yX10_part wsX10_part) := goodIn_app (goodIn_of _ (by decide +kernel)) ggX10_joinWithin_X10_part
set_option maxRecDepth 20000 in
theorem ggX10_joinWithin_X10_copyText : GoodIn wsX10_joinWithin wsX10_copyText := goodIn_r _ [33, 1, 38, 39, 40, 41, 42, 43, 44, 45, 46, 47, 48, 49, 50, 51, 52, 53, 54, 55, 56, 57, 58] (by decide +kernel) (by decide +kernel)
set_option maxRecDepth 20000 in
theorem gX10_joinWithin_X10_copyText : GoodIn wsX10_joinWithin (wsV RX10 70 RX10 yX10_copyText wsX10_copyText) := goodIn_app (goodIn_of _ (by decide +kernel)) ggX10_joinWithin_X10_copyText
set_option maxRecDepth 20000 in
theorem ggX10_joinWithin_X10_resultSize : GoodIn wsX10_joinWithin wsX10_resultSize := goodIn_r _ [37, 1, 26, 27, 28, 4, 29, 38, 39, 40, 41, 42, 43, 44, 45, 46, 47, 48, 49, 50, 51, 52, 53, 54, 55, 56, 57, 58] (by decide +kernel) (by decide +kernel)
set_option maxRecDepth 20000 in
theorem gX10_joinWithin_X10_resultSize : GoodIn wsX10_joinWithin (wsV RX10 248 RX10 yX10_resultSize wsX10_resultSize) := goodIn_app (goodIn_of _ (by decide +kernel)) ggX10_joinWithin_X10_resultSize
theorem dX10_joinWithin_0 : decode cX10_joinWithin 0 = .ok (.iload_n 1, 1) := by decide +kernel
theorem dX10_joinWithin_1 : decode cX10_joinWithin 1 = .ok (.invokestatic 242, 3) := by decide +kernel
theorem dX10_joinWithin_4 : decode cX10_joinWithin 4 = .ok (.ifCond .eq 25, 3) := by decide +kernel
theorem dX10_joinWithin_7 : decode cX10_joinWithin 7 = .ok (.iload_n 2, 1) := by decide +kernel
theorem dX10_joinWithin_8 : decode cX10_joinWithin 8 = .ok (.invokestatic 59, 3) := by decide +kernel
theorem dX10_joinWithin_11 : decode cX10_joinWithin 11 = .ok (.ifCond .eq 18, 3) := by decide +kernel
theorem dX10_joinWithin_14 : decode cX10_joinWithin 14 = .ok (.iload_n 3, 1) := by decide +kernel
theorem dX10_joinWithin_15 : decode cX10_joinWithin 15 = .ok (.invokestatic 59, 3) := by decide +kernel
theorem dX10_joinWithin_18 : decode cX10_joinWithin 18 = .ok (.ifCond .eq 11, 3) := by decide +kernel
theorem dX10_joinWithin_21 : decode cX10_joinWithin 21 = .ok (.iload 4, 2) := by decide +kernel
theorem dX10_joinWithin_23 : decode cX10_joinWithin 23 = .ok (.invokestatic 59, 3) := by decide +kernel
theorem dX10_joinWithin_26 : decode cX10_joinWithin 26 = .ok (.ifCond .ne 5, 3) := by decide +kernel
theorem dX10_joinWithin_29 : decode cX10_joinWithin 29 = .ok (.iconst (-1), 1) := by decide +kernel
theorem dX10_joinWithin_30 : decode cX10_joinWithin 30 = .ok (.ireturn, 1) := by decide +kernel
theorem dX10_joinWithin_31 : decode cX10_joinWithin 31 = .ok (.aload_n 0, 1) := by decide +kernel
theorem dX10_joinWithin_32 : decode cX10_joinWithin 32 = .ok (.iload_n 2, 1) := by decide +kernel
theorem dX10_joinWithin_33 : decode cX10_joinWithin 33 = .ok (.invokevirtual 63, 3) := by decide +kernel
theorem dX10_joinWithin_36 : decode cX10_joinWithin 36 = .ok (.ifCond .ne 20, 3) := by decide +kernel
theorem dX10_joinWithin_39 : decode cX10_joinWithin 39 = .ok (.aload_n 0, 1) := by decide +kernel
theorem dX10_joinWithin_40 : decode cX10_joinWithin 40 = .ok (.iload_n 3, 1) := by decide +kernel
theorem dX10_joinWithin_41 : decode cX10_joinWithin 41 = .ok (.invokevirtual 63, 3) := by decide +kernel
theorem dX10_joinWithin_44 : decode cX10_joinWithin 44 = .ok (.ifCond .ne 12, 3) := by decide +kernel
theorem dX10_joinWithin_47 : decode cX10_joinWithin 47 = .ok (.aload_n 0, 1) := by decide +kernel
theorem dX10_joinWithin_48 : decode cX10_joinWithin 48 = .ok (.iload 4, 2) := by decide +kernel
theorem dX10_joinWithin_50 : decode cX10_joinWithin 50 = .ok (.invokevirtual 63, 3) := by decide +kernel
theorem dX10_joinWithin_53 : decode cX10_joinWithin 53 = .ok (.ifCond .eq 8, 3) := by decide +kernel
theorem dX10_joinWithin_56 : decode cX10_joinWithin 56 = .ok (.aload_n 0, 1) := by decide +kernel
theorem dX10_joinWithin_57 : decode cX10_joinWithin 57 = .ok (.invokevirtual 176, 3) := by decide +kernel
theorem dX10_joinWithin_60 : decode cX10_joinWithin 60 = .ok (.ireturn, 1) := by decide +kernel
theorem dX10_joinWithin_61 : decode cX10_joinWithin 61 = .ok (.aload_n 0, 1) := by decide +kernel
theorem dX10_joinWithin_62 : decode cX10_joinWithin 62 = .ok (.getfield 8, 3) := by decide +kernel
theorem dX10_joinWithin_65 : decode cX10_joinWithin 65 = .ok (.iload_n 3, 1) := by decide +kernel
theorem dX10_joinWithin_66 : decode cX10_joinWithin 66 = .ok (.invokestatic 51, 3) := by decide +kernel
theorem dX10_joinWithin_69 : decode cX10_joinWithin 69 = .ok (.iaload, 1) := by decide +kernel
theorem dX10_joinWithin_70 : decode cX10_joinWithin 70 = .ok (.aload_n 0, 1) := by decide +kernel
theorem dX10_joinWithin_71 : decode cX10_joinWithin 71 = .ok (.getfield 8, 3) := by decide +kernel
theorem dX10_joinWithin_74 : decode cX10_joinWithin 74 = .ok (.iload 4, 2) := by decide +kernel
theorem dX10_joinWithin_76 : decode cX10_joinWithin 76 = .ok (.invokestatic 51, 3) := by decide +kernel
theorem dX10_joinWithin_79 : decode cX10_joinWithin 79 = .ok (.iaload, 1) := by decide +kernel
theorem dX10_joinWithin_80 : decode cX10_joinWithin 80 = .ok (.iadd, 1) := by decide +kernel
theorem dX10_joinWithin_81 : decode cX10_joinWithin 81 = .ok (.sipush 300, 3) := by decide +kernel
theorem dX10_joinWithin_84 : decode cX10_joinWithin 84 = .ok (.if_icmp .le 6, 3) := by decide +kernel
theorem dX10_joinWithin_87 : decode cX10_joinWithin 87 = .ok (.bipush (-3), 2) := by decide +kernel
theorem dX10_joinWithin_89 : decode cX10_joinWithin 89 = .ok (.ireturn, 1) := by decide +kernel
theorem dX10_joinWithin_90 : decode cX10_joinWithin 90 = .ok (.aload_n 0, 1) := by decide +kernel
theorem dX10_joinWithin_91 : decode cX10_joinWithin 91 = .ok (.iload_n 1, 1) := by decide +kernel
theorem dX10_joinWithin_92 : decode cX10_joinWithin 92 = .ok (.invokevirtual 245, 3) := by decide +kernel
theorem dX10_joinWithin_95 : decode cX10_joinWithin 95 = .ok (.aload_n 0, 1) := by decide +kernel
theorem dX10_joinWithin_96 : decode cX10_joinWithin 96 = .ok (.iload_n 2, 1) := by decide +kernel
theorem dX10_joinWithin_97 : decode cX10_joinWithin 97 = .ok (.invokestatic 51, 3) := by decide +kernel
theorem dX10_joinWithin_100 : decode cX10_joinWithin 100 = .ok (.iload_n 1, 1) := by decide +kernel
theorem dX10_joinWithin_101 : decode cX10_joinWithin 101 = .ok (.iconst 0, 1) := by decide +kernel
theorem dX10_joinWithin_102 : decode cX10_joinWithin 102 = .ok (.invokestatic 239, 3) := by decide +kernel
theorem dX10_joinWithin_105 : decode cX10_joinWithin 105 = .ok (.invokevirtual 70, 3) := by decide +kernel
theorem dX10_joinWithin_108 : decode cX10_joinWithin 108 = .ok (.aload_n 0, 1) := by decide +kernel
theorem dX10_joinWithin_109 : decode cX10_joinWithin 109 = .ok (.iload_n 3, 1) := by decide +kernel
theorem dX10_joinWithin_110 : decode cX10_joinWithin 110 = .ok (.invokestatic 51, 3) := by decide +kernel
theorem dX10_joinWithin_113 : decode cX10_joinWithin 113 = .ok (.iload_n 1, 1) := by decide +kernel
theorem dX10_joinWithin_114 : decode cX10_joinWithin 114 = .ok (.sipush 301, 3) := by decide +kernel
theorem dX10_joinWithin_117 : decode cX10_joinWithin 117 = .ok (.invokestatic 239, 3) := by decide +kernel
theorem dX10_joinWithin_120 : decode cX10_joinWithin 120 = .ok (.invokevirtual 70, 3) := by decide +kernel
theorem dX10_joinWithin_123 : decode cX10_joinWithin 123 = .ok (.aload_n 0, 1) := by decide +kernel
theorem dX10_joinWithin_124 : decode cX10_joinWithin 124 = .ok (.iload 4, 2) := by decide +kernel
theorem dX10_joinWithin_126 : decode cX10_joinWithin 126 = .ok (.invokestatic 51, 3) := by decide +kernel
theorem dX10_joinWithin_129 : decode cX10_joinWithin 129 = .ok (.iload_n 1, 1) := by decide +kernel
theorem dX10_joinWithin_130 : decode cX10_joinWithin 130 = .ok (.sipush 602, 3) := by decide +kernel
theorem dX10_joinWithin_133 : decode cX10_joinWithin 133 = .ok (.invokestatic 239, 3) := by decide +kernel
theorem dX10_joinWithin_136 : decode cX10_joinWithin 136 = .ok (.invokevirtual 70, 3) := by decide +kernel
theorem dX10_joinWithin_139 : decode cX10_joinWithin 139 = .ok (.aload_n 0, 1) := by decide +kernel
theorem dX10_joinWithin_140 : decode cX10_joinWithin 140 = .ok (.iload_n 1, 1) := by decide +kernel
theorem dX10_joinWithin_141 : decode cX10_joinWithin 141 = .ok (.invokevirtual 248, 3) := by decide +kernel
theorem dX10_joinWithin_144 : decode cX10_joinWithin 144 = .ok (.ireturn, 1) := by decide +kernel
set_option maxRecDepth 20000 in
theorem ggX10_addElement_X10_part : GoodIn wsX10_addElement wsX10_part := goodIn_r _ [6] (by decide +kernel) (by decide +kernel)
set_option maxRecDepth 20000 in
theorem gX10_addElement_X10_part : GoodIn wsX10_addElement (va_wsS RX10 239 yX10_part wsX10_part) := goodIn_app (goodIn_of _ (by decide +kernel)) ggX10_addElement_X10_part
set_option maxRecDepth 20000 in
theorem ggX10_addElement_X10_addText : GoodIn wsX10_addElement wsX10_addText := goodIn_r _ [10, 2, 15, 16, 17, 18, 19, 20, 21, 22, 23, 24, 25, 26, 27, 28, 29, 30, 31, 32, 33, 34, 35] (by decide +kernel) (by decide +kernel)
set_option maxRecDepth 20000 in
theorem gX10_addElement_X10_addText : GoodIn wsX10_addElement (wsV RX10 251 RX10 yX10_addText wsX10_addText) := goodIn_app (goodIn_of _ (by decide +kernel)) ggX10_addElement_X10_addText
set_option maxRecDepth 20000 in
theorem ggX10_addElement_X10_resultSize : GoodIn wsX10_addElement wsX10_resultSize := goodIn_r _ [14, 2, 1, 3, 4, 5, 6, 15, 16, 17, 18, 19, 20, 21, 22, 23, 24, 25, 26, 27, 28, 29, 30, 31, 32, 33, 34, 35] (by decide +kernel) (by decide +kernel)
set_option maxRecDepth 20000 in
theorem gX10_addElement_X10_resultSize : GoodIn wsX10_addElement (wsV RX10 248 RX10 yX10_resultSize wsX10_resultSize) := goodIn_app (goodIn_of _ (by decide +kernel)) ggX10_addElement_X10_resultSize
theorem dX10_addElement_0 : decode cX10_addElement 0 = .ok (.aload_n 0, 1) := by decide +kernel
theorem dX10_addElement_1 : decode cX10_addElement 1 = .ok (.getfield 39, 3) := by decide +kernel
theorem dX10_addElement_4 : decode cX10_addElement 4 = .ok (.iload_n 1, 1) := by decide +kernel
theorem dX10_addElement_5 : decode cX10_addElement 5 = .ok (.baload, 1) := by decide +kernel
theorem dX10_addElement_6 : decode cX10_addElement 6 = .ok (.ifCond .eq 29, 3) := by decide +kernel
theorem dX10_addElement_9 : decode cX10_addElement 9 = .ok (.aload_n 0, 1) := by decide +kernel
theorem dX10_addElement_10 : decode cX10_addElement 10 = .ok (.getfield 8, 3) := by decide +kernel
theorem dX10_addElement_13 : decode cX10_addElement 13 = .ok (.iload_n 1, 1) := by decide +kernel
theorem dX10_addElement_14 : decode cX10_addElement 14 = .ok (.sipush 1204, 3) := by decide +kernel
theorem dX10_addElement_17 : decode cX10_addElement 17 = .ok (.invokestatic 239, 3) := by decide +kernel
theorem dX10_addElement_20 : decode cX10_addElement 20 = .ok (.iaload, 1) := by decide +kernel
theorem dX10_addElement_21 : decode cX10_addElement 21 = .ok (.aload_n 0, 1) := by decide +kernel
theorem dX10_addElement_22 : decode cX10_addElement 22 = .ok (.getfield 8, 3) := by decide +kernel
theorem dX10_addElement_25 : decode cX10_addElement 25 = .ok (.iload_n 1, 1) := by decide +kernel
theorem dX10_addElement_26 : decode cX10_addElement 26 = .ok (.iconst 0, 1) := by decide +kernel
theorem dX10_addElement_27 : decode cX10_addElement 27 = .ok (.invokestatic 239, 3) := by decide +kernel
theorem dX10_addElement_30 : decode cX10_addElement 30 = .ok (.iaload, 1) := by decide +kernel
theorem dX10_addElement_31 : decode cX10_addElement 31 = .ok (.iadd, 1) := by decide +kernel
theorem dX10_addElement_32 : decode cX10_addElement 32 = .ok (.goto 4, 3) := by decide +kernel
theorem dX10_addElement_35 : decode cX10_addElement 35 = .ok (.iconst 0, 1) := by decide +kernel
theorem dX10_addElement_36 : decode cX10_addElement 36 = .ok (.aload_n 0, 1) := by decide +kernel
theorem dX10_addElement_37 : decode cX10_addElement 37 = .ok (.getfield 8, 3) := by decide +kernel
theorem dX10_addElement_40 : decode cX10_addElement 40 = .ok (.iload_n 2, 1) := by decide +kernel
theorem dX10_addElement_41 : decode cX10_addElement 41 = .ok (.iaload, 1) := by decide +kernel
theorem dX10_addElement_42 : decode cX10_addElement 42 = .ok (.iadd, 1) := by decide +kernel
theorem dX10_addElement_43 : decode cX10_addElement 43 = .ok (.istore_n 3, 1) := by decide +kernel
theorem dX10_addElement_44 : decode cX10_addElement 44 = .ok (.aload_n 0, 1) := by decide +kernel
theorem dX10_addElement_45 : decode cX10_addElement 45 = .ok (.getfield 8, 3) := by decide +kernel
theorem dX10_addElement_48 : decode cX10_addElement 48 = .ok (.iload_n 1, 1) := by decide +kernel
theorem dX10_addElement_49 : decode cX10_addElement 49 = .ok (.sipush 301, 3) := by decide +kernel
theorem dX10_addElement_52 : decode cX10_addElement 52 = .ok (.invokestatic 239, 3) := by decide +kernel
theorem dX10_addElement_55 : decode cX10_addElement 55 = .ok (.iaload, 1) := by decide +kernel
theorem dX10_addElement_56 : decode cX10_addElement 56 = .ok (.iload_n 3, 1) := by decide +kernel
theorem dX10_addElement_57 : decode cX10_addElement 57 = .ok (.iadd, 1) := by decide +kernel
theorem dX10_addElement_58 : decode cX10_addElement 58 = .ok (.aload_n 0, 1) := by decide +kernel
theorem dX10_addElement_59 : decode cX10_addElement 59 = .ok (.getfield 8, 3) := by decide +kernel
theorem dX10_addElement_62 : decode cX10_addElement 62 = .ok (.iload_n 1, 1) := by decide +kernel
theorem dX10_addElement_63 : decode cX10_addElement 63 = .ok (.sipush 602, 3) := by decide +kernel
theorem dX10_addElement_66 : decode cX10_addElement 66 = .ok (.invokestatic 239, 3) := by decide +kernel
theorem dX10_addElement_69 : decode cX10_addElement 69 = .ok (.iaload, 1) := by decide +kernel
theorem dX10_addElement_70 : decode cX10_addElement 70 = .ok (.iadd, 1) := by decide +kernel
theorem dX10_addElement_71 : decode cX10_addElement 71 = .ok (.sipush 300, 3) := by decide +kernel
theorem dX10_addElement_74 : decode cX10_addElement 74 = .ok (.if_icmp .le 6, 3) := by decide +kernel
theorem dX10_addElement_77 : decode cX10_addElement 77 = .ok (.bipush (-3), 2) := by decide +kernel
theorem dX10_addElement_79 : decode cX10_addElement 79 = .ok (.ireturn, 1) := by decide +kernel
theorem dX10_addElement_80 : decode cX10_addElement 80 = .ok (.aload_n 0, 1) := by decide +kernel
theorem dX10_addElement_81 : decode cX10_addElement 81 = .ok (.getfield 39, 3) := by decide +kernel
theorem dX10_addElement_84 : decode cX10_addElement 84 = .ok (.iload_n 1, 1) := by decide +kernel
theorem dX10_addElement_85 : decode cX10_addElement 85 = .ok (.baload, 1) := by decide +kernel
theorem dX10_addElement_86 : decode cX10_addElement 86 = .ok (.ifCond .eq 19, 3) := by decide +kernel
theorem dX10_addElement_89 : decode cX10_addElement 89 = .ok (.aload_n 0, 1) := by decide +kernel
theorem dX10_addElement_90 : decode cX10_addElement 90 = .ok (.iload_n 1, 1) := by decide +kernel
theorem dX10_addElement_91 : decode cX10_addElement 91 = .ok (.iconst 0, 1) := by decide +kernel
theorem dX10_addElement_92 : decode cX10_addElement 92 = .ok (.invokestatic 239, 3) := by decide +kernel
theorem dX10_addElement_95 : decode cX10_addElement 95 = .ok (.iload_n 1, 1) := by decide +kernel
theorem dX10_addElement_96 : decode cX10_addElement 96 = .ok (.sipush 1204, 3) := by decide +kernel
theorem dX10_addElement_99 : decode cX10_addElement 99 = .ok (.invokestatic 239, 3) := by decide +kernel
theorem dX10_addElement_102 : decode cX10_addElement 102 = .ok (.invokevirtual 251, 3) := by decide +kernel
theorem dX10_addElement_105 : decode cX10_addElement 105 = .ok (.aload_n 0, 1) := by decide +kernel
theorem dX10_addElement_106 : decode cX10_addElement 106 = .ok (.iload_n 2, 1) := by decide +kernel
theorem dX10_addElement_107 : decode cX10_addElement 107 = .ok (.iload_n 1, 1) := by decide +kernel
theorem dX10_addElement_108 : decode cX10_addElement 108 = .ok (.sipush 1204, 3) := by decide +kernel
theorem dX10_addElement_111 : decode cX10_addElement 111 = .ok (.invokestatic 239, 3) := by decide +kernel
theorem dX10_addElement_114 : decode cX10_addElement 114 = .ok (.invokevirtual 251, 3) := by decide +kernel
theorem dX10_addElement_117 : decode cX10_addElement 117 = .ok (.aload_n 0, 1) := by decide +kernel
theorem dX10_addElement_118 : decode cX10_addElement 118 = .ok (.getfield 39, 3) := by decide +kernel
theorem dX10_addElement_121 : decode cX10_addElement 121 = .ok (.iload_n 1, 1) := by decide +kernel
theorem dX10_addElement_122 : decode cX10_addElement 122 = .ok (.iconst 1, 1) := by decide +kernel
theorem dX10_addElement_123 : decode cX10_addElement 123 = .ok (.bastore, 1) := by decide +kernel
theorem dX10_addElement_124 : decode cX10_addElement 124 = .ok (.aload_n 0, 1) := by decide +kernel
theorem dX10_addElement_125 : decode cX10_addElement 125 = .ok (.iload_n 1, 1) := by decide +kernel
theorem dX10_addElement_126 : decode cX10_addElement 126 = .ok (.invokevirtual 248, 3) := by decide +kernel
theorem dX10_addElement_129 : decode cX10_addElement 129 = .ok (.ireturn, 1) := by decide +kernel
set_option maxRecDepth 20000 in
theorem ggX10_add_X10_isJoiner : GoodIn wsX10_add wsX10_isJoiner := goodIn_r _ [6] (by decide +kernel) (by decide +kernel)
set_option maxRecDepth 20000 in
theorem gX10_add_X10_isJoiner : GoodIn wsX10_add (va_wsS RX10 242 yX10_isJoiner wsX10_isJoiner) := goodIn_app (goodIn_of _ (by decide +kernel)) ggX10_add_X10_isJoiner
set_option maxRecDepth 20000 in
theorem ggX10_add_X10_isSlot : GoodIn wsX10_add wsX10_isSlot := goodIn_r _ [9] (by decide +kernel) (by decide +kernel)
set_option maxRecDepth 20000 in
theorem gX10_add_X10_isSlot : GoodIn wsX10_add (va_wsS RX10 59 yX10_isSlot wsX10_isSlot) := goodIn_app (goodIn_of _ (by decide +kernel)) ggX10_add_X10_isSlot
set_option maxRecDepth 20000 in
theorem ggX10_add_X10_addSign : GoodIn wsX10_add wsX10_addSign := goodIn_r _ [13, 2, 37, 38, 39, 40, 41, 42, 43, 44, 45, 46, 47, 48, 49, 50, 51, 52, 53, 54, 55, 56, 57] (by decide +kernel) (by decide +kernel)
set_option maxRecDepth 20000 in
theorem gX10_add_X10_addSign : GoodIn wsX10_add (wsV RX10 66 RX10 yX10_addSign wsX10_addSign) := goodIn_app (goodIn_of _ (by decide +kernel)) ggX10_add_X10_addSign
set_option maxRecDepth 20000 in
theorem ggX10_add_X10_hasNothing : GoodIn wsX10_add wsX10_hasNothing := goodIn_r _ [17, 2, 18, 19, 5, 20, 37, 38, 39, 40, 41, 42, 43, 44, 45, 46, 47, 48, 49, 50, 51, 52, 53, 54, 55, 56, 57] (by decide +kernel) (by decide +kernel)
set_option maxRecDepth 20000 in
theorem gX10_add_X10_hasNothing : GoodIn wsX10_add (wsV RX10 63 RX10 yX10_hasNothing wsX10_hasNothing) := goodIn_app (goodIn_of _ (by decide +kernel)) ggX10_add_X10_hasNothing
set_option maxRecDepth 20000 in
theorem ggX10_add_X10_at : GoodIn wsX10_add wsX10_at := goodIn_r _ [20] (by decide +kernel) (by decide +kernel)
set_option maxRecDepth 20000 in
theorem gX10_add_X10_at : GoodIn wsX10_add (va_wsS RX10 51 yX10_at wsX10_at) := goodIn_app (goodIn_of _ (by decide +kernel)) ggX10_add_X10_at
set_option maxRecDepth 20000 in
theorem ggX10_add_X10_addElement : GoodIn wsX10_add wsX10_addElement := goodIn_r _ [24, 25, 2, 26, 27, 5, 28, 29, 30, 31, 32, 33, 34, 35, 36, 37, 38, 39, 40, 41, 42, 43, 44, 45, 46, 47, 48, 49, 50, 51, 52, 53, 54, 55, 56, 57] (by decide +kernel) (by decide +kernel)
set_option maxRecDepth 20000 in
theorem gX10_add_X10_addElement : GoodIn wsX10_add (wsV RX10 254 RX10 yX10_addElement wsX10_addElement) := goodIn_app (goodIn_of _ (by decide +kernel)) ggX10_add_X10_addElement
theorem dX10_add_0 : decode cX10_add 0 = .ok (.iload_n 1, 1) := by decide +kernel
theorem dX10_add_1 : decode cX10_add 1 = .ok (.invokestatic 242, 3) := by decide +kernel
theorem dX10_add_4 : decode cX10_add 4 = .ok (.ifCond .eq 10, 3) := by decide +kernel
theorem dX10_add_7 : decode cX10_add 7 = .ok (.iload_n 2, 1) := by decide +kernel
theorem dX10_add_8 : decode cX10_add 8 = .ok (.invokestatic 59, 3) := by decide +kernel
theorem dX10_add_11 : decode cX10_add 11 = .ok (.ifCond .ne 5, 3) := by decide +kernel
theorem dX10_add_14 : decode cX10_add 14 = .ok (.iconst (-1), 1) := by decide +kernel
theorem dX10_add_15 : decode cX10_add 15 = .ok (.ireturn, 1) := by decide +kernel
theorem dX10_add_16 : decode cX10_add 16 = .ok (.aload_n 0, 1) := by decide +kernel
theorem dX10_add_17 : decode cX10_add 17 = .ok (.getfield 36, 3) := by decide +kernel
theorem dX10_add_20 : decode cX10_add 20 = .ok (.iload_n 1, 1) := by decide +kernel
theorem dX10_add_21 : decode cX10_add 21 = .ok (.baload, 1) := by decide +kernel
theorem dX10_add_22 : decode cX10_add 22 = .ok (.ifCond .ne 6, 3) := by decide +kernel
theorem dX10_add_25 : decode cX10_add 25 = .ok (.bipush (-4), 2) := by decide +kernel
theorem dX10_add_27 : decode cX10_add 27 = .ok (.ireturn, 1) := by decide +kernel
theorem dX10_add_28 : decode cX10_add 28 = .ok (.aload_n 0, 1) := by decide +kernel
theorem dX10_add_29 : decode cX10_add 29 = .ok (.getfield 8, 3) := by decide +kernel
theorem dX10_add_32 : decode cX10_add 32 = .ok (.sipush 1806, 3) := by decide +kernel
theorem dX10_add_35 : decode cX10_add 35 = .ok (.iconst 0, 1) := by decide +kernel
theorem dX10_add_36 : decode cX10_add 36 = .ok (.iastore, 1) := by decide +kernel
theorem dX10_add_37 : decode cX10_add 37 = .ok (.aload_n 0, 1) := by decide +kernel
theorem dX10_add_38 : decode cX10_add 38 = .ok (.sipush 1806, 3) := by decide +kernel
theorem dX10_add_41 : decode cX10_add 41 = .ok (.bipush 110, 2) := by decide +kernel
theorem dX10_add_43 : decode cX10_add 43 = .ok (.invokevirtual 66, 3) := by decide +kernel
theorem dX10_add_46 : decode cX10_add 46 = .ok (.aload_n 0, 1) := by decide +kernel
theorem dX10_add_47 : decode cX10_add 47 = .ok (.sipush 1806, 3) := by decide +kernel
theorem dX10_add_50 : decode cX10_add 50 = .ok (.bipush 117, 2) := by decide +kernel
theorem dX10_add_52 : decode cX10_add 52 = .ok (.invokevirtual 66, 3) := by decide +kernel
theorem dX10_add_55 : decode cX10_add 55 = .ok (.aload_n 0, 1) := by decide +kernel
theorem dX10_add_56 : decode cX10_add 56 = .ok (.sipush 1806, 3) := by decide +kernel
theorem dX10_add_59 : decode cX10_add 59 = .ok (.bipush 108, 2) := by decide +kernel
theorem dX10_add_61 : decode cX10_add 61 = .ok (.invokevirtual 66, 3) := by decide +kernel
theorem dX10_add_64 : decode cX10_add 64 = .ok (.aload_n 0, 1) := by decide +kernel
theorem dX10_add_65 : decode cX10_add 65 = .ok (.sipush 1806, 3) := by decide +kernel
theorem dX10_add_68 : decode cX10_add 68 = .ok (.bipush 108, 2) := by decide +kernel
theorem dX10_add_70 : decode cX10_add 70 = .ok (.invokevirtual 66, 3) := by decide +kernel
theorem dX10_add_73 : decode cX10_add 73 = .ok (.aload_n 0, 1) := by decide +kernel
theorem dX10_add_74 : decode cX10_add 74 = .ok (.iload_n 1, 1) := by decide +kernel
theorem dX10_add_75 : decode cX10_add 75 = .ok (.aload_n 0, 1) := by decide +kernel
theorem dX10_add_76 : decode cX10_add 76 = .ok (.iload_n 2, 1) := by decide +kernel
theorem dX10_add_77 : decode cX10_add 77 = .ok (.invokevirtual 63, 3) := by decide +kernel
theorem dX10_add_80 : decode cX10_add 80 = .ok (.ifCond .eq 9, 3) := by decide +kernel
theorem dX10_add_83 : decode cX10_add 83 = .ok (.sipush 1806, 3) := by decide +kernel
theorem dX10_add_86 : decode cX10_add 86 = .ok (.goto 7, 3) := by decide +kernel
theorem dX10_add_89 : decode cX10_add 89 = .ok (.iload_n 2, 1) := by decide +kernel
theorem dX10_add_90 : decode cX10_add 90 = .ok (.invokestatic 51, 3) := by decide +kernel
theorem dX10_add_93 : decode cX10_add 93 = .ok (.invokevirtual 254, 3) := by decide +kernel
theorem dX10_add_96 : decode cX10_add 96 = .ok (.ireturn, 1) := by decide +kernel
set_option maxRecDepth 20000 in
theorem ggX10_ifEmpty_X10_isJoiner : GoodIn wsX10_ifEmpty wsX10_isJoiner := goodIn_r _ [5] (by decide +kernel) (by decide +kernel)
set_option maxRecDepth 20000 in
theorem gX10_ifEmpty_X10_isJoiner : GoodIn wsX10_ifEmpty (va_wsS RX10 242 yX10_isJoiner wsX10_isJoiner) := goodIn_app (goodIn_of _ (by decide +kernel)) ggX10_ifEmpty_X10_isJoiner
set_option maxRecDepth 20000 in
theorem ggX10_ifEmpty_X10_isSlot : GoodIn wsX10_ifEmpty wsX10_isSlot := goodIn_r _ [8] (by decide +kernel) (by decide +kernel)
set_option maxRecDepth 20000 in
theorem gX10_ifEmpty_X10_isSlot : GoodIn wsX10_ifEmpty (va_wsS RX10 59 yX10_isSlot wsX10_isSlot) := goodIn_app (goodIn_of _ (by decide +kernel)) ggX10_ifEmpty_X10_isSlot
set_option maxRecDepth 20000 in
theorem ggX10_ifEmpty_X10_hasNothing : GoodIn wsX10_ifEmpty wsX10_hasNothing := goodIn_r _ [12, 13, 14, 15, 4, 16, 34, 35, 36, 37, 38, 39, 40, 41, 42, 43, 44, 45, 46, 47, 48, 49, 50, 51, 52, 53, 54] (by decide +kernel) (by decide +kernel)
set_option maxRecDepth 20000 in
theorem gX10_ifEmpty_X10_hasNothing : GoodIn wsX10_ifEmpty (wsV RX10 63 RX10 yX10_hasNothing wsX10_hasNothing) := goodIn_app (goodIn_of _ (by decide +kernel)) ggX10_ifEmpty_X10_hasNothing
set_option maxRecDepth 20000 in
theorem ggX10_ifEmpty_X10_refusedNull : GoodIn wsX10_ifEmpty wsX10_refusedNull := goodIn_r _ [20, 21, 34, 35, 36, 37, 38, 39, 40, 41, 42, 43, 44, 45, 46, 47, 48, 49, 50, 51, 52, 53, 54] (by decide +kernel) (by decide +kernel)
set_option maxRecDepth 20000 in
theorem gX10_ifEmpty_X10_refusedNull : GoodIn wsX10_ifEmpty (wsV RX10 176 RX10 yX10_refusedNull wsX10_refusedNull) := goodIn_app (goodIn_of _ (by decide +kernel)) ggX10_ifEmpty_X10_refusedNull
set_option maxRecDepth 20000 in
theorem ggX10_ifEmpty_X10_at : GoodIn wsX10_ifEmpty wsX10_at := goodIn_r _ [16] (by decide +kernel) (by decide +kernel)
set_option maxRecDepth 20000 in
theorem gX10_ifEmpty_X10_at : GoodIn wsX10_ifEmpty (va_wsS RX10 51 yX10_at wsX10_at) := goodIn_app (goodIn_of _ (by decide +kernel)) ggX10_ifEmpty_X10_at
set_option maxRecDepth 20000 in
theorem ggX10_ifEmpty_X10_part : GoodIn wsX10_ifEmpty wsX10_part := goodIn_r _ [24] (by decide +kernel) (by decide +kernel)
set_option maxRecDepth 20000 in
theorem gX10_ifEmpty_X10_part : GoodIn wsX10_ifEmpty (va_wsS RX10 239 yX10_part wsX10_part) := goodIn_app (goodIn_of _ (by decide +kernel)) ggX10_ifEmpty_X10_part
set_option maxRecDepth 20000 in
theorem ggX10_ifEmpty_X10_copyText : GoodIn wsX10_ifEmpty wsX10_copyText := goodIn_r _ [28, 13, 34, 35, 36, 37, 38, 39, 40, 41, 42, 43, 44, 45, 46, 47, 48, 49, 50, 51, 52, 53, 54] (by decide +kernel) (by decide +kernel)
set_option maxRecDepth 20000 in
theorem gX10_ifEmpty_X10_copyText : GoodIn wsX10_ifEmpty (wsV RX10 70 RX10 yX10_copyText wsX10_copyText) := goodIn_app (goodIn_of _ (by decide +kernel)) ggX10_ifEmpty_X10_copyText
set_option maxRecDepth 20000 in
theorem ggX10_ifEmpty_X10_resultSize : GoodIn wsX10_ifEmpty wsX10_resultSize := goodIn_r _ [32, 13, 33, 22, 23, 4, 24, 34, 35, 36, 37, 38, 39, 40, 41, 42, 43, 44, 45, 46, 47, 48, 49, 50, 51, 52, 53, 54] (by decide +kernel) (by decide +kernel)
set_option maxRecDepth 20000 in
theorem gX10_ifEmpty_X10_resultSize : GoodIn wsX10_ifEmpty (wsV RX10 248 RX10 yX10_resultSize wsX10_resultSize) := goodIn_app (goodIn_of _ (by decide +kernel)) ggX10_ifEmpty_X10_resultSize
theorem dX10_ifEmpty_0 : decode cX10_ifEmpty 0 = .ok (.iload_n 1, 1) := by decide +kernel
theorem dX10_ifEmpty_1 : decode cX10_ifEmpty 1 = .ok (.invokestatic 242, 3) := by decide +kernel
theorem dX10_ifEmpty_4 : decode cX10_ifEmpty 4 = .ok (.ifCond .eq 10, 3) := by decide +kernel
theorem dX10_ifEmpty_7 : decode cX10_ifEmpty 7 = .ok (.iload_n 2, 1) := by decide +kernel
theorem dX10_ifEmpty_8 : decode cX10_ifEmpty 8 = .ok (.invokestatic 59, 3) := by decide +kernel
theorem dX10_ifEmpty_11 : decode cX10_ifEmpty 11 = .ok (.ifCond .ne 5, 3) := by decide +kernel
theorem dX10_ifEmpty_14 : decode cX10_ifEmpty 14 = .ok (.iconst (-1), 1) := by decide +kernel
theorem dX10_ifEmpty_15 : decode cX10_ifEmpty 15 = .ok (.ireturn, 1) := by decide +kernel
theorem dX10_ifEmpty_16 : decode cX10_ifEmpty 16 = .ok (.aload_n 0, 1) := by decide +kernel
theorem dX10_ifEmpty_17 : decode cX10_ifEmpty 17 = .ok (.getfield 36, 3) := by decide +kernel
theorem dX10_ifEmpty_20 : decode cX10_ifEmpty 20 = .ok (.iload_n 1, 1) := by decide +kernel
theorem dX10_ifEmpty_21 : decode cX10_ifEmpty 21 = .ok (.baload, 1) := by decide +kernel
theorem dX10_ifEmpty_22 : decode cX10_ifEmpty 22 = .ok (.ifCond .ne 6, 3) := by decide +kernel
theorem dX10_ifEmpty_25 : decode cX10_ifEmpty 25 = .ok (.bipush (-4), 2) := by decide +kernel
theorem dX10_ifEmpty_27 : decode cX10_ifEmpty 27 = .ok (.ireturn, 1) := by decide +kernel
theorem dX10_ifEmpty_28 : decode cX10_ifEmpty 28 = .ok (.aload_n 0, 1) := by decide +kernel
theorem dX10_ifEmpty_29 : decode cX10_ifEmpty 29 = .ok (.iload_n 2, 1) := by decide +kernel
theorem dX10_ifEmpty_30 : decode cX10_ifEmpty 30 = .ok (.invokevirtual 63, 3) := by decide +kernel
theorem dX10_ifEmpty_33 : decode cX10_ifEmpty 33 = .ok (.ifCond .eq 8, 3) := by decide +kernel
theorem dX10_ifEmpty_36 : decode cX10_ifEmpty 36 = .ok (.aload_n 0, 1) := by decide +kernel
theorem dX10_ifEmpty_37 : decode cX10_ifEmpty 37 = .ok (.invokevirtual 176, 3) := by decide +kernel
theorem dX10_ifEmpty_40 : decode cX10_ifEmpty 40 = .ok (.ireturn, 1) := by decide +kernel
theorem dX10_ifEmpty_41 : decode cX10_ifEmpty 41 = .ok (.aload_n 0, 1) := by decide +kernel
theorem dX10_ifEmpty_42 : decode cX10_ifEmpty 42 = .ok (.iload_n 2, 1) := by decide +kernel
theorem dX10_ifEmpty_43 : decode cX10_ifEmpty 43 = .ok (.invokestatic 51, 3) := by decide +kernel
theorem dX10_ifEmpty_46 : decode cX10_ifEmpty 46 = .ok (.iload_n 1, 1) := by decide +kernel
theorem dX10_ifEmpty_47 : decode cX10_ifEmpty 47 = .ok (.sipush 903, 3) := by decide +kernel
theorem dX10_ifEmpty_50 : decode cX10_ifEmpty 50 = .ok (.invokestatic 239, 3) := by decide +kernel
theorem dX10_ifEmpty_53 : decode cX10_ifEmpty 53 = .ok (.invokevirtual 70, 3) := by decide +kernel
theorem dX10_ifEmpty_56 : decode cX10_ifEmpty 56 = .ok (.aload_n 0, 1) := by decide +kernel
theorem dX10_ifEmpty_57 : decode cX10_ifEmpty 57 = .ok (.iload_n 1, 1) := by decide +kernel
theorem dX10_ifEmpty_58 : decode cX10_ifEmpty 58 = .ok (.invokevirtual 248, 3) := by decide +kernel
theorem dX10_ifEmpty_61 : decode cX10_ifEmpty 61 = .ok (.ireturn, 1) := by decide +kernel
set_option maxRecDepth 20000 in
theorem ggX10_merge_X10_isJoiner : GoodIn wsX10_merge wsX10_isJoiner := goodIn_r _ [6] (by decide +kernel) (by decide +kernel)
set_option maxRecDepth 20000 in
theorem gX10_merge_X10_isJoiner : GoodIn wsX10_merge (va_wsS RX10 242 yX10_isJoiner wsX10_isJoiner) := goodIn_app (goodIn_of _ (by decide +kernel)) ggX10_merge_X10_isJoiner
set_option maxRecDepth 20000 in
theorem ggX10_merge_X10_part : GoodIn wsX10_merge wsX10_part := goodIn_r _ [9] (by decide +kernel) (by decide +kernel)
set_option maxRecDepth 20000 in
theorem gX10_merge_X10_part : GoodIn wsX10_merge (va_wsS RX10 239 yX10_part wsX10_part) := goodIn_app (goodIn_of _ (by decide +kernel)) ggX10_merge_X10_part
set_option maxRecDepth 20000 in
theorem ggX10_merge_X10_addElement : GoodIn wsX10_merge wsX10_addElement := goodIn_r _ [13, 2, 14, 7, 8, 5, 9, 15, 16, 17, 18, 19, 20, 21, 22, 23, 24, 25, 26, 27, 28, 29, 30, 31, 32, 33, 34, 35, 36, 37, 38, 39, 40, 41, 42, 43] (by decide +kernel) (by decide +kernel)
set_option maxRecDepth 20000 in
theorem gX10_merge_X10_addElement : GoodIn wsX10_merge (wsV RX10 254 RX10 yX10_addElement wsX10_addElement) := goodIn_app (goodIn_of _ (by decide +kernel)) ggX10_merge_X10_addElement
set_option maxRecDepth 20000 in
theorem ggX10_merge_X10_resultSize : GoodIn wsX10_merge wsX10_resultSize := goodIn_r _ [22, 14, 2, 7, 8, 5, 9, 23, 24, 25, 26, 27, 28, 29, 30, 31, 32, 33, 34, 35, 36, 37, 38, 39, 40, 41, 42, 43] (by decide +kernel) (by decide +kernel)
set_option maxRecDepth 20000 in
theorem gX10_merge_X10_resultSize : GoodIn wsX10_merge (wsV RX10 248 RX10 yX10_resultSize wsX10_resultSize) := goodIn_app (goodIn_of _ (by decide +kernel)) ggX10_merge_X10_resultSize
theorem dX10_merge_0 : decode cX10_merge 0 = .ok (.iload_n 1, 1) := by decide +kernel
theorem dX10_merge_1 : decode cX10_merge 1 = .ok (.invokestatic 242, 3) := by decide +kernel
theorem dX10_merge_4 : decode cX10_merge 4 = .ok (.ifCond .eq 15, 3) := by decide +kernel
theorem dX10_merge_7 : decode cX10_merge 7 = .ok (.iload_n 2, 1) := by decide +kernel
theorem dX10_merge_8 : decode cX10_merge 8 = .ok (.invokestatic 242, 3) := by decide +kernel
theorem dX10_merge_11 : decode cX10_merge 11 = .ok (.ifCond .eq 8, 3) := by decide +kernel
theorem dX10_merge_14 : decode cX10_merge 14 = .ok (.iload_n 1, 1) := by decide +kernel
theorem dX10_merge_15 : decode cX10_merge 15 = .ok (.iload_n 2, 1) := by decide +kernel
theorem dX10_merge_16 : decode cX10_merge 16 = .ok (.if_icmp .ne 5, 3) := by decide +kernel
theorem dX10_merge_19 : decode cX10_merge 19 = .ok (.iconst (-1), 1) := by decide +kernel
theorem dX10_merge_20 : decode cX10_merge 20 = .ok (.ireturn, 1) := by decide +kernel
theorem dX10_merge_21 : decode cX10_merge 21 = .ok (.aload_n 0, 1) := by decide +kernel
theorem dX10_merge_22 : decode cX10_merge 22 = .ok (.getfield 36, 3) := by decide +kernel
theorem dX10_merge_25 : decode cX10_merge 25 = .ok (.iload_n 1, 1) := by decide +kernel
theorem dX10_merge_26 : decode cX10_merge 26 = .ok (.baload, 1) := by decide +kernel
theorem dX10_merge_27 : decode cX10_merge 27 = .ok (.ifCond .eq 12, 3) := by decide +kernel
theorem dX10_merge_30 : decode cX10_merge 30 = .ok (.aload_n 0, 1) := by decide +kernel
theorem dX10_merge_31 : decode cX10_merge 31 = .ok (.getfield 36, 3) := by decide +kernel
theorem dX10_merge_34 : decode cX10_merge 34 = .ok (.iload_n 2, 1) := by decide +kernel
theorem dX10_merge_35 : decode cX10_merge 35 = .ok (.baload, 1) := by decide +kernel
theorem dX10_merge_36 : decode cX10_merge 36 = .ok (.ifCond .ne 6, 3) := by decide +kernel
theorem dX10_merge_39 : decode cX10_merge 39 = .ok (.bipush (-4), 2) := by decide +kernel
theorem dX10_merge_41 : decode cX10_merge 41 = .ok (.ireturn, 1) := by decide +kernel
theorem dX10_merge_42 : decode cX10_merge 42 = .ok (.aload_n 0, 1) := by decide +kernel
theorem dX10_merge_43 : decode cX10_merge 43 = .ok (.getfield 39, 3) := by decide +kernel
theorem dX10_merge_46 : decode cX10_merge 46 = .ok (.iload_n 2, 1) := by decide +kernel
theorem dX10_merge_47 : decode cX10_merge 47 = .ok (.baload, 1) := by decide +kernel
theorem dX10_merge_48 : decode cX10_merge 48 = .ok (.ifCond .eq 18, 3) := by decide +kernel
theorem dX10_merge_51 : decode cX10_merge 51 = .ok (.aload_n 0, 1) := by decide +kernel
theorem dX10_merge_52 : decode cX10_merge 52 = .ok (.iload_n 1, 1) := by decide +kernel
theorem dX10_merge_53 : decode cX10_merge 53 = .ok (.iload_n 2, 1) := by decide +kernel
theorem dX10_merge_54 : decode cX10_merge 54 = .ok (.sipush 1204, 3) := by decide +kernel
theorem dX10_merge_57 : decode cX10_merge 57 = .ok (.invokestatic 239, 3) := by decide +kernel
theorem dX10_merge_60 : decode cX10_merge 60 = .ok (.invokevirtual 254, 3) := by decide +kernel
theorem dX10_merge_63 : decode cX10_merge 63 = .ok (.goto 8, 3) := by decide +kernel
theorem dX10_merge_66 : decode cX10_merge 66 = .ok (.aload_n 0, 1) := by decide +kernel
theorem dX10_merge_67 : decode cX10_merge 67 = .ok (.iload_n 1, 1) := by decide +kernel
theorem dX10_merge_68 : decode cX10_merge 68 = .ok (.invokevirtual 248, 3) := by decide +kernel
theorem dX10_merge_71 : decode cX10_merge 71 = .ok (.ireturn, 1) := by decide +kernel
set_option maxRecDepth 20000 in
theorem ggX10_layResult_X10_part : GoodIn wsX10_layResult wsX10_part := goodIn_r _ [6] (by decide +kernel) (by decide +kernel)
set_option maxRecDepth 20000 in
theorem gX10_layResult_X10_part : GoodIn wsX10_layResult (va_wsS RX10 239 yX10_part wsX10_part) := goodIn_app (goodIn_of _ (by decide +kernel)) ggX10_layResult_X10_part
set_option maxRecDepth 20000 in
theorem ggX10_layResult_X10_copyText : GoodIn wsX10_layResult wsX10_copyText := goodIn_r _ [10, 2, 15, 16, 17, 18, 19, 20, 21, 22, 23, 24, 25, 26, 27, 28, 29, 30, 31, 32, 33, 34, 35] (by decide +kernel) (by decide +kernel)
set_option maxRecDepth 20000 in
theorem gX10_layResult_X10_copyText : GoodIn wsX10_layResult (wsV RX10 70 RX10 yX10_copyText wsX10_copyText) := goodIn_app (goodIn_of _ (by decide +kernel)) ggX10_layResult_X10_copyText
set_option maxRecDepth 20000 in
theorem ggX10_layResult_X10_addText : GoodIn wsX10_layResult wsX10_addText := goodIn_r _ [14, 2, 15, 16, 17, 18, 19, 20, 21, 22, 23, 24, 25, 26, 27, 28, 29, 30, 31, 32, 33, 34, 35] (by decide +kernel) (by decide +kernel)
set_option maxRecDepth 20000 in
theorem gX10_layResult_X10_addText : GoodIn wsX10_layResult (wsV RX10 251 RX10 yX10_addText wsX10_addText) := goodIn_app (goodIn_of _ (by decide +kernel)) ggX10_layResult_X10_addText
theorem dX10_layResult_0 : decode cX10_layResult 0 = .ok (.aload_n 0, 1) := by decide +kernel
theorem dX10_layResult_1 : decode cX10_layResult 1 = .ok (.getfield 39, 3) := by decide +kernel
theorem dX10_layResult_4 : decode cX10_layResult 4 = .ok (.iload_n 1, 1) := by decide +kernel
theorem dX10_layResult_5 : decode cX10_layResult 5 = .ok (.baload, 1) := by decide +kernel
theorem dX10_layResult_6 : decode cX10_layResult 6 = .ok (.ifCond .ne 33, 3) := by decide +kernel
theorem dX10_layResult_9 : decode cX10_layResult 9 = .ok (.aload_n 0, 1) := by decide +kernel
theorem dX10_layResult_10 : decode cX10_layResult 10 = .ok (.getfield 8, 3) := by decide +kernel
theorem dX10_layResult_13 : decode cX10_layResult 13 = .ok (.iload_n 1, 1) := by decide +kernel
theorem dX10_layResult_14 : decode cX10_layResult 14 = .ok (.sipush 903, 3) := by decide +kernel
theorem dX10_layResult_17 : decode cX10_layResult 17 = .ok (.invokestatic 239, 3) := by decide +kernel
theorem dX10_layResult_20 : decode cX10_layResult 20 = .ok (.iaload, 1) := by decide +kernel
theorem dX10_layResult_21 : decode cX10_layResult 21 = .ok (.ifCond .lt 18, 3) := by decide +kernel
theorem dX10_layResult_24 : decode cX10_layResult 24 = .ok (.aload_n 0, 1) := by decide +kernel
theorem dX10_layResult_25 : decode cX10_layResult 25 = .ok (.iload_n 1, 1) := by decide +kernel
theorem dX10_layResult_26 : decode cX10_layResult 26 = .ok (.sipush 903, 3) := by decide +kernel
theorem dX10_layResult_29 : decode cX10_layResult 29 = .ok (.invokestatic 239, 3) := by decide +kernel
theorem dX10_layResult_32 : decode cX10_layResult 32 = .ok (.iload_n 2, 1) := by decide +kernel
theorem dX10_layResult_33 : decode cX10_layResult 33 = .ok (.invokevirtual 70, 3) := by decide +kernel
theorem dX10_layResult_36 : decode cX10_layResult 36 = .ok (.goto 39, 3) := by decide +kernel
theorem dX10_layResult_39 : decode cX10_layResult 39 = .ok (.aload_n 0, 1) := by decide +kernel
theorem dX10_layResult_40 : decode cX10_layResult 40 = .ok (.iload_n 1, 1) := by decide +kernel
theorem dX10_layResult_41 : decode cX10_layResult 41 = .ok (.sipush 301, 3) := by decide +kernel
theorem dX10_layResult_44 : decode cX10_layResult 44 = .ok (.invokestatic 239, 3) := by decide +kernel
theorem dX10_layResult_47 : decode cX10_layResult 47 = .ok (.iload_n 2, 1) := by decide +kernel
theorem dX10_layResult_48 : decode cX10_layResult 48 = .ok (.invokevirtual 70, 3) := by decide +kernel
theorem dX10_layResult_51 : decode cX10_layResult 51 = .ok (.aload_n 0, 1) := by decide +kernel
theorem dX10_layResult_52 : decode cX10_layResult 52 = .ok (.iload_n 1, 1) := by decide +kernel
theorem dX10_layResult_53 : decode cX10_layResult 53 = .ok (.sipush 1204, 3) := by decide +kernel
theorem dX10_layResult_56 : decode cX10_layResult 56 = .ok (.invokestatic 239, 3) := by decide +kernel
theorem dX10_layResult_59 : decode cX10_layResult 59 = .ok (.iload_n 2, 1) := by decide +kernel
theorem dX10_layResult_60 : decode cX10_layResult 60 = .ok (.invokevirtual 251, 3) := by decide +kernel
theorem dX10_layResult_63 : decode cX10_layResult 63 = .ok (.aload_n 0, 1) := by decide +kernel
theorem dX10_layResult_64 : decode cX10_layResult 64 = .ok (.iload_n 1, 1) := by decide +kernel
theorem dX10_layResult_65 : decode cX10_layResult 65 = .ok (.sipush 602, 3) := by decide +kernel
theorem dX10_layResult_68 : decode cX10_layResult 68 = .ok (.invokestatic 239, 3) := by decide +kernel
theorem dX10_layResult_71 : decode cX10_layResult 71 = .ok (.iload_n 2, 1) := by decide +kernel
theorem dX10_layResult_72 : decode cX10_layResult 72 = .ok (.invokevirtual 251, 3) := by decide +kernel
theorem dX10_layResult_75 : decode cX10_layResult 75 = .ok (.return_, 1) := by decide +kernel
set_option maxRecDepth 20000 in
theorem ggX10_joined_X10_isJoiner : GoodIn wsX10_joined wsX10_isJoiner := goodIn_r _ [6] (by decide +kernel) (by decide +kernel)
set_option maxRecDepth 20000 in
theorem gX10_joined_X10_isJoiner : GoodIn wsX10_joined (va_wsS RX10 242 yX10_isJoiner wsX10_isJoiner) := goodIn_app (goodIn_of _ (by decide +kernel)) ggX10_joined_X10_isJoiner
set_option maxRecDepth 20000 in
theorem ggX10_joined_X10_isSlot : GoodIn wsX10_joined wsX10_isSlot := goodIn_r _ [9] (by decide +kernel) (by decide +kernel)
set_option maxRecDepth 20000 in
theorem gX10_joined_X10_isSlot : GoodIn wsX10_joined (va_wsS RX10 59 yX10_isSlot wsX10_isSlot) := goodIn_app (goodIn_of _ (by decide +kernel)) ggX10_joined_X10_isSlot
set_option maxRecDepth 20000 in
theorem ggX10_joined_X10_at : GoodIn wsX10_joined wsX10_at := goodIn_r _ [12] (by decide +kernel) (by decide +kernel)
set_option maxRecDepth 20000 in
theorem gX10_joined_X10_at : GoodIn wsX10_joined (va_wsS RX10 51 yX10_at wsX10_at) := goodIn_app (goodIn_of _ (by decide +kernel)) ggX10_joined_X10_at
set_option maxRecDepth 20000 in
theorem ggX10_joined_X10_layResult : GoodIn wsX10_joined wsX10_layResult := goodIn_r _ [16, 17, 2, 18, 19, 5, 20, 21, 22, 23, 24, 25, 26, 27, 28, 29, 30, 31, 32, 33, 34, 35, 36, 37, 38, 39, 40, 41, 42, 43, 44, 45, 46, 47, 48, 49] (by decide +kernel) (by decide +kernel)
set_option maxRecDepth 20000 in
theorem gX10_joined_X10_layResult : GoodIn wsX10_joined (wsV RX10 257 RX10 yX10_layResult wsX10_layResult) := goodIn_app (goodIn_of _ (by decide +kernel)) ggX10_joined_X10_layResult
theorem dX10_joined_0 : decode cX10_joined 0 = .ok (.iload_n 1, 1) := by decide +kernel
theorem dX10_joined_1 : decode cX10_joined 1 = .ok (.invokestatic 242, 3) := by decide +kernel
theorem dX10_joined_4 : decode cX10_joined 4 = .ok (.ifCond .eq 10, 3) := by decide +kernel
theorem dX10_joined_7 : decode cX10_joined 7 = .ok (.iload_n 2, 1) := by decide +kernel
theorem dX10_joined_8 : decode cX10_joined 8 = .ok (.invokestatic 59, 3) := by decide +kernel
theorem dX10_joined_11 : decode cX10_joined 11 = .ok (.ifCond .ne 5, 3) := by decide +kernel
theorem dX10_joined_14 : decode cX10_joined 14 = .ok (.iconst (-1), 1) := by decide +kernel
theorem dX10_joined_15 : decode cX10_joined 15 = .ok (.ireturn, 1) := by decide +kernel
theorem dX10_joined_16 : decode cX10_joined 16 = .ok (.aload_n 0, 1) := by decide +kernel
theorem dX10_joined_17 : decode cX10_joined 17 = .ok (.getfield 36, 3) := by decide +kernel
theorem dX10_joined_20 : decode cX10_joined 20 = .ok (.iload_n 1, 1) := by decide +kernel
theorem dX10_joined_21 : decode cX10_joined 21 = .ok (.baload, 1) := by decide +kernel
theorem dX10_joined_22 : decode cX10_joined 22 = .ok (.ifCond .ne 6, 3) := by decide +kernel
theorem dX10_joined_25 : decode cX10_joined 25 = .ok (.bipush (-4), 2) := by decide +kernel
theorem dX10_joined_27 : decode cX10_joined 27 = .ok (.ireturn, 1) := by decide +kernel
theorem dX10_joined_28 : decode cX10_joined 28 = .ok (.aload_n 0, 1) := by decide +kernel
theorem dX10_joined_29 : decode cX10_joined 29 = .ok (.iload_n 1, 1) := by decide +kernel
theorem dX10_joined_30 : decode cX10_joined 30 = .ok (.iload_n 2, 1) := by decide +kernel
theorem dX10_joined_31 : decode cX10_joined 31 = .ok (.invokestatic 51, 3) := by decide +kernel
theorem dX10_joined_34 : decode cX10_joined 34 = .ok (.invokevirtual 257, 3) := by decide +kernel
theorem dX10_joined_37 : decode cX10_joined 37 = .ok (.aload_n 0, 1) := by decide +kernel
theorem dX10_joined_38 : decode cX10_joined 38 = .ok (.getfield 8, 3) := by decide +kernel
theorem dX10_joined_41 : decode cX10_joined 41 = .ok (.iload_n 2, 1) := by decide +kernel
theorem dX10_joined_42 : decode cX10_joined 42 = .ok (.invokestatic 51, 3) := by decide +kernel
theorem dX10_joined_45 : decode cX10_joined 45 = .ok (.iaload, 1) := by decide +kernel
theorem dX10_joined_46 : decode cX10_joined 46 = .ok (.ireturn, 1) := by decide +kernel
set_option maxRecDepth 20000 in
theorem ggX10_joinedLength_X10_isJoiner : GoodIn wsX10_joinedLength wsX10_isJoiner := goodIn_r _ [5] (by decide +kernel) (by decide +kernel)
set_option maxRecDepth 20000 in
theorem gX10_joinedLength_X10_isJoiner : GoodIn wsX10_joinedLength (va_wsS RX10 242 yX10_isJoiner wsX10_isJoiner) := goodIn_app (goodIn_of _ (by decide +kernel)) ggX10_joinedLength_X10_isJoiner
set_option maxRecDepth 20000 in
theorem ggX10_joinedLength_X10_resultSize : GoodIn wsX10_joinedLength wsX10_resultSize := goodIn_r _ [9, 10, 11, 12, 13, 4, 14, 15, 16, 17, 18, 19, 20, 21, 22, 23, 24, 25, 26, 27, 28, 29, 30, 31, 32, 33, 34, 35] (by decide +kernel) (by decide +kernel)
set_option maxRecDepth 20000 in
theorem gX10_joinedLength_X10_resultSize : GoodIn wsX10_joinedLength (wsV RX10 248 RX10 yX10_resultSize wsX10_resultSize) := goodIn_app (goodIn_of _ (by decide +kernel)) ggX10_joinedLength_X10_resultSize
theorem dX10_joinedLength_0 : decode cX10_joinedLength 0 = .ok (.iload_n 1, 1) := by decide +kernel
theorem dX10_joinedLength_1 : decode cX10_joinedLength 1 = .ok (.invokestatic 242, 3) := by decide +kernel
theorem dX10_joinedLength_4 : decode cX10_joinedLength 4 = .ok (.ifCond .ne 7, 3) := by decide +kernel
theorem dX10_joinedLength_7 : decode cX10_joinedLength 7 = .ok (.iconst (-1), 1) := by decide +kernel
theorem dX10_joinedLength_8 : decode cX10_joinedLength 8 = .ok (.goto 22, 3) := by decide +kernel
theorem dX10_joinedLength_11 : decode cX10_joinedLength 11 = .ok (.aload_n 0, 1) := by decide +kernel
theorem dX10_joinedLength_12 : decode cX10_joinedLength 12 = .ok (.getfield 36, 3) := by decide +kernel
theorem dX10_joinedLength_15 : decode cX10_joinedLength 15 = .ok (.iload_n 1, 1) := by decide +kernel
theorem dX10_joinedLength_16 : decode cX10_joinedLength 16 = .ok (.baload, 1) := by decide +kernel
theorem dX10_joinedLength_17 : decode cX10_joinedLength 17 = .ok (.ifCond .eq 11, 3) := by decide +kernel
theorem dX10_joinedLength_20 : decode cX10_joinedLength 20 = .ok (.aload_n 0, 1) := by decide +kernel
theorem dX10_joinedLength_21 : decode cX10_joinedLength 21 = .ok (.iload_n 1, 1) := by decide +kernel
theorem dX10_joinedLength_22 : decode cX10_joinedLength 22 = .ok (.invokevirtual 248, 3) := by decide +kernel
theorem dX10_joinedLength_25 : decode cX10_joinedLength 25 = .ok (.goto 5, 3) := by decide +kernel
theorem dX10_joinedLength_28 : decode cX10_joinedLength 28 = .ok (.bipush (-4), 2) := by decide +kernel
theorem dX10_joinedLength_30 : decode cX10_joinedLength 30 = .ok (.ireturn, 1) := by decide +kernel
set_option maxRecDepth 20000 in
theorem ggX10_setJoined_X10_isLayer : GoodIn wsX10_setJoined wsX10_isLayer := goodIn_r _ [6] (by decide +kernel) (by decide +kernel)
set_option maxRecDepth 20000 in
theorem gX10_setJoined_X10_isLayer : GoodIn wsX10_setJoined (va_wsS RX10 151 yX10_isLayer wsX10_isLayer) := goodIn_app (goodIn_of _ (by decide +kernel)) ggX10_setJoined_X10_isLayer
set_option maxRecDepth 20000 in
theorem ggX10_setJoined_X10_isSlot : GoodIn wsX10_setJoined wsX10_isSlot := goodIn_r _ [9] (by decide +kernel) (by decide +kernel)
set_option maxRecDepth 20000 in
theorem gX10_setJoined_X10_isSlot : GoodIn wsX10_setJoined (va_wsS RX10 59 yX10_isSlot wsX10_isSlot) := goodIn_app (goodIn_of _ (by decide +kernel)) ggX10_setJoined_X10_isSlot
set_option maxRecDepth 20000 in
theorem ggX10_setJoined_X10_isJoiner : GoodIn wsX10_setJoined wsX10_isJoiner := goodIn_r _ [12] (by decide +kernel) (by decide +kernel)
set_option maxRecDepth 20000 in
theorem gX10_setJoined_X10_isJoiner : GoodIn wsX10_setJoined (va_wsS RX10 242 yX10_isJoiner wsX10_isJoiner) := goodIn_app (goodIn_of _ (by decide +kernel)) ggX10_setJoined_X10_isJoiner
set_option maxRecDepth 20000 in
theorem ggX10_setJoined_X10_hasNothing : GoodIn wsX10_setJoined wsX10_hasNothing := goodIn_r _ [16, 17, 18, 19, 5, 20, 68, 69, 70, 71, 72, 73, 74, 75, 76, 77, 78, 79, 80, 81, 82, 83, 84, 85, 86, 87, 88] (by decide +kernel) (by decide +kernel)
set_option maxRecDepth 20000 in
theorem gX10_setJoined_X10_hasNothing : GoodIn wsX10_setJoined (wsV RX10 63 RX10 yX10_hasNothing wsX10_hasNothing) := goodIn_app (goodIn_of _ (by decide +kernel)) ggX10_setJoined_X10_hasNothing
set_option maxRecDepth 20000 in
theorem ggX10_setJoined_X10_refusedNull : GoodIn wsX10_setJoined wsX10_refusedNull := goodIn_r _ [24, 25, 68, 69, 70, 71, 72, 73, 74, 75, 76, 77, 78, 79, 80, 81, 82, 83, 84, 85, 86, 87, 88] (by decide +kernel) (by decide +kernel)
set_option maxRecDepth 20000 in
theorem gX10_setJoined_X10_refusedNull : GoodIn wsX10_setJoined (wsV RX10 176 RX10 yX10_refusedNull wsX10_refusedNull) := goodIn_app (goodIn_of _ (by decide +kernel)) ggX10_setJoined_X10_refusedNull
set_option maxRecDepth 20000 in
theorem ggX10_setJoined_X10_layResult : GoodIn wsX10_setJoined wsX10_layResult := goodIn_r _ [29, 30, 17, 31, 32, 5, 33, 34, 35, 36, 37, 38, 39, 40, 41, 68, 69, 70, 71, 72, 73, 74, 75, 76, 77, 78, 79, 80, 81, 82, 83, 84, 85, 86, 87, 88] (by decide +kernel) (by decide +kernel)
set_option maxRecDepth 20000 in
theorem gX10_setJoined_X10_layResult : GoodIn wsX10_setJoined (wsV RX10 257 RX10 yX10_layResult wsX10_layResult) := goodIn_app (goodIn_of _ (by decide +kernel)) ggX10_setJoined_X10_layResult
set_option maxRecDepth 20000 in
theorem ggX10_setJoined_X10_at : GoodIn wsX10_setJoined wsX10_at := goodIn_r _ [20] (by decide +kernel) (by decide +kernel)
set_option maxRecDepth 20000 in
theorem gX10_setJoined_X10_at : GoodIn wsX10_setJoined (va_wsS RX10 51 yX10_at wsX10_at) := goodIn_app (goodIn_of _ (by decide +kernel)) ggX10_setJoined_X10_at
set_option maxRecDepth 20000 in
theorem ggX10_setJoined_X10_put : GoodIn wsX10_setJoined wsX10_put := goodIn_r _ [45, 2, 46, 47, 48, 5, 49, 50, 51, 52, 53, 54, 55, 56, 17, 57, 58, 59, 60, 61, 62, 63, 64, 34, 35, 36, 37, 65, 66, 67, 68, 69, 70, 71, 72, 73, 74, 75, 76, 77, 78, 79, 80, 81, 82, 83, 84, 85, 86, 87, 88] (by decide +kernel) (by decide +kernel)
set_option maxRecDepth 20000 in
theorem gX10_setJoined_X10_put : GoodIn wsX10_setJoined (wsV RX10 157 RX10 yX10_put wsX10_put) := goodIn_app (goodIn_of _ (by decide +kernel)) ggX10_setJoined_X10_put
theorem dX10_setJoined_0 : decode cX10_setJoined 0 = .ok (.iload_n 1, 1) := by decide +kernel
theorem dX10_setJoined_1 : decode cX10_setJoined 1 = .ok (.invokestatic 151, 3) := by decide +kernel
theorem dX10_setJoined_4 : decode cX10_setJoined 4 = .ok (.ifCond .eq 17, 3) := by decide +kernel
theorem dX10_setJoined_7 : decode cX10_setJoined 7 = .ok (.iload_n 2, 1) := by decide +kernel
theorem dX10_setJoined_8 : decode cX10_setJoined 8 = .ok (.invokestatic 59, 3) := by decide +kernel
theorem dX10_setJoined_11 : decode cX10_setJoined 11 = .ok (.ifCond .eq 10, 3) := by decide +kernel
theorem dX10_setJoined_14 : decode cX10_setJoined 14 = .ok (.iload_n 3, 1) := by decide +kernel
theorem dX10_setJoined_15 : decode cX10_setJoined 15 = .ok (.invokestatic 242, 3) := by decide +kernel
theorem dX10_setJoined_18 : decode cX10_setJoined 18 = .ok (.ifCond .ne 5, 3) := by decide +kernel
theorem dX10_setJoined_21 : decode cX10_setJoined 21 = .ok (.iconst (-1), 1) := by decide +kernel
theorem dX10_setJoined_22 : decode cX10_setJoined 22 = .ok (.ireturn, 1) := by decide +kernel
theorem dX10_setJoined_23 : decode cX10_setJoined 23 = .ok (.aload_n 0, 1) := by decide +kernel
theorem dX10_setJoined_24 : decode cX10_setJoined 24 = .ok (.getfield 36, 3) := by decide +kernel
theorem dX10_setJoined_27 : decode cX10_setJoined 27 = .ok (.iload_n 3, 1) := by decide +kernel
theorem dX10_setJoined_28 : decode cX10_setJoined 28 = .ok (.baload, 1) := by decide +kernel
theorem dX10_setJoined_29 : decode cX10_setJoined 29 = .ok (.ifCond .ne 6, 3) := by decide +kernel
theorem dX10_setJoined_32 : decode cX10_setJoined 32 = .ok (.bipush (-4), 2) := by decide +kernel
theorem dX10_setJoined_34 : decode cX10_setJoined 34 = .ok (.ireturn, 1) := by decide +kernel
theorem dX10_setJoined_35 : decode cX10_setJoined 35 = .ok (.aload_n 0, 1) := by decide +kernel
theorem dX10_setJoined_36 : decode cX10_setJoined 36 = .ok (.iload_n 2, 1) := by decide +kernel
theorem dX10_setJoined_37 : decode cX10_setJoined 37 = .ok (.invokevirtual 63, 3) := by decide +kernel
theorem dX10_setJoined_40 : decode cX10_setJoined 40 = .ok (.ifCond .eq 8, 3) := by decide +kernel
theorem dX10_setJoined_43 : decode cX10_setJoined 43 = .ok (.aload_n 0, 1) := by decide +kernel
theorem dX10_setJoined_44 : decode cX10_setJoined 44 = .ok (.invokevirtual 176, 3) := by decide +kernel
theorem dX10_setJoined_47 : decode cX10_setJoined 47 = .ok (.ireturn, 1) := by decide +kernel
theorem dX10_setJoined_48 : decode cX10_setJoined 48 = .ok (.aload_n 0, 1) := by decide +kernel
theorem dX10_setJoined_49 : decode cX10_setJoined 49 = .ok (.iload_n 3, 1) := by decide +kernel
theorem dX10_setJoined_50 : decode cX10_setJoined 50 = .ok (.sipush 2107, 3) := by decide +kernel
theorem dX10_setJoined_53 : decode cX10_setJoined 53 = .ok (.invokevirtual 257, 3) := by decide +kernel
theorem dX10_setJoined_56 : decode cX10_setJoined 56 = .ok (.aload_n 0, 1) := by decide +kernel
theorem dX10_setJoined_57 : decode cX10_setJoined 57 = .ok (.iload_n 1, 1) := by decide +kernel
theorem dX10_setJoined_58 : decode cX10_setJoined 58 = .ok (.iload_n 2, 1) := by decide +kernel
theorem dX10_setJoined_59 : decode cX10_setJoined 59 = .ok (.invokestatic 51, 3) := by decide +kernel
theorem dX10_setJoined_62 : decode cX10_setJoined 62 = .ok (.sipush 2107, 3) := by decide +kernel
theorem dX10_setJoined_65 : decode cX10_setJoined 65 = .ok (.invokevirtual 157, 3) := by decide +kernel
theorem dX10_setJoined_68 : decode cX10_setJoined 68 = .ok (.ifCond .eq 12, 3) := by decide +kernel
theorem dX10_setJoined_71 : decode cX10_setJoined 71 = .ok (.aload_n 0, 1) := by decide +kernel
theorem dX10_setJoined_72 : decode cX10_setJoined 72 = .ok (.getfield 14, 3) := by decide +kernel
theorem dX10_setJoined_75 : decode cX10_setJoined 75 = .ok (.iload_n 1, 1) := by decide +kernel
theorem dX10_setJoined_76 : decode cX10_setJoined 76 = .ok (.iaload, 1) := by decide +kernel
theorem dX10_setJoined_77 : decode cX10_setJoined 77 = .ok (.goto 5, 3) := by decide +kernel
theorem dX10_setJoined_80 : decode cX10_setJoined 80 = .ok (.bipush (-3), 2) := by decide +kernel
theorem dX10_setJoined_82 : decode cX10_setJoined 82 = .ok (.ireturn, 1) := by decide +kernel
theorem dX10_all_0 : decode cX10_all 0 = .ok (.aload_n 0, 1) := by decide +kernel
theorem dX10_all_1 : decode cX10_all 1 = .ok (.getfield 14, 3) := by decide +kernel
theorem dX10_all_4 : decode cX10_all 4 = .ok (.iconst 0, 1) := by decide +kernel
theorem dX10_all_5 : decode cX10_all 5 = .ok (.iaload, 1) := by decide +kernel
theorem dX10_all_6 : decode cX10_all 6 = .ok (.aload_n 0, 1) := by decide +kernel
theorem dX10_all_7 : decode cX10_all 7 = .ok (.getfield 14, 3) := by decide +kernel
theorem dX10_all_10 : decode cX10_all 10 = .ok (.iconst 1, 1) := by decide +kernel
theorem dX10_all_11 : decode cX10_all 11 = .ok (.iaload, 1) := by decide +kernel
theorem dX10_all_12 : decode cX10_all 12 = .ok (.iadd, 1) := by decide +kernel
theorem dX10_all_13 : decode cX10_all 13 = .ok (.aload_n 0, 1) := by decide +kernel
theorem dX10_all_14 : decode cX10_all 14 = .ok (.getfield 14, 3) := by decide +kernel
theorem dX10_all_17 : decode cX10_all 17 = .ok (.iconst 2, 1) := by decide +kernel
theorem dX10_all_18 : decode cX10_all 18 = .ok (.iaload, 1) := by decide +kernel
theorem dX10_all_19 : decode cX10_all 19 = .ok (.iadd, 1) := by decide +kernel
theorem dX10_all_20 : decode cX10_all 20 = .ok (.aload_n 0, 1) := by decide +kernel
theorem dX10_all_21 : decode cX10_all 21 = .ok (.getfield 14, 3) := by decide +kernel
theorem dX10_all_24 : decode cX10_all 24 = .ok (.iconst 3, 1) := by decide +kernel
theorem dX10_all_25 : decode cX10_all 25 = .ok (.iaload, 1) := by decide +kernel
theorem dX10_all_26 : decode cX10_all 26 = .ok (.iadd, 1) := by decide +kernel
theorem dX10_all_27 : decode cX10_all 27 = .ok (.ireturn, 1) := by decide +kernel
set_option maxRecDepth 20000 in
theorem ggX10_keep_X10_copyLayer : GoodIn wsX10_keep wsX10_copyLayer := goodIn_r _ [6, 7, 8, 9, 5, 10, 11, 12, 13, 14, 15, 16, 17, 18, 23, 24, 25, 26, 27, 28, 29, 30, 31, 32, 33, 34, 35, 36, 37, 38, 39, 40, 41, 42, 43] (by decide +kernel) (by decide +kernel)
set_option maxRecDepth 20000 in
theorem gX10_keep_X10_copyLayer : GoodIn wsX10_keep (wsV RX10 154 RX10 yX10_copyLayer wsX10_copyLayer) := goodIn_app (goodIn_of _ (by decide +kernel)) ggX10_keep_X10_copyLayer
set_option maxRecDepth 20000 in
theorem ggX10_keep_X10_all : GoodIn wsX10_keep wsX10_all := goodIn_r _ [22, 7, 23, 24, 25, 26, 27, 28, 29, 30, 31, 32, 33, 34, 35, 36, 37, 38, 39, 40, 41, 42, 43] (by decide +kernel) (by decide +kernel)
set_option maxRecDepth 20000 in
theorem gX10_keep_X10_all : GoodIn wsX10_keep (wsV RX10 260 RX10 yX10_all wsX10_all) := goodIn_app (goodIn_of _ (by decide +kernel)) ggX10_keep_X10_all
theorem dX10_keep_0 : decode cX10_keep 0 = .ok (.iload_n 1, 1) := by decide +kernel
theorem dX10_keep_1 : decode cX10_keep 1 = .ok (.ifCond .lt 8, 3) := by decide +kernel
theorem dX10_keep_4 : decode cX10_keep 4 = .ok (.iload_n 1, 1) := by decide +kernel
theorem dX10_keep_5 : decode cX10_keep 5 = .ok (.iconst 1, 1) := by decide +kernel
theorem dX10_keep_6 : decode cX10_keep 6 = .ok (.if_icmp .le 5, 3) := by decide +kernel
theorem dX10_keep_9 : decode cX10_keep 9 = .ok (.iconst (-1), 1) := by decide +kernel
theorem dX10_keep_10 : decode cX10_keep 10 = .ok (.ireturn, 1) := by decide +kernel
theorem dX10_keep_11 : decode cX10_keep 11 = .ok (.iconst 0, 1) := by decide +kernel
theorem dX10_keep_12 : decode cX10_keep 12 = .ok (.istore_n 2, 1) := by decide +kernel
theorem dX10_keep_13 : decode cX10_keep 13 = .ok (.iload_n 2, 1) := by decide +kernel
theorem dX10_keep_14 : decode cX10_keep 14 = .ok (.iconst 4, 1) := by decide +kernel
theorem dX10_keep_15 : decode cX10_keep 15 = .ok (.if_icmp .ge 21, 3) := by decide +kernel
theorem dX10_keep_18 : decode cX10_keep 18 = .ok (.aload_n 0, 1) := by decide +kernel
theorem dX10_keep_19 : decode cX10_keep 19 = .ok (.iload_n 2, 1) := by decide +kernel
theorem dX10_keep_20 : decode cX10_keep 20 = .ok (.iconst 4, 1) := by decide +kernel
theorem dX10_keep_21 : decode cX10_keep 21 = .ok (.iload_n 1, 1) := by decide +kernel
theorem dX10_keep_22 : decode cX10_keep 22 = .ok (.iconst 1, 1) := by decide +kernel
theorem dX10_keep_23 : decode cX10_keep 23 = .ok (.iadd, 1) := by decide +kernel
theorem dX10_keep_24 : decode cX10_keep 24 = .ok (.imul, 1) := by decide +kernel
theorem dX10_keep_25 : decode cX10_keep 25 = .ok (.iload_n 2, 1) := by decide +kernel
theorem dX10_keep_26 : decode cX10_keep 26 = .ok (.iadd, 1) := by decide +kernel
theorem dX10_keep_27 : decode cX10_keep 27 = .ok (.invokevirtual 154, 3) := by decide +kernel
theorem dX10_keep_30 : decode cX10_keep 30 = .ok (.iinc 2 1, 3) := by decide +kernel
theorem dX10_keep_33 : decode cX10_keep 33 = .ok (.goto (-20), 3) := by decide +kernel
theorem dX10_keep_36 : decode cX10_keep 36 = .ok (.aload_n 0, 1) := by decide +kernel
theorem dX10_keep_37 : decode cX10_keep 37 = .ok (.getfield 17, 3) := by decide +kernel
theorem dX10_keep_40 : decode cX10_keep 40 = .ok (.iload_n 1, 1) := by decide +kernel
theorem dX10_keep_41 : decode cX10_keep 41 = .ok (.iconst 1, 1) := by decide +kernel
theorem dX10_keep_42 : decode cX10_keep 42 = .ok (.bastore, 1) := by decide +kernel
theorem dX10_keep_43 : decode cX10_keep 43 = .ok (.aload_n 0, 1) := by decide +kernel
theorem dX10_keep_44 : decode cX10_keep 44 = .ok (.invokevirtual 260, 3) := by decide +kernel
theorem dX10_keep_47 : decode cX10_keep 47 = .ok (.ireturn, 1) := by decide +kernel
set_option maxRecDepth 20000 in
theorem ggX10_restore_X10_copyLayer : GoodIn wsX10_restore wsX10_copyLayer := goodIn_r _ [6, 7, 8, 9, 5, 10, 11, 12, 13, 14, 15, 16, 17, 18, 23, 24, 25, 26, 27, 28, 29, 30, 31, 32, 33, 34, 35, 36, 37, 38, 39, 40, 41, 42, 43] (by decide +kernel) (by decide +kernel)
set_option maxRecDepth 20000 in
theorem gX10_restore_X10_copyLayer : GoodIn wsX10_restore (wsV RX10 154 RX10 yX10_copyLayer wsX10_copyLayer) := goodIn_app (goodIn_of _ (by decide +kernel)) ggX10_restore_X10_copyLayer
set_option maxRecDepth 20000 in
theorem ggX10_restore_X10_all : GoodIn wsX10_restore wsX10_all := goodIn_r _ [22, 7, 23, 24, 25, 26, 27, 28, 29, 30, 31, 32, 33, 34, 35, 36, 37, 38, 39, 40, 41, 42, 43] (by decide +kernel) (by decide +kernel)
set_option maxRecDepth 20000 in
theorem gX10_restore_X10_all : GoodIn wsX10_restore (wsV RX10 260 RX10 yX10_all wsX10_all) := goodIn_app (goodIn_of _ (by decide +kernel)) ggX10_restore_X10_all
theorem dX10_restore_0 : decode cX10_restore 0 = .ok (.iload_n 1, 1) := by decide +kernel
theorem dX10_restore_1 : decode cX10_restore 1 = .ok (.ifCond .lt 8, 3) := by decide +kernel
theorem dX10_restore_4 : decode cX10_restore 4 = .ok (.iload_n 1, 1) := by decide +kernel
theorem dX10_restore_5 : decode cX10_restore 5 = .ok (.iconst 1, 1) := by decide +kernel
theorem dX10_restore_6 : decode cX10_restore 6 = .ok (.if_icmp .le 5, 3) := by decide +kernel
theorem dX10_restore_9 : decode cX10_restore 9 = .ok (.iconst (-1), 1) := by decide +kernel
theorem dX10_restore_10 : decode cX10_restore 10 = .ok (.ireturn, 1) := by decide +kernel
theorem dX10_restore_11 : decode cX10_restore 11 = .ok (.aload_n 0, 1) := by decide +kernel
theorem dX10_restore_12 : decode cX10_restore 12 = .ok (.getfield 17, 3) := by decide +kernel
theorem dX10_restore_15 : decode cX10_restore 15 = .ok (.iload_n 1, 1) := by decide +kernel
theorem dX10_restore_16 : decode cX10_restore 16 = .ok (.baload, 1) := by decide +kernel
theorem dX10_restore_17 : decode cX10_restore 17 = .ok (.ifCond .ne 6, 3) := by decide +kernel
theorem dX10_restore_20 : decode cX10_restore 20 = .ok (.bipush (-4), 2) := by decide +kernel
theorem dX10_restore_22 : decode cX10_restore 22 = .ok (.ireturn, 1) := by decide +kernel
theorem dX10_restore_23 : decode cX10_restore 23 = .ok (.iconst 0, 1) := by decide +kernel
theorem dX10_restore_24 : decode cX10_restore 24 = .ok (.istore_n 2, 1) := by decide +kernel
theorem dX10_restore_25 : decode cX10_restore 25 = .ok (.iload_n 2, 1) := by decide +kernel
theorem dX10_restore_26 : decode cX10_restore 26 = .ok (.iconst 4, 1) := by decide +kernel
theorem dX10_restore_27 : decode cX10_restore 27 = .ok (.if_icmp .ge 21, 3) := by decide +kernel
theorem dX10_restore_30 : decode cX10_restore 30 = .ok (.aload_n 0, 1) := by decide +kernel
theorem dX10_restore_31 : decode cX10_restore 31 = .ok (.iconst 4, 1) := by decide +kernel
theorem dX10_restore_32 : decode cX10_restore 32 = .ok (.iload_n 1, 1) := by decide +kernel
theorem dX10_restore_33 : decode cX10_restore 33 = .ok (.iconst 1, 1) := by decide +kernel
theorem dX10_restore_34 : decode cX10_restore 34 = .ok (.iadd, 1) := by decide +kernel
theorem dX10_restore_35 : decode cX10_restore 35 = .ok (.imul, 1) := by decide +kernel
theorem dX10_restore_36 : decode cX10_restore 36 = .ok (.iload_n 2, 1) := by decide +kernel
theorem dX10_restore_37 : decode cX10_restore 37 = .ok (.iadd, 1) := by decide +kernel
theorem dX10_restore_38 : decode cX10_restore 38 = .ok (.iload_n 2, 1) := by decide +kernel
theorem dX10_restore_39 : decode cX10_restore 39 = .ok (.invokevirtual 154, 3) := by decide +kernel
theorem dX10_restore_42 : decode cX10_restore 42 = .ok (.iinc 2 1, 3) := by decide +kernel
theorem dX10_restore_45 : decode cX10_restore 45 = .ok (.goto (-20), 3) := by decide +kernel
theorem dX10_restore_48 : decode cX10_restore 48 = .ok (.aload_n 0, 1) := by decide +kernel
theorem dX10_restore_49 : decode cX10_restore 49 = .ok (.invokevirtual 260, 3) := by decide +kernel
theorem dX10_restore_52 : decode cX10_restore 52 = .ok (.ireturn, 1) := by decide +kernel
theorem dX10_refusals_0 : decode cX10_refusals 0 = .ok (.iload_n 1, 1) := by decide +kernel
theorem dX10_refusals_1 : decode cX10_refusals 1 = .ok (.ifCond .ne 10, 3) := by decide +kernel
theorem dX10_refusals_4 : decode cX10_refusals 4 = .ok (.aload_n 0, 1) := by decide +kernel
theorem dX10_refusals_5 : decode cX10_refusals 5 = .ok (.getfield 55, 3) := by decide +kernel
theorem dX10_refusals_8 : decode cX10_refusals 8 = .ok (.goto 16, 3) := by decide +kernel
theorem dX10_refusals_11 : decode cX10_refusals 11 = .ok (.iload_n 1, 1) := by decide +kernel
theorem dX10_refusals_12 : decode cX10_refusals 12 = .ok (.iconst 1, 1) := by decide +kernel
theorem dX10_refusals_13 : decode cX10_refusals 13 = .ok (.if_icmp .ne 10, 3) := by decide +kernel
theorem dX10_refusals_16 : decode cX10_refusals 16 = .ok (.aload_n 0, 1) := by decide +kernel
theorem dX10_refusals_17 : decode cX10_refusals 17 = .ok (.getfield 233, 3) := by decide +kernel
theorem dX10_refusals_20 : decode cX10_refusals 20 = .ok (.goto 4, 3) := by decide +kernel
theorem dX10_refusals_23 : decode cX10_refusals 23 = .ok (.iconst (-1), 1) := by decide +kernel
theorem dX10_refusals_24 : decode cX10_refusals 24 = .ok (.ireturn, 1) := by decide +kernel
