theorem dX8_meaning_4 : decode cX8_meaning 4 = .ok (.iload_n 1, 1) := by decide +kernel
theorem dX8_meaning_5 : decode cX8_meaning 5 = .ok (.bipush 6, 2) := by decide +kernel
theorem dX8_meaning_7 : decode cX8_meaning 7 = .ok (.imul, 1) := by decide +kernel
theorem dX8_meaning_8 : decode cX8_meaning 8 = .ok (.iload_n 2, 1) := by decide +kernel
theorem dX8_meaning_9 : decode cX8_meaning 9 = .ok (.iadd, 1) := by decide +kernel
theorem dX8_meaning_10 : decode cX8_meaning 10 = .ok (.iaload, 1) := by decide +kernel
theorem dX8_meaning_11 : decode cX8_meaning 11 = .ok (.ireturn, 1) := by decide +kernel
theorem dX8_sameMeaning_0 : decode cX8_sameMeaning 0 = .ok (.iconst 0, 1) := by decide +kernel
theorem dX8_sameMeaning_1 : decode cX8_sameMeaning 1 = .ok (.istore_n 3, 1) := by decide +kernel
theorem dX8_sameMeaning_2 : decode cX8_sameMeaning 2 = .ok (.iconst 0, 1) := by decide +kernel
theorem dX8_sameMeaning_3 : decode cX8_sameMeaning 3 = .ok (.istore 4, 2) := by decide +kernel
theorem dX8_sameMeaning_5 : decode cX8_sameMeaning 5 = .ok (.iload 4, 2) := by decide +kernel
theorem dX8_sameMeaning_7 : decode cX8_sameMeaning 7 = .ok (.aload_n 0, 1) := by decide +kernel
theorem dX8_sameMeaning_8 : decode cX8_sameMeaning 8 = .ok (.getfield 20, 3) := by decide +kernel
theorem dX8_sameMeaning_11 : decode cX8_sameMeaning 11 = .ok (.if_icmp .ge 38, 3) := by decide +kernel
theorem dX8_sameMeaning_14 : decode cX8_sameMeaning 14 = .ok (.iload 4, 2) := by decide +kernel
theorem dX8_sameMeaning_16 : decode cX8_sameMeaning 16 = .ok (.iload_n 2, 1) := by decide +kernel
theorem dX8_sameMeaning_17 : decode cX8_sameMeaning 17 = .ok (.if_icmp .eq 26, 3) := by decide +kernel
theorem dX8_sameMeaning_20 : decode cX8_sameMeaning 20 = .ok (.aload_n 0, 1) := by decide +kernel
theorem dX8_sameMeaning_21 : decode cX8_sameMeaning 21 = .ok (.iload_n 1, 1) := by decide +kernel
theorem dX8_sameMeaning_22 : decode cX8_sameMeaning 22 = .ok (.iload 4, 2) := by decide +kernel
theorem dX8_sameMeaning_24 : decode cX8_sameMeaning 24 = .ok (.invokevirtual 28, 3) := by decide +kernel
theorem dX8_sameMeaning_27 : decode cX8_sameMeaning 27 = .ok (.aload_n 0, 1) := by decide +kernel
theorem dX8_sameMeaning_28 : decode cX8_sameMeaning 28 = .ok (.iload_n 1, 1) := by decide +kernel
theorem dX8_sameMeaning_29 : decode cX8_sameMeaning 29 = .ok (.iload_n 2, 1) := by decide +kernel
theorem dX8_sameMeaning_30 : decode cX8_sameMeaning 30 = .ok (.invokevirtual 28, 3) := by decide +kernel
theorem dX8_sameMeaning_33 : decode cX8_sameMeaning 33 = .ok (.if_icmp .ne 10, 3) := by decide +kernel
theorem dX8_sameMeaning_36 : decode cX8_sameMeaning 36 = .ok (.iload_n 3, 1) := by decide +kernel
theorem dX8_sameMeaning_37 : decode cX8_sameMeaning 37 = .ok (.iconst 1, 1) := by decide +kernel
theorem dX8_sameMeaning_38 : decode cX8_sameMeaning 38 = .ok (.iload 4, 2) := by decide +kernel
theorem dX8_sameMeaning_40 : decode cX8_sameMeaning 40 = .ok (.ishl, 1) := by decide +kernel
theorem dX8_sameMeaning_41 : decode cX8_sameMeaning 41 = .ok (.ior, 1) := by decide +kernel
theorem dX8_sameMeaning_42 : decode cX8_sameMeaning 42 = .ok (.istore_n 3, 1) := by decide +kernel
theorem dX8_sameMeaning_43 : decode cX8_sameMeaning 43 = .ok (.iinc 4 1, 3) := by decide +kernel
theorem dX8_sameMeaning_46 : decode cX8_sameMeaning 46 = .ok (.goto (-41), 3) := by decide +kernel
theorem dX8_sameMeaning_49 : decode cX8_sameMeaning 49 = .ok (.iload_n 3, 1) := by decide +kernel
theorem dX8_sameMeaning_50 : decode cX8_sameMeaning 50 = .ok (.ireturn, 1) := by decide +kernel
theorem dX8_carry_0 : decode cX8_carry 0 = .ok (.aload_n 0, 1) := by decide +kernel
theorem dX8_carry_1 : decode cX8_carry 1 = .ok (.getfield 11, 3) := by decide +kernel
theorem dX8_carry_4 : decode cX8_carry 4 = .ok (.iload_n 2, 1) := by decide +kernel
theorem dX8_carry_5 : decode cX8_carry 5 = .ok (.bipush 6, 2) := by decide +kernel
theorem dX8_carry_7 : decode cX8_carry 7 = .ok (.imul, 1) := by decide +kernel
theorem dX8_carry_8 : decode cX8_carry 8 = .ok (.iload_n 3, 1) := by decide +kernel
theorem dX8_carry_9 : decode cX8_carry 9 = .ok (.iadd, 1) := by decide +kernel
theorem dX8_carry_10 : decode cX8_carry 10 = .ok (.aaload, 1) := by decide +kernel
theorem dX8_carry_11 : decode cX8_carry 11 = .ok (.astore 6, 2) := by decide +kernel
theorem dX8_carry_13 : decode cX8_carry 13 = .ok (.aload_n 0, 1) := by decide +kernel
theorem dX8_carry_14 : decode cX8_carry 14 = .ok (.iload_n 2, 1) := by decide +kernel
theorem dX8_carry_15 : decode cX8_carry 15 = .ok (.iload_n 3, 1) := by decide +kernel
theorem dX8_carry_16 : decode cX8_carry 16 = .ok (.invokevirtual 28, 3) := by decide +kernel
theorem dX8_carry_19 : decode cX8_carry 19 = .ok (.istore 7, 2) := by decide +kernel
theorem dX8_carry_21 : decode cX8_carry 21 = .ok (.aload 6, 2) := by decide +kernel
theorem dX8_carry_23 : decode cX8_carry 23 = .ok (.iload 7, 2) := by decide +kernel
theorem dX8_carry_25 : decode cX8_carry 25 = .ok (.iaload, 1) := by decide +kernel
theorem dX8_carry_26 : decode cX8_carry 26 = .ok (.istore 8, 2) := by decide +kernel
theorem dX8_carry_28 : decode cX8_carry 28 = .ok (.iconst 0, 1) := by decide +kernel
theorem dX8_carry_29 : decode cX8_carry 29 = .ok (.istore 9, 2) := by decide +kernel
theorem dX8_carry_31 : decode cX8_carry 31 = .ok (.iload 9, 2) := by decide +kernel
theorem dX8_carry_33 : decode cX8_carry 33 = .ok (.aload_n 0, 1) := by decide +kernel
theorem dX8_carry_34 : decode cX8_carry 34 = .ok (.getfield 20, 3) := by decide +kernel
theorem dX8_carry_37 : decode cX8_carry 37 = .ok (.if_icmp .ge 63, 3) := by decide +kernel
theorem dX8_carry_40 : decode cX8_carry 40 = .ok (.iload 4, 2) := by decide +kernel
theorem dX8_carry_42 : decode cX8_carry 42 = .ok (.ifCond .ne 11, 3) := by decide +kernel
theorem dX8_carry_45 : decode cX8_carry 45 = .ok (.aload 6, 2) := by decide +kernel
theorem dX8_carry_47 : decode cX8_carry 47 = .ok (.iload 9, 2) := by decide +kernel
theorem dX8_carry_49 : decode cX8_carry 49 = .ok (.iaload, 1) := by decide +kernel
theorem dX8_carry_50 : decode cX8_carry 50 = .ok (.goto 10, 3) := by decide +kernel
theorem dX8_carry_53 : decode cX8_carry 53 = .ok (.aload 6, 2) := by decide +kernel
theorem dX8_carry_55 : decode cX8_carry 55 = .ok (.iload 9, 2) := by decide +kernel
theorem dX8_carry_57 : decode cX8_carry 57 = .ok (.iaload, 1) := by decide +kernel
theorem dX8_carry_58 : decode cX8_carry 58 = .ok (.iconst 2, 1) := by decide +kernel
theorem dX8_carry_59 : decode cX8_carry 59 = .ok (.idiv, 1) := by decide +kernel
theorem dX8_carry_60 : decode cX8_carry 60 = .ok (.istore 10, 2) := by decide +kernel
theorem dX8_carry_62 : decode cX8_carry 62 = .ok (.aload_n 1, 1) := by decide +kernel
theorem dX8_carry_63 : decode cX8_carry 63 = .ok (.iload 9, 2) := by decide +kernel
theorem dX8_carry_65 : decode cX8_carry 65 = .ok (.iload 10, 2) := by decide +kernel
theorem dX8_carry_67 : decode cX8_carry 67 = .ok (.bipush 12, 2) := by decide +kernel
theorem dX8_carry_69 : decode cX8_carry 69 = .ok (.iload 5, 2) := by decide +kernel
theorem dX8_carry_71 : decode cX8_carry 71 = .ok (.isub, 1) := by decide +kernel
theorem dX8_carry_72 : decode cX8_carry 72 = .ok (.imul, 1) := by decide +kernel
theorem dX8_carry_73 : decode cX8_carry 73 = .ok (.iastore, 1) := by decide +kernel
theorem dX8_carry_74 : decode cX8_carry 74 = .ok (.iload 9, 2) := by decide +kernel
theorem dX8_carry_76 : decode cX8_carry 76 = .ok (.iload 7, 2) := by decide +kernel
theorem dX8_carry_78 : decode cX8_carry 78 = .ok (.if_icmp .eq 16, 3) := by decide +kernel
theorem dX8_carry_81 : decode cX8_carry 81 = .ok (.iload 8, 2) := by decide +kernel
theorem dX8_carry_83 : decode cX8_carry 83 = .ok (.aload 6, 2) := by decide +kernel
theorem dX8_carry_85 : decode cX8_carry 85 = .ok (.iload 9, 2) := by decide +kernel
theorem dX8_carry_87 : decode cX8_carry 87 = .ok (.iaload, 1) := by decide +kernel
theorem dX8_carry_88 : decode cX8_carry 88 = .ok (.iload 10, 2) := by decide +kernel
theorem dX8_carry_90 : decode cX8_carry 90 = .ok (.isub, 1) := by decide +kernel
theorem dX8_carry_91 : decode cX8_carry 91 = .ok (.iadd, 1) := by decide +kernel
theorem dX8_carry_92 : decode cX8_carry 92 = .ok (.istore 8, 2) := by decide +kernel
theorem dX8_carry_94 : decode cX8_carry 94 = .ok (.iinc 9 1, 3) := by decide +kernel
theorem dX8_carry_97 : decode cX8_carry 97 = .ok (.goto (-66), 3) := by decide +kernel
theorem dX8_carry_100 : decode cX8_carry 100 = .ok (.iload 4, 2) := by decide +kernel
theorem dX8_carry_102 : decode cX8_carry 102 = .ok (.iconst 2, 1) := by decide +kernel
theorem dX8_carry_103 : decode cX8_carry 103 = .ok (.if_icmp .ne 15, 3) := by decide +kernel
theorem dX8_carry_106 : decode cX8_carry 106 = .ok (.iload 8, 2) := by decide +kernel
theorem dX8_carry_108 : decode cX8_carry 108 = .ok (.aload 6, 2) := by decide +kernel
theorem dX8_carry_110 : decode cX8_carry 110 = .ok (.aload_n 0, 1) := by decide +kernel
theorem dX8_carry_111 : decode cX8_carry 111 = .ok (.getfield 20, 3) := by decide +kernel
theorem dX8_carry_114 : decode cX8_carry 114 = .ok (.iaload, 1) := by decide +kernel
theorem dX8_carry_115 : decode cX8_carry 115 = .ok (.iadd, 1) := by decide +kernel
theorem dX8_carry_116 : decode cX8_carry 116 = .ok (.istore 8, 2) := by decide +kernel
theorem dX8_carry_118 : decode cX8_carry 118 = .ok (.aload_n 1, 1) := by decide +kernel
theorem dX8_carry_119 : decode cX8_carry 119 = .ok (.iload 7, 2) := by decide +kernel
theorem dX8_carry_121 : decode cX8_carry 121 = .ok (.iload 8, 2) := by decide +kernel
theorem dX8_carry_123 : decode cX8_carry 123 = .ok (.bipush 12, 2) := by decide +kernel
theorem dX8_carry_125 : decode cX8_carry 125 = .ok (.iload 5, 2) := by decide +kernel
theorem dX8_carry_127 : decode cX8_carry 127 = .ok (.isub, 1) := by decide +kernel
theorem dX8_carry_128 : decode cX8_carry 128 = .ok (.imul, 1) := by decide +kernel
theorem dX8_carry_129 : decode cX8_carry 129 = .ok (.iastore, 1) := by decide +kernel
theorem dX8_carry_130 : decode cX8_carry 130 = .ok (.return_, 1) := by decide +kernel
theorem dX9_init_0 : decode cX9_init 0 = .ok (.aload_n 0, 1) := by decide +kernel
theorem dX9_init_1 : decode cX9_init 1 = .ok (.invokespecial 3, 3) := by decide +kernel
theorem dX9_init_4 : decode cX9_init 4 = .ok (.aload_n 0, 1) := by decide +kernel
theorem dX9_init_5 : decode cX9_init 5 = .ok (.bipush 6, 2) := by decide +kernel
theorem dX9_init_7 : decode cX9_init 7 = .ok (.bipush 7, 2) := by decide +kernel
theorem dX9_init_9 : decode cX9_init 9 = .ok (.multianewarray 9 2, 4) := by decide +kernel
theorem dX9_init_13 : decode cX9_init 13 = .ok (.putfield 11, 3) := by decide +kernel
theorem dX9_init_16 : decode cX9_init 16 = .ok (.return_, 1) := by decide +kernel
theorem dX9_leave_0 : decode cX9_leave 0 = .ok (.aload_n 0, 1) := by decide +kernel
theorem dX9_leave_1 : decode cX9_leave 1 = .ok (.iconst 0, 1) := by decide +kernel
theorem dX9_leave_2 : decode cX9_leave 2 = .ok (.putfield 16, 3) := by decide +kernel
theorem dX9_leave_5 : decode cX9_leave 5 = .ok (.aload_n 0, 1) := by decide +kernel
theorem dX9_leave_6 : decode cX9_leave 6 = .ok (.iconst 0, 1) := by decide +kernel
theorem dX9_leave_7 : decode cX9_leave 7 = .ok (.putfield 20, 3) := by decide +kernel
theorem dX9_leave_10 : decode cX9_leave 10 = .ok (.return_, 1) := by decide +kernel
theorem dX9_take_0 : decode cX9_take 0 = .ok (.aload_n 0, 1) := by decide +kernel
theorem dX9_take_1 : decode cX9_take 1 = .ok (.iconst 1, 1) := by decide +kernel
theorem dX9_take_2 : decode cX9_take 2 = .ok (.putfield 16, 3) := by decide +kernel
theorem dX9_take_5 : decode cX9_take 5 = .ok (.aload_n 0, 1) := by decide +kernel
theorem dX9_take_6 : decode cX9_take 6 = .ok (.iload_n 3, 1) := by decide +kernel
theorem dX9_take_7 : decode cX9_take 7 = .ok (.putfield 20, 3) := by decide +kernel
theorem dX9_take_10 : decode cX9_take 10 = .ok (.iconst 0, 1) := by decide +kernel
theorem dX9_take_11 : decode cX9_take 11 = .ok (.istore 4, 2) := by decide +kernel
theorem dX9_take_13 : decode cX9_take 13 = .ok (.iload 4, 2) := by decide +kernel
theorem dX9_take_15 : decode cX9_take 15 = .ok (.iload_n 2, 1) := by decide +kernel
theorem dX9_take_16 : decode cX9_take 16 = .ok (.if_icmp .ge 103, 3) := by decide +kernel
theorem dX9_take_19 : decode cX9_take 19 = .ok (.bipush 12, 2) := by decide +kernel
theorem dX9_take_21 : decode cX9_take 21 = .ok (.istore 5, 2) := by decide +kernel
theorem dX9_take_23 : decode cX9_take 23 = .ok (.iconst 0, 1) := by decide +kernel
theorem dX9_take_24 : decode cX9_take 24 = .ok (.istore 6, 2) := by decide +kernel
theorem dX9_take_26 : decode cX9_take 26 = .ok (.iload 6, 2) := by decide +kernel
theorem dX9_take_28 : decode cX9_take 28 = .ok (.iload_n 2, 1) := by decide +kernel
theorem dX9_take_29 : decode cX9_take 29 = .ok (.if_icmp .ge 46, 3) := by decide +kernel
theorem dX9_take_32 : decode cX9_take 32 = .ok (.aload_n 0, 1) := by decide +kernel
theorem dX9_take_33 : decode cX9_take 33 = .ok (.getfield 11, 3) := by decide +kernel
theorem dX9_take_36 : decode cX9_take 36 = .ok (.iload 4, 2) := by decide +kernel
theorem dX9_take_38 : decode cX9_take 38 = .ok (.aaload, 1) := by decide +kernel
theorem dX9_take_39 : decode cX9_take 39 = .ok (.iload 6, 2) := by decide +kernel
theorem dX9_take_41 : decode cX9_take 41 = .ok (.aload_n 1, 1) := by decide +kernel
theorem dX9_take_42 : decode cX9_take 42 = .ok (.iload 4, 2) := by decide +kernel
theorem dX9_take_44 : decode cX9_take 44 = .ok (.aaload, 1) := by decide +kernel
theorem dX9_take_45 : decode cX9_take 45 = .ok (.iload 6, 2) := by decide +kernel
theorem dX9_take_47 : decode cX9_take 47 = .ok (.iaload, 1) := by decide +kernel
theorem dX9_take_48 : decode cX9_take 48 = .ok (.bipush 12, 2) := by decide +kernel
theorem dX9_take_50 : decode cX9_take 50 = .ok (.aload_n 0, 1) := by decide +kernel
theorem dX9_take_51 : decode cX9_take 51 = .ok (.getfield 20, 3) := by decide +kernel
theorem dX9_take_54 : decode cX9_take 54 = .ok (.isub, 1) := by decide +kernel
theorem dX9_take_55 : decode cX9_take 55 = .ok (.imul, 1) := by decide +kernel
theorem dX9_take_56 : decode cX9_take 56 = .ok (.iastore, 1) := by decide +kernel
theorem dX9_take_57 : decode cX9_take 57 = .ok (.iload 5, 2) := by decide +kernel
theorem dX9_take_59 : decode cX9_take 59 = .ok (.aload_n 1, 1) := by decide +kernel
theorem dX9_take_60 : decode cX9_take 60 = .ok (.iload 4, 2) := by decide +kernel
theorem dX9_take_62 : decode cX9_take 62 = .ok (.aaload, 1) := by decide +kernel
theorem dX9_take_63 : decode cX9_take 63 = .ok (.iload 6, 2) := by decide +kernel
theorem dX9_take_65 : decode cX9_take 65 = .ok (.iaload, 1) := by decide +kernel
theorem dX9_take_66 : decode cX9_take 66 = .ok (.isub, 1) := by decide +kernel
theorem dX9_take_67 : decode cX9_take 67 = .ok (.istore 5, 2) := by decide +kernel
theorem dX9_take_69 : decode cX9_take 69 = .ok (.iinc 6 1, 3) := by decide +kernel
theorem dX9_take_72 : decode cX9_take 72 = .ok (.goto (-46), 3) := by decide +kernel
theorem dX9_take_75 : decode cX9_take 75 = .ok (.aload_n 0, 1) := by decide +kernel
theorem dX9_take_76 : decode cX9_take 76 = .ok (.getfield 11, 3) := by decide +kernel
theorem dX9_take_79 : decode cX9_take 79 = .ok (.iload 4, 2) := by decide +kernel
theorem dX9_take_81 : decode cX9_take 81 = .ok (.aaload, 1) := by decide +kernel
theorem dX9_take_82 : decode cX9_take 82 = .ok (.iload_n 2, 1) := by decide +kernel
theorem dX9_take_83 : decode cX9_take 83 = .ok (.iload 5, 2) := by decide +kernel
theorem dX9_take_85 : decode cX9_take 85 = .ok (.bipush 12, 2) := by decide +kernel
theorem dX9_take_87 : decode cX9_take 87 = .ok (.aload_n 0, 1) := by decide +kernel
theorem dX9_take_88 : decode cX9_take 88 = .ok (.getfield 20, 3) := by decide +kernel
theorem dX9_take_91 : decode cX9_take 91 = .ok (.isub, 1) := by decide +kernel
theorem dX9_take_92 : decode cX9_take 92 = .ok (.imul, 1) := by decide +kernel
theorem dX9_take_93 : decode cX9_take 93 = .ok (.iastore, 1) := by decide +kernel
theorem dX9_take_94 : decode cX9_take 94 = .ok (.aload_n 0, 1) := by decide +kernel
theorem dX9_take_95 : decode cX9_take 95 = .ok (.getfield 11, 3) := by decide +kernel
theorem dX9_take_98 : decode cX9_take 98 = .ok (.iload 4, 2) := by decide +kernel
theorem dX9_take_100 : decode cX9_take 100 = .ok (.aaload, 1) := by decide +kernel
theorem dX9_take_101 : decode cX9_take 101 = .ok (.iconst 0, 1) := by decide +kernel
theorem dX9_take_102 : decode cX9_take 102 = .ok (.dup2, 1) := by decide +kernel
theorem dX9_take_103 : decode cX9_take 103 = .ok (.iaload, 1) := by decide +kernel
theorem dX9_take_104 : decode cX9_take 104 = .ok (.bipush 12, 2) := by decide +kernel
theorem dX9_take_106 : decode cX9_take 106 = .ok (.aload_n 0, 1) := by decide +kernel
theorem dX9_take_107 : decode cX9_take 107 = .ok (.getfield 20, 3) := by decide +kernel
theorem dX9_take_110 : decode cX9_take 110 = .ok (.imul, 1) := by decide +kernel
theorem dX9_take_111 : decode cX9_take 111 = .ok (.iadd, 1) := by decide +kernel
theorem dX9_take_112 : decode cX9_take 112 = .ok (.iastore, 1) := by decide +kernel
theorem dX9_take_113 : decode cX9_take 113 = .ok (.iinc 4 1, 3) := by decide +kernel
theorem dX9_take_116 : decode cX9_take 116 = .ok (.goto (-103), 3) := by decide +kernel
theorem dX9_take_119 : decode cX9_take 119 = .ok (.return_, 1) := by decide +kernel
theorem dX10_init_0 : decode cX10_init 0 = .ok (.aload_n 0, 1) := by decide +kernel
theorem dX10_init_1 : decode cX10_init 1 = .ok (.invokespecial 5, 3) := by decide +kernel
theorem dX10_init_4 : decode cX10_init 4 = .ok (.aload_n 0, 1) := by decide +kernel
theorem dX10_init_5 : decode cX10_init 5 = .ok (.new 11, 3) := by decide +kernel
theorem dX10_init_8 : decode cX10_init 8 = .ok (.dup, 1) := by decide +kernel
theorem dX10_init_9 : decode cX10_init 9 = .ok (.invokespecial 13, 3) := by decide +kernel
theorem dX10_init_12 : decode cX10_init 12 = .ok (.putfield 14, 3) := by decide +kernel
theorem dX10_init_15 : decode cX10_init 15 = .ok (.aload_n 0, 1) := by decide +kernel
theorem dX10_init_16 : decode cX10_init 16 = .ok (.new 18, 3) := by decide +kernel
theorem dX10_init_19 : decode cX10_init 19 = .ok (.dup, 1) := by decide +kernel
theorem dX10_init_20 : decode cX10_init 20 = .ok (.invokespecial 20, 3) := by decide +kernel
theorem dX10_init_23 : decode cX10_init 23 = .ok (.putfield 21, 3) := by decide +kernel
theorem dX10_init_26 : decode cX10_init 26 = .ok (.aload_n 0, 1) := by decide +kernel
theorem dX10_init_27 : decode cX10_init 27 = .ok (.new 25, 3) := by decide +kernel
theorem dX10_init_30 : decode cX10_init 30 = .ok (.dup, 1) := by decide +kernel
theorem dX10_init_31 : decode cX10_init 31 = .ok (.invokespecial 27, 3) := by decide +kernel
theorem dX10_init_34 : decode cX10_init 34 = .ok (.putfield 28, 3) := by decide +kernel
theorem dX10_init_37 : decode cX10_init 37 = .ok (.aload_n 0, 1) := by decide +kernel
theorem dX10_init_38 : decode cX10_init 38 = .ok (.new 32, 3) := by decide +kernel
theorem dX10_init_41 : decode cX10_init 41 = .ok (.dup, 1) := by decide +kernel
theorem dX10_init_42 : decode cX10_init 42 = .ok (.invokespecial 34, 3) := by decide +kernel
theorem dX10_init_45 : decode cX10_init 45 = .ok (.putfield 35, 3) := by decide +kernel
theorem dX10_init_48 : decode cX10_init 48 = .ok (.aload_n 0, 1) := by decide +kernel
theorem dX10_init_49 : decode cX10_init 49 = .ok (.new 39, 3) := by decide +kernel
theorem dX10_init_52 : decode cX10_init 52 = .ok (.dup, 1) := by decide +kernel
theorem dX10_init_53 : decode cX10_init 53 = .ok (.invokespecial 41, 3) := by decide +kernel
theorem dX10_init_56 : decode cX10_init 56 = .ok (.putfield 42, 3) := by decide +kernel
theorem dX10_init_59 : decode cX10_init 59 = .ok (.aload_n 0, 1) := by decide +kernel
theorem dX10_init_60 : decode cX10_init 60 = .ok (.new 46, 3) := by decide +kernel
theorem dX10_init_63 : decode cX10_init 63 = .ok (.dup, 1) := by decide +kernel
theorem dX10_init_64 : decode cX10_init 64 = .ok (.aload_n 0, 1) := by decide +kernel
theorem dX10_init_65 : decode cX10_init 65 = .ok (.getfield 28, 3) := by decide +kernel
theorem dX10_init_68 : decode cX10_init 68 = .ok (.aload_n 0, 1) := by decide +kernel
theorem dX10_init_69 : decode cX10_init 69 = .ok (.getfield 42, 3) := by decide +kernel
theorem dX10_init_72 : decode cX10_init 72 = .ok (.invokespecial 48, 3) := by decide +kernel
theorem dX10_init_75 : decode cX10_init 75 = .ok (.putfield 51, 3) := by decide +kernel
theorem dX10_init_78 : decode cX10_init 78 = .ok (.aload_n 0, 1) := by decide +kernel
theorem dX10_init_79 : decode cX10_init 79 = .ok (.new 55, 3) := by decide +kernel
theorem dX10_init_82 : decode cX10_init 82 = .ok (.dup, 1) := by decide +kernel
theorem dX10_init_83 : decode cX10_init 83 = .ok (.invokespecial 57, 3) := by decide +kernel
theorem dX10_init_86 : decode cX10_init 86 = .ok (.putfield 58, 3) := by decide +kernel
theorem dX10_init_89 : decode cX10_init 89 = .ok (.aload_n 0, 1) := by decide +kernel
theorem dX10_init_90 : decode cX10_init 90 = .ok (.new 62, 3) := by decide +kernel
theorem dX10_init_93 : decode cX10_init 93 = .ok (.dup, 1) := by decide +kernel
theorem dX10_init_94 : decode cX10_init 94 = .ok (.invokespecial 64, 3) := by decide +kernel
theorem dX10_init_97 : decode cX10_init 97 = .ok (.putfield 65, 3) := by decide +kernel
theorem dX10_init_100 : decode cX10_init 100 = .ok (.aload_n 0, 1) := by decide +kernel
theorem dX10_init_101 : decode cX10_init 101 = .ok (.new 69, 3) := by decide +kernel
theorem dX10_init_104 : decode cX10_init 104 = .ok (.dup, 1) := by decide +kernel
theorem dX10_init_105 : decode cX10_init 105 = .ok (.invokespecial 71, 3) := by decide +kernel
theorem dX10_init_108 : decode cX10_init 108 = .ok (.putfield 72, 3) := by decide +kernel
theorem dX10_init_111 : decode cX10_init 111 = .ok (.aload_n 0, 1) := by decide +kernel
theorem dX10_init_112 : decode cX10_init 112 = .ok (.new 76, 3) := by decide +kernel
theorem dX10_init_115 : decode cX10_init 115 = .ok (.dup, 1) := by decide +kernel
theorem dX10_init_116 : decode cX10_init 116 = .ok (.invokespecial 78, 3) := by decide +kernel
theorem dX10_init_119 : decode cX10_init 119 = .ok (.putfield 79, 3) := by decide +kernel
theorem dX10_init_122 : decode cX10_init 122 = .ok (.return_, 1) := by decide +kernel
theorem dX10_tongues_0 : decode cX10_tongues 0 = .ok (.aload_n 0, 1) := by decide +kernel
theorem dX10_tongues_1 : decode cX10_tongues 1 = .ok (.iload_n 1, 1) := by decide +kernel
theorem dX10_tongues_2 : decode cX10_tongues 2 = .ok (.iload_n 2, 1) := by decide +kernel
theorem dX10_tongues_3 : decode cX10_tongues 3 = .ok (.invokevirtual 83, 3) := by decide +kernel
theorem dX10_tongues_6 : decode cX10_tongues 6 = .ok (.istore 5, 2) := by decide +kernel
theorem dX10_tongues_8 : decode cX10_tongues 8 = .ok (.iload 5, 2) := by decide +kernel
theorem dX10_tongues_10 : decode cX10_tongues 10 = .ok (.ifCond .eq 6, 3) := by decide +kernel
theorem dX10_tongues_13 : decode cX10_tongues 13 = .ok (.iload 5, 2) := by decide +kernel
theorem dX10_tongues_15 : decode cX10_tongues 15 = .ok (.ireturn, 1) := by decide +kernel
theorem dX10_tongues_16 : decode cX10_tongues 16 = .ok (.aload_n 0, 1) := by decide +kernel
theorem dX10_tongues_17 : decode cX10_tongues 17 = .ok (.aload_n 0, 1) := by decide +kernel
theorem dX10_tongues_18 : decode cX10_tongues 18 = .ok (.getfield 14, 3) := by decide +kernel
theorem dX10_tongues_21 : decode cX10_tongues 21 = .ok (.iload_n 1, 1) := by decide +kernel
theorem dX10_tongues_22 : decode cX10_tongues 22 = .ok (.iload_n 2, 1) := by decide +kernel
theorem dX10_tongues_23 : decode cX10_tongues 23 = .ok (.iload_n 3, 1) := by decide +kernel
theorem dX10_tongues_24 : decode cX10_tongues 24 = .ok (.iload 4, 2) := by decide +kernel
theorem dX10_tongues_26 : decode cX10_tongues 26 = .ok (.invokevirtual 87, 3) := by decide +kernel
theorem dX10_tongues_29 : decode cX10_tongues 29 = .ok (.invokevirtual 91, 3) := by decide +kernel
theorem dX10_tongues_32 : decode cX10_tongues 32 = .ok (.istore 6, 2) := by decide +kernel
theorem dX10_tongues_34 : decode cX10_tongues 34 = .ok (.iload 6, 2) := by decide +kernel
theorem dX10_tongues_36 : decode cX10_tongues 36 = .ok (.ifCond .eq 6, 3) := by decide +kernel
theorem dX10_tongues_39 : decode cX10_tongues 39 = .ok (.iload 6, 2) := by decide +kernel
theorem dX10_tongues_41 : decode cX10_tongues 41 = .ok (.ireturn, 1) := by decide +kernel
theorem dX10_tongues_42 : decode cX10_tongues 42 = .ok (.aload_n 0, 1) := by decide +kernel
theorem dX10_tongues_43 : decode cX10_tongues 43 = .ok (.getfield 21, 3) := by decide +kernel
theorem dX10_tongues_46 : decode cX10_tongues 46 = .ok (.aload_n 0, 1) := by decide +kernel
theorem dX10_tongues_47 : decode cX10_tongues 47 = .ok (.getfield 14, 3) := by decide +kernel
theorem dX10_tongues_50 : decode cX10_tongues 50 = .ok (.getfield 95, 3) := by decide +kernel
theorem dX10_tongues_53 : decode cX10_tongues 53 = .ok (.iload_n 1, 1) := by decide +kernel
theorem dX10_tongues_54 : decode cX10_tongues 54 = .ok (.aaload, 1) := by decide +kernel
theorem dX10_tongues_55 : decode cX10_tongues 55 = .ok (.iload_n 3, 1) := by decide +kernel
theorem dX10_tongues_56 : decode cX10_tongues 56 = .ok (.iload 4, 2) := by decide +kernel
theorem dX10_tongues_58 : decode cX10_tongues 58 = .ok (.invokevirtual 99, 3) := by decide +kernel
theorem dX10_tongues_61 : decode cX10_tongues 61 = .ok (.aload_n 0, 1) := by decide +kernel
theorem dX10_tongues_62 : decode cX10_tongues 62 = .ok (.getfield 21, 3) := by decide +kernel
theorem dX10_tongues_65 : decode cX10_tongues 65 = .ok (.invokevirtual 103, 3) := by decide +kernel
theorem dX10_tongues_68 : decode cX10_tongues 68 = .ok (.ifCond .ne 14, 3) := by decide +kernel
theorem dX10_tongues_71 : decode cX10_tongues 71 = .ok (.bipush (-100), 2) := by decide +kernel
theorem dX10_tongues_73 : decode cX10_tongues 73 = .ok (.aload_n 0, 1) := by decide +kernel
theorem dX10_tongues_74 : decode cX10_tongues 74 = .ok (.getfield 21, 3) := by decide +kernel
theorem dX10_tongues_77 : decode cX10_tongues 77 = .ok (.invokevirtual 107, 3) := by decide +kernel
theorem dX10_tongues_80 : decode cX10_tongues 80 = .ok (.isub, 1) := by decide +kernel
theorem dX10_tongues_81 : decode cX10_tongues 81 = .ok (.ireturn, 1) := by decide +kernel
theorem dX10_tongues_82 : decode cX10_tongues 82 = .ok (.aload_n 0, 1) := by decide +kernel
theorem dX10_tongues_83 : decode cX10_tongues 83 = .ok (.getfield 28, 3) := by decide +kernel
theorem dX10_tongues_86 : decode cX10_tongues 86 = .ok (.aload_n 0, 1) := by decide +kernel
theorem dX10_tongues_87 : decode cX10_tongues 87 = .ok (.getfield 21, 3) := by decide +kernel
theorem dX10_tongues_90 : decode cX10_tongues 90 = .ok (.getfield 111, 3) := by decide +kernel
theorem dX10_tongues_93 : decode cX10_tongues 93 = .ok (.aload_n 0, 1) := by decide +kernel
theorem dX10_tongues_94 : decode cX10_tongues 94 = .ok (.getfield 21, 3) := by decide +kernel
theorem dX10_tongues_97 : decode cX10_tongues 97 = .ok (.getfield 114, 3) := by decide +kernel
theorem dX10_tongues_100 : decode cX10_tongues 100 = .ok (.invokevirtual 118, 3) := by decide +kernel
theorem dX10_tongues_103 : decode cX10_tongues 103 = .ok (.aload_n 0, 1) := by decide +kernel
theorem dX10_tongues_104 : decode cX10_tongues 104 = .ok (.getfield 42, 3) := by decide +kernel
theorem dX10_tongues_107 : decode cX10_tongues 107 = .ok (.invokevirtual 122, 3) := by decide +kernel
theorem dX10_tongues_110 : decode cX10_tongues 110 = .ok (.aload_n 0, 1) := by decide +kernel
theorem dX10_tongues_111 : decode cX10_tongues 111 = .ok (.getfield 65, 3) := by decide +kernel
theorem dX10_tongues_114 : decode cX10_tongues 114 = .ok (.invokevirtual 125, 3) := by decide +kernel
theorem dX10_tongues_117 : decode cX10_tongues 117 = .ok (.aload_n 0, 1) := by decide +kernel
theorem dX10_tongues_118 : decode cX10_tongues 118 = .ok (.getfield 28, 3) := by decide +kernel
theorem dX10_tongues_121 : decode cX10_tongues 121 = .ok (.getfield 128, 3) := by decide +kernel
theorem dX10_tongues_124 : decode cX10_tongues 124 = .ok (.ireturn, 1) := by decide +kernel
theorem dX10_becomes_0 : decode cX10_becomes 0 = .ok (.aload_n 0, 1) := by decide +kernel
theorem dX10_becomes_1 : decode cX10_becomes 1 = .ok (.iload_n 2, 1) := by decide +kernel
theorem dX10_becomes_2 : decode cX10_becomes 2 = .ok (.invokevirtual 129, 3) := by decide +kernel
theorem dX10_becomes_5 : decode cX10_becomes 5 = .ok (.ifCond .eq 11, 3) := by decide +kernel
theorem dX10_becomes_8 : decode cX10_becomes 8 = .ok (.aload_n 0, 1) := by decide +kernel
theorem dX10_becomes_9 : decode cX10_becomes 9 = .ok (.iload_n 3, 1) := by decide +kernel
theorem dX10_becomes_10 : decode cX10_becomes 10 = .ok (.invokevirtual 133, 3) := by decide +kernel
theorem dX10_becomes_13 : decode cX10_becomes 13 = .ok (.ifCond .ne 5, 3) := by decide +kernel
theorem dX10_becomes_16 : decode cX10_becomes 16 = .ok (.iconst (-1), 1) := by decide +kernel
theorem dX10_becomes_17 : decode cX10_becomes 17 = .ok (.ireturn, 1) := by decide +kernel
theorem dX10_becomes_18 : decode cX10_becomes 18 = .ok (.iload_n 1, 1) := by decide +kernel
theorem dX10_becomes_19 : decode cX10_becomes 19 = .ok (.invokestatic 136, 3) := by decide +kernel
theorem dX10_becomes_22 : decode cX10_becomes 22 = .ok (.ifCond .eq 16, 3) := by decide +kernel
theorem dX10_becomes_25 : decode cX10_becomes 25 = .ok (.aload_n 0, 1) := by decide +kernel
theorem dX10_becomes_26 : decode cX10_becomes 26 = .ok (.getfield 28, 3) := by decide +kernel
theorem dX10_becomes_29 : decode cX10_becomes 29 = .ok (.iload_n 1, 1) := by decide +kernel
theorem dX10_becomes_30 : decode cX10_becomes 30 = .ok (.iload_n 2, 1) := by decide +kernel
theorem dX10_becomes_31 : decode cX10_becomes 31 = .ok (.iload_n 3, 1) := by decide +kernel
theorem dX10_becomes_32 : decode cX10_becomes 32 = .ok (.invokevirtual 139, 3) := by decide +kernel
theorem dX10_becomes_35 : decode cX10_becomes 35 = .ok (.goto 5, 3) := by decide +kernel
theorem dX10_becomes_38 : decode cX10_becomes 38 = .ok (.bipush (-2), 2) := by decide +kernel
theorem dX10_becomes_40 : decode cX10_becomes 40 = .ok (.ireturn, 1) := by decide +kernel
theorem dX10_meant_0 : decode cX10_meant 0 = .ok (.aload_n 0, 1) := by decide +kernel
theorem dX10_meant_1 : decode cX10_meant 1 = .ok (.iload_n 2, 1) := by decide +kernel
theorem dX10_meant_2 : decode cX10_meant 2 = .ok (.invokevirtual 129, 3) := by decide +kernel
theorem dX10_meant_5 : decode cX10_meant 5 = .ok (.ifCond .ne 5, 3) := by decide +kernel
theorem dX10_meant_8 : decode cX10_meant 8 = .ok (.iconst (-1), 1) := by decide +kernel
theorem dX10_meant_9 : decode cX10_meant 9 = .ok (.ireturn, 1) := by decide +kernel
theorem dX10_meant_10 : decode cX10_meant 10 = .ok (.iload_n 1, 1) := by decide +kernel
theorem dX10_meant_11 : decode cX10_meant 11 = .ok (.invokestatic 136, 3) := by decide +kernel
theorem dX10_meant_14 : decode cX10_meant 14 = .ok (.ifCond .eq 15, 3) := by decide +kernel
theorem dX10_meant_17 : decode cX10_meant 17 = .ok (.aload_n 0, 1) := by decide +kernel
theorem dX10_meant_18 : decode cX10_meant 18 = .ok (.getfield 28, 3) := by decide +kernel
theorem dX10_meant_21 : decode cX10_meant 21 = .ok (.iload_n 1, 1) := by decide +kernel
theorem dX10_meant_22 : decode cX10_meant 22 = .ok (.iload_n 2, 1) := by decide +kernel
theorem dX10_meant_23 : decode cX10_meant 23 = .ok (.invokevirtual 143, 3) := by decide +kernel
theorem dX10_meant_26 : decode cX10_meant 26 = .ok (.goto 5, 3) := by decide +kernel
theorem dX10_meant_29 : decode cX10_meant 29 = .ok (.bipush (-2), 2) := by decide +kernel
theorem dX10_meant_31 : decode cX10_meant 31 = .ok (.ireturn, 1) := by decide +kernel
theorem dX10_alike_0 : decode cX10_alike 0 = .ok (.aload_n 0, 1) := by decide +kernel
theorem dX10_alike_1 : decode cX10_alike 1 = .ok (.iload_n 2, 1) := by decide +kernel
theorem dX10_alike_2 : decode cX10_alike 2 = .ok (.invokevirtual 129, 3) := by decide +kernel
theorem dX10_alike_5 : decode cX10_alike 5 = .ok (.ifCond .ne 5, 3) := by decide +kernel
theorem dX10_alike_8 : decode cX10_alike 8 = .ok (.iconst (-1), 1) := by decide +kernel
theorem dX10_alike_9 : decode cX10_alike 9 = .ok (.ireturn, 1) := by decide +kernel
theorem dX10_alike_10 : decode cX10_alike 10 = .ok (.iload_n 1, 1) := by decide +kernel
theorem dX10_alike_11 : decode cX10_alike 11 = .ok (.invokestatic 136, 3) := by decide +kernel
theorem dX10_alike_14 : decode cX10_alike 14 = .ok (.ifCond .eq 15, 3) := by decide +kernel
theorem dX10_alike_17 : decode cX10_alike 17 = .ok (.aload_n 0, 1) := by decide +kernel
theorem dX10_alike_18 : decode cX10_alike 18 = .ok (.getfield 28, 3) := by decide +kernel
theorem dX10_alike_21 : decode cX10_alike 21 = .ok (.iload_n 1, 1) := by decide +kernel
theorem dX10_alike_22 : decode cX10_alike 22 = .ok (.iload_n 2, 1) := by decide +kernel
theorem dX10_alike_23 : decode cX10_alike 23 = .ok (.invokevirtual 146, 3) := by decide +kernel
theorem dX10_alike_26 : decode cX10_alike 26 = .ok (.goto 5, 3) := by decide +kernel
theorem dX10_alike_29 : decode cX10_alike 29 = .ok (.bipush (-2), 2) := by decide +kernel
theorem dX10_alike_31 : decode cX10_alike 31 = .ok (.ireturn, 1) := by decide +kernel
theorem dX10_interpreter_0 : decode cX10_interpreter 0 = .ok (.iload_n 1, 1) := by decide +kernel
theorem dX10_interpreter_1 : decode cX10_interpreter 1 = .ok (.invokestatic 149, 3) := by decide +kernel
theorem dX10_interpreter_4 : decode cX10_interpreter 4 = .ok (.ifCond .eq 10, 3) := by decide +kernel
theorem dX10_interpreter_7 : decode cX10_interpreter 7 = .ok (.iload_n 2, 1) := by decide +kernel
theorem dX10_interpreter_8 : decode cX10_interpreter 8 = .ok (.invokestatic 152, 3) := by decide +kernel
theorem dX10_interpreter_11 : decode cX10_interpreter 11 = .ok (.ifCond .ne 6, 3) := by decide +kernel
theorem dX10_interpreter_14 : decode cX10_interpreter 14 = .ok (.bipush (-2), 2) := by decide +kernel
theorem dX10_interpreter_16 : decode cX10_interpreter 16 = .ok (.ireturn, 1) := by decide +kernel
theorem dX10_interpreter_17 : decode cX10_interpreter 17 = .ok (.aload_n 0, 1) := by decide +kernel
theorem dX10_interpreter_18 : decode cX10_interpreter 18 = .ok (.getfield 35, 3) := by decide +kernel
theorem dX10_interpreter_21 : decode cX10_interpreter 21 = .ok (.invokevirtual 155, 3) := by decide +kernel
theorem dX10_interpreter_24 : decode cX10_interpreter 24 = .ok (.ifCond .eq 8, 3) := by decide +kernel
theorem dX10_interpreter_27 : decode cX10_interpreter 27 = .ok (.bipush (-4), 2) := by decide +kernel
theorem dX10_interpreter_29 : decode cX10_interpreter 29 = .ok (.goto 12, 3) := by decide +kernel
theorem dX10_interpreter_32 : decode cX10_interpreter 32 = .ok (.aload_n 0, 1) := by decide +kernel
theorem dX10_interpreter_33 : decode cX10_interpreter 33 = .ok (.getfield 35, 3) := by decide +kernel
theorem dX10_interpreter_36 : decode cX10_interpreter 36 = .ok (.iload_n 1, 1) := by decide +kernel
theorem dX10_interpreter_37 : decode cX10_interpreter 37 = .ok (.iload_n 2, 1) := by decide +kernel
theorem dX10_interpreter_38 : decode cX10_interpreter 38 = .ok (.invokevirtual 158, 3) := by decide +kernel
theorem dX10_interpreter_41 : decode cX10_interpreter 41 = .ok (.ireturn, 1) := by decide +kernel
theorem dX10_ofInterpreter_0 : decode cX10_ofInterpreter 0 = .ok (.aload_n 0, 1) := by decide +kernel
theorem dX10_ofInterpreter_1 : decode cX10_ofInterpreter 1 = .ok (.getfield 35, 3) := by decide +kernel
theorem dX10_ofInterpreter_4 : decode cX10_ofInterpreter 4 = .ok (.iload_n 1, 1) := by decide +kernel
theorem dX10_ofInterpreter_5 : decode cX10_ofInterpreter 5 = .ok (.invokevirtual 161, 3) := by decide +kernel
theorem dX10_ofInterpreter_8 : decode cX10_ofInterpreter 8 = .ok (.ifCond .ne 5, 3) := by decide +kernel
theorem dX10_ofInterpreter_11 : decode cX10_ofInterpreter 11 = .ok (.iconst (-1), 1) := by decide +kernel
theorem dX10_ofInterpreter_12 : decode cX10_ofInterpreter 12 = .ok (.ireturn, 1) := by decide +kernel
theorem dX10_ofInterpreter_13 : decode cX10_ofInterpreter 13 = .ok (.iload_n 2, 1) := by decide +kernel
theorem dX10_ofInterpreter_14 : decode cX10_ofInterpreter 14 = .ok (.ifCond .eq 11, 3) := by decide +kernel
theorem dX10_ofInterpreter_17 : decode cX10_ofInterpreter 17 = .ok (.iload_n 2, 1) := by decide +kernel
theorem dX10_ofInterpreter_18 : decode cX10_ofInterpreter 18 = .ok (.iconst 1, 1) := by decide +kernel
theorem dX10_ofInterpreter_19 : decode cX10_ofInterpreter 19 = .ok (.if_icmp .eq 6, 3) := by decide +kernel
theorem dX10_ofInterpreter_22 : decode cX10_ofInterpreter 22 = .ok (.bipush (-2), 2) := by decide +kernel
theorem dX10_ofInterpreter_24 : decode cX10_ofInterpreter 24 = .ok (.ireturn, 1) := by decide +kernel
theorem dX10_ofInterpreter_25 : decode cX10_ofInterpreter 25 = .ok (.iload_n 2, 1) := by decide +kernel
theorem dX10_ofInterpreter_26 : decode cX10_ofInterpreter 26 = .ok (.ifCond .ne 15, 3) := by decide +kernel
theorem dX10_ofInterpreter_29 : decode cX10_ofInterpreter 29 = .ok (.aload_n 0, 1) := by decide +kernel
theorem dX10_ofInterpreter_30 : decode cX10_ofInterpreter 30 = .ok (.getfield 35, 3) := by decide +kernel
theorem dX10_ofInterpreter_33 : decode cX10_ofInterpreter 33 = .ok (.getfield 164, 3) := by decide +kernel
theorem dX10_ofInterpreter_36 : decode cX10_ofInterpreter 36 = .ok (.iload_n 1, 1) := by decide +kernel
theorem dX10_ofInterpreter_37 : decode cX10_ofInterpreter 37 = .ok (.iaload, 1) := by decide +kernel
theorem dX10_ofInterpreter_38 : decode cX10_ofInterpreter 38 = .ok (.goto 12, 3) := by decide +kernel
theorem dX10_ofInterpreter_41 : decode cX10_ofInterpreter 41 = .ok (.aload_n 0, 1) := by decide +kernel
theorem dX10_ofInterpreter_42 : decode cX10_ofInterpreter 42 = .ok (.getfield 35, 3) := by decide +kernel
theorem dX10_ofInterpreter_45 : decode cX10_ofInterpreter 45 = .ok (.getfield 168, 3) := by decide +kernel
theorem dX10_ofInterpreter_48 : decode cX10_ofInterpreter 48 = .ok (.iload_n 1, 1) := by decide +kernel
theorem dX10_ofInterpreter_49 : decode cX10_ofInterpreter 49 = .ok (.iaload, 1) := by decide +kernel
theorem dX10_ofInterpreter_50 : decode cX10_ofInterpreter 50 = .ok (.ireturn, 1) := by decide +kernel
theorem dX10_tire_0 : decode cX10_tire 0 = .ok (.aload_n 0, 1) := by decide +kernel
theorem dX10_tire_1 : decode cX10_tire 1 = .ok (.getfield 35, 3) := by decide +kernel
theorem dX10_tire_4 : decode cX10_tire 4 = .ok (.iload_n 1, 1) := by decide +kernel
theorem dX10_tire_5 : decode cX10_tire 5 = .ok (.invokevirtual 161, 3) := by decide +kernel
theorem dX10_tire_8 : decode cX10_tire 8 = .ok (.ifCond .ne 5, 3) := by decide +kernel
theorem dX10_tire_11 : decode cX10_tire 11 = .ok (.iconst (-1), 1) := by decide +kernel
theorem dX10_tire_12 : decode cX10_tire 12 = .ok (.ireturn, 1) := by decide +kernel
theorem dX10_tire_13 : decode cX10_tire 13 = .ok (.iload_n 2, 1) := by decide +kernel
theorem dX10_tire_14 : decode cX10_tire 14 = .ok (.invokestatic 152, 3) := by decide +kernel
theorem dX10_tire_17 : decode cX10_tire 17 = .ok (.ifCond .ne 6, 3) := by decide +kernel
theorem dX10_tire_20 : decode cX10_tire 20 = .ok (.bipush (-2), 2) := by decide +kernel
theorem dX10_tire_22 : decode cX10_tire 22 = .ok (.ireturn, 1) := by decide +kernel
theorem dX10_tire_23 : decode cX10_tire 23 = .ok (.aload_n 0, 1) := by decide +kernel
theorem dX10_tire_24 : decode cX10_tire 24 = .ok (.getfield 35, 3) := by decide +kernel
theorem dX10_tire_27 : decode cX10_tire 27 = .ok (.getfield 168, 3) := by decide +kernel
theorem dX10_tire_30 : decode cX10_tire 30 = .ok (.iload_n 1, 1) := by decide +kernel
theorem dX10_tire_31 : decode cX10_tire 31 = .ok (.iaload, 1) := by decide +kernel
theorem dX10_tire_32 : decode cX10_tire 32 = .ok (.istore_n 3, 1) := by decide +kernel
theorem dX10_tire_33 : decode cX10_tire 33 = .ok (.aload_n 0, 1) := by decide +kernel
theorem dX10_tire_34 : decode cX10_tire 34 = .ok (.getfield 35, 3) := by decide +kernel
theorem dX10_tire_37 : decode cX10_tire 37 = .ok (.getfield 168, 3) := by decide +kernel
theorem dX10_tire_40 : decode cX10_tire 40 = .ok (.iload_n 1, 1) := by decide +kernel
theorem dX10_tire_41 : decode cX10_tire 41 = .ok (.iload_n 2, 1) := by decide +kernel
theorem dX10_tire_42 : decode cX10_tire 42 = .ok (.iastore, 1) := by decide +kernel
theorem dX10_tire_43 : decode cX10_tire 43 = .ok (.iload_n 3, 1) := by decide +kernel
theorem dX10_tire_44 : decode cX10_tire 44 = .ok (.ireturn, 1) := by decide +kernel
theorem dX10_carries_0 : decode cX10_carries 0 = .ok (.aload_n 0, 1) := by decide +kernel
theorem dX10_carries_1 : decode cX10_carries 1 = .ok (.getfield 35, 3) := by decide +kernel
theorem dX10_carries_4 : decode cX10_carries 4 = .ok (.iload_n 1, 1) := by decide +kernel
theorem dX10_carries_5 : decode cX10_carries 5 = .ok (.invokevirtual 161, 3) := by decide +kernel
theorem dX10_carries_8 : decode cX10_carries 8 = .ok (.ifCond .eq 20, 3) := by decide +kernel
theorem dX10_carries_11 : decode cX10_carries 11 = .ok (.aload_n 0, 1) := by decide +kernel
theorem dX10_carries_12 : decode cX10_carries 12 = .ok (.iload_n 3, 1) := by decide +kernel
theorem dX10_carries_13 : decode cX10_carries 13 = .ok (.invokevirtual 129, 3) := by decide +kernel
theorem dX10_carries_16 : decode cX10_carries 16 = .ok (.ifCond .eq 12, 3) := by decide +kernel
theorem dX10_carries_19 : decode cX10_carries 19 = .ok (.aload_n 0, 1) := by decide +kernel
theorem dX10_carries_20 : decode cX10_carries 20 = .ok (.iload 4, 2) := by decide +kernel
theorem dX10_carries_22 : decode cX10_carries 22 = .ok (.invokevirtual 133, 3) := by decide +kernel
theorem dX10_carries_25 : decode cX10_carries 25 = .ok (.ifCond .ne 5, 3) := by decide +kernel
theorem dX10_carries_28 : decode cX10_carries 28 = .ok (.iconst (-1), 1) := by decide +kernel
theorem dX10_carries_29 : decode cX10_carries 29 = .ok (.ireturn, 1) := by decide +kernel
theorem dX10_carries_30 : decode cX10_carries 30 = .ok (.iload_n 2, 1) := by decide +kernel
theorem dX10_carries_31 : decode cX10_carries 31 = .ok (.invokestatic 136, 3) := by decide +kernel
theorem dX10_carries_34 : decode cX10_carries 34 = .ok (.ifCond .ne 6, 3) := by decide +kernel
theorem dX10_carries_37 : decode cX10_carries 37 = .ok (.bipush (-2), 2) := by decide +kernel
theorem dX10_carries_39 : decode cX10_carries 39 = .ok (.ireturn, 1) := by decide +kernel
theorem dX10_carries_40 : decode cX10_carries 40 = .ok (.aload_n 0, 1) := by decide +kernel
theorem dX10_carries_41 : decode cX10_carries 41 = .ok (.getfield 58, 3) := by decide +kernel
theorem dX10_carries_44 : decode cX10_carries 44 = .ok (.iload_n 3, 1) := by decide +kernel
theorem dX10_carries_45 : decode cX10_carries 45 = .ok (.invokevirtual 171, 3) := by decide +kernel
theorem dX10_carries_48 : decode cX10_carries 48 = .ok (.aload_n 0, 1) := by decide +kernel
theorem dX10_carries_49 : decode cX10_carries 49 = .ok (.getfield 58, 3) := by decide +kernel
theorem dX10_carries_52 : decode cX10_carries 52 = .ok (.aload_n 0, 1) := by decide +kernel
theorem dX10_carries_53 : decode cX10_carries 53 = .ok (.getfield 28, 3) := by decide +kernel
theorem dX10_carries_56 : decode cX10_carries 56 = .ok (.iload_n 2, 1) := by decide +kernel
theorem dX10_carries_57 : decode cX10_carries 57 = .ok (.aload_n 0, 1) := by decide +kernel
theorem dX10_carries_58 : decode cX10_carries 58 = .ok (.getfield 35, 3) := by decide +kernel
theorem dX10_carries_61 : decode cX10_carries 61 = .ok (.getfield 164, 3) := by decide +kernel
theorem dX10_carries_64 : decode cX10_carries 64 = .ok (.iload_n 1, 1) := by decide +kernel
theorem dX10_carries_65 : decode cX10_carries 65 = .ok (.iaload, 1) := by decide +kernel
theorem dX10_carries_66 : decode cX10_carries 66 = .ok (.aload_n 0, 1) := by decide +kernel
theorem dX10_carries_67 : decode cX10_carries 67 = .ok (.getfield 35, 3) := by decide +kernel
theorem dX10_carries_70 : decode cX10_carries 70 = .ok (.getfield 168, 3) := by decide +kernel
theorem dX10_carries_73 : decode cX10_carries 73 = .ok (.iload_n 1, 1) := by decide +kernel
theorem dX10_carries_74 : decode cX10_carries 74 = .ok (.iaload, 1) := by decide +kernel
theorem dX10_carries_75 : decode cX10_carries 75 = .ok (.invokevirtual 175, 3) := by decide +kernel
theorem dX10_carries_78 : decode cX10_carries 78 = .ok (.aload_n 0, 1) := by decide +kernel
theorem dX10_carries_79 : decode cX10_carries 79 = .ok (.getfield 58, 3) := by decide +kernel
theorem dX10_carries_82 : decode cX10_carries 82 = .ok (.iload 4, 2) := by decide +kernel
theorem dX10_carries_84 : decode cX10_carries 84 = .ok (.aload_n 0, 1) := by decide +kernel
theorem dX10_carries_85 : decode cX10_carries 85 = .ok (.getfield 28, 3) := by decide +kernel
theorem dX10_carries_88 : decode cX10_carries 88 = .ok (.getfield 128, 3) := by decide +kernel
theorem dX10_carries_91 : decode cX10_carries 91 = .ok (.invokevirtual 179, 3) := by decide +kernel
theorem dX10_carries_94 : decode cX10_carries 94 = .ok (.l2i, 1) := by decide +kernel
theorem dX10_carries_95 : decode cX10_carries 95 = .ok (.ireturn, 1) := by decide +kernel
theorem dX10_returns_0 : decode cX10_returns 0 = .ok (.aload_n 0, 1) := by decide +kernel
theorem dX10_returns_1 : decode cX10_returns 1 = .ok (.getfield 35, 3) := by decide +kernel
theorem dX10_returns_4 : decode cX10_returns 4 = .ok (.iload_n 1, 1) := by decide +kernel
theorem dX10_returns_5 : decode cX10_returns 5 = .ok (.invokevirtual 161, 3) := by decide +kernel
theorem dX10_returns_8 : decode cX10_returns 8 = .ok (.ifCond .eq 11, 3) := by decide +kernel
theorem dX10_returns_11 : decode cX10_returns 11 = .ok (.aload_n 0, 1) := by decide +kernel
theorem dX10_returns_12 : decode cX10_returns 12 = .ok (.iload_n 3, 1) := by decide +kernel
theorem dX10_returns_13 : decode cX10_returns 13 = .ok (.invokevirtual 129, 3) := by decide +kernel
theorem dX10_returns_16 : decode cX10_returns 16 = .ok (.ifCond .ne 5, 3) := by decide +kernel
theorem dX10_returns_19 : decode cX10_returns 19 = .ok (.iconst (-1), 1) := by decide +kernel
theorem dX10_returns_20 : decode cX10_returns 20 = .ok (.ireturn, 1) := by decide +kernel
theorem dX10_returns_21 : decode cX10_returns 21 = .ok (.iload_n 2, 1) := by decide +kernel
theorem dX10_returns_22 : decode cX10_returns 22 = .ok (.invokestatic 136, 3) := by decide +kernel
theorem dX10_returns_25 : decode cX10_returns 25 = .ok (.ifCond .ne 6, 3) := by decide +kernel
theorem dX10_returns_28 : decode cX10_returns 28 = .ok (.bipush (-2), 2) := by decide +kernel
theorem dX10_returns_30 : decode cX10_returns 30 = .ok (.ireturn, 1) := by decide +kernel
theorem dX10_returns_31 : decode cX10_returns 31 = .ok (.aload_n 0, 1) := by decide +kernel
theorem dX10_returns_32 : decode cX10_returns 32 = .ok (.getfield 58, 3) := by decide +kernel
theorem dX10_returns_35 : decode cX10_returns 35 = .ok (.iload_n 3, 1) := by decide +kernel
theorem dX10_returns_36 : decode cX10_returns 36 = .ok (.invokevirtual 171, 3) := by decide +kernel
theorem dX10_returns_39 : decode cX10_returns 39 = .ok (.aload_n 0, 1) := by decide +kernel
theorem dX10_returns_40 : decode cX10_returns 40 = .ok (.getfield 58, 3) := by decide +kernel
theorem dX10_returns_43 : decode cX10_returns 43 = .ok (.aload_n 0, 1) := by decide +kernel
theorem dX10_returns_44 : decode cX10_returns 44 = .ok (.getfield 28, 3) := by decide +kernel
theorem dX10_returns_47 : decode cX10_returns 47 = .ok (.iload_n 2, 1) := by decide +kernel
theorem dX10_returns_48 : decode cX10_returns 48 = .ok (.aload_n 0, 1) := by decide +kernel
theorem dX10_returns_49 : decode cX10_returns 49 = .ok (.getfield 35, 3) := by decide +kernel
theorem dX10_returns_52 : decode cX10_returns 52 = .ok (.getfield 164, 3) := by decide +kernel
theorem dX10_returns_55 : decode cX10_returns 55 = .ok (.iload_n 1, 1) := by decide +kernel
theorem dX10_returns_56 : decode cX10_returns 56 = .ok (.iaload, 1) := by decide +kernel
theorem dX10_returns_57 : decode cX10_returns 57 = .ok (.aload_n 0, 1) := by decide +kernel
theorem dX10_returns_58 : decode cX10_returns 58 = .ok (.getfield 35, 3) := by decide +kernel
theorem dX10_returns_61 : decode cX10_returns 61 = .ok (.getfield 168, 3) := by decide +kernel
theorem dX10_returns_64 : decode cX10_returns 64 = .ok (.iload_n 1, 1) := by decide +kernel
theorem dX10_returns_65 : decode cX10_returns 65 = .ok (.iaload, 1) := by decide +kernel
theorem dX10_returns_66 : decode cX10_returns 66 = .ok (.invokevirtual 175, 3) := by decide +kernel
theorem dX10_returns_69 : decode cX10_returns 69 = .ok (.aload_n 0, 1) := by decide +kernel
theorem dX10_returns_70 : decode cX10_returns 70 = .ok (.getfield 58, 3) := by decide +kernel
theorem dX10_returns_73 : decode cX10_returns 73 = .ok (.aload_n 0, 1) := by decide +kernel
theorem dX10_returns_74 : decode cX10_returns 74 = .ok (.getfield 28, 3) := by decide +kernel
theorem dX10_returns_77 : decode cX10_returns 77 = .ok (.iload_n 2, 1) := by decide +kernel
theorem dX10_returns_78 : decode cX10_returns 78 = .ok (.invokestatic 183, 3) := by decide +kernel
theorem dX10_returns_81 : decode cX10_returns 81 = .ok (.aload_n 0, 1) := by decide +kernel
theorem dX10_returns_82 : decode cX10_returns 82 = .ok (.getfield 35, 3) := by decide +kernel
theorem dX10_returns_85 : decode cX10_returns 85 = .ok (.getfield 164, 3) := by decide +kernel
theorem dX10_returns_88 : decode cX10_returns 88 = .ok (.iload_n 1, 1) := by decide +kernel
theorem dX10_returns_89 : decode cX10_returns 89 = .ok (.iaload, 1) := by decide +kernel
theorem dX10_returns_90 : decode cX10_returns 90 = .ok (.aload_n 0, 1) := by decide +kernel
theorem dX10_returns_91 : decode cX10_returns 91 = .ok (.getfield 35, 3) := by decide +kernel
theorem dX10_returns_94 : decode cX10_returns 94 = .ok (.getfield 168, 3) := by decide +kernel
theorem dX10_returns_97 : decode cX10_returns 97 = .ok (.iload_n 1, 1) := by decide +kernel
theorem dX10_returns_98 : decode cX10_returns 98 = .ok (.iaload, 1) := by decide +kernel
theorem dX10_returns_99 : decode cX10_returns 99 = .ok (.invokevirtual 175, 3) := by decide +kernel
theorem dX10_returns_102 : decode cX10_returns 102 = .ok (.aload_n 0, 1) := by decide +kernel
theorem dX10_returns_103 : decode cX10_returns 103 = .ok (.getfield 58, 3) := by decide +kernel
theorem dX10_returns_106 : decode cX10_returns 106 = .ok (.aload_n 0, 1) := by decide +kernel
theorem dX10_returns_107 : decode cX10_returns 107 = .ok (.getfield 28, 3) := by decide +kernel
theorem dX10_returns_110 : decode cX10_returns 110 = .ok (.getfield 128, 3) := by decide +kernel
theorem dX10_returns_113 : decode cX10_returns 113 = .ok (.invokevirtual 186, 3) := by decide +kernel
theorem dX10_returns_116 : decode cX10_returns 116 = .ok (.ireturn, 1) := by decide +kernel
theorem dX10_hands_0 : decode cX10_hands 0 = .ok (.aload_n 0, 1) := by decide +kernel
theorem dX10_hands_1 : decode cX10_hands 1 = .ok (.iconst 0, 1) := by decide +kernel
theorem dX10_hands_2 : decode cX10_hands 2 = .ok (.putfield 189, 3) := by decide +kernel
theorem dX10_hands_5 : decode cX10_hands 5 = .ok (.aload_n 0, 1) := by decide +kernel
theorem dX10_hands_6 : decode cX10_hands 6 = .ok (.iload_n 2, 1) := by decide +kernel
theorem dX10_hands_7 : decode cX10_hands 7 = .ok (.invokevirtual 129, 3) := by decide +kernel
theorem dX10_hands_10 : decode cX10_hands 10 = .ok (.ifCond .eq 38, 3) := by decide +kernel
theorem dX10_hands_13 : decode cX10_hands 13 = .ok (.aload_n 0, 1) := by decide +kernel
theorem dX10_hands_14 : decode cX10_hands 14 = .ok (.iload_n 3, 1) := by decide +kernel
theorem dX10_hands_15 : decode cX10_hands 15 = .ok (.invokevirtual 133, 3) := by decide +kernel
theorem dX10_hands_18 : decode cX10_hands 18 = .ok (.ifCond .eq 30, 3) := by decide +kernel
theorem dX10_hands_21 : decode cX10_hands 21 = .ok (.aload_n 0, 1) := by decide +kernel
theorem dX10_hands_22 : decode cX10_hands 22 = .ok (.getfield 14, 3) := by decide +kernel
theorem dX10_hands_25 : decode cX10_hands 25 = .ok (.iload 4, 2) := by decide +kernel
theorem dX10_hands_27 : decode cX10_hands 27 = .ok (.invokevirtual 192, 3) := by decide +kernel
theorem dX10_hands_30 : decode cX10_hands 30 = .ok (.ifCond .eq 18, 3) := by decide +kernel
theorem dX10_hands_33 : decode cX10_hands 33 = .ok (.iload_n 1, 1) := by decide +kernel
theorem dX10_hands_34 : decode cX10_hands 34 = .ok (.invokestatic 136, 3) := by decide +kernel
theorem dX10_hands_37 : decode cX10_hands 37 = .ok (.ifCond .eq 11, 3) := by decide +kernel
theorem dX10_hands_40 : decode cX10_hands 40 = .ok (.iload 5, 2) := by decide +kernel
theorem dX10_hands_42 : decode cX10_hands 42 = .ok (.invokestatic 193, 3) := by decide +kernel
theorem dX10_hands_45 : decode cX10_hands 45 = .ok (.ifCond .ne 7, 3) := by decide +kernel
theorem dX10_hands_48 : decode cX10_hands 48 = .ok (.ldc2_w 196, 3) := by decide +kernel
theorem dX10_hands_51 : decode cX10_hands 51 = .ok (.lreturn, 1) := by decide +kernel
theorem dX10_hands_52 : decode cX10_hands 52 = .ok (.aload_n 0, 1) := by decide +kernel
theorem dX10_hands_53 : decode cX10_hands 53 = .ok (.aload_n 0, 1) := by decide +kernel
theorem dX10_hands_54 : decode cX10_hands 54 = .ok (.getfield 14, 3) := by decide +kernel
theorem dX10_hands_57 : decode cX10_hands 57 = .ok (.iload 4, 2) := by decide +kernel
theorem dX10_hands_59 : decode cX10_hands 59 = .ok (.iload 5, 2) := by decide +kernel
theorem dX10_hands_61 : decode cX10_hands 61 = .ok (.iload 6, 2) := by decide +kernel
theorem dX10_hands_63 : decode cX10_hands 63 = .ok (.iload 7, 2) := by decide +kernel
theorem dX10_hands_65 : decode cX10_hands 65 = .ok (.invokevirtual 87, 3) := by decide +kernel
theorem dX10_hands_68 : decode cX10_hands 68 = .ok (.invokevirtual 91, 3) := by decide +kernel
theorem dX10_hands_71 : decode cX10_hands 71 = .ok (.ifCond .eq 7, 3) := by decide +kernel
theorem dX10_hands_74 : decode cX10_hands 74 = .ok (.ldc2_w 196, 3) := by decide +kernel
theorem dX10_hands_77 : decode cX10_hands 77 = .ok (.lreturn, 1) := by decide +kernel
theorem dX10_hands_78 : decode cX10_hands 78 = .ok (.iload 7, 2) := by decide +kernel
theorem dX10_hands_80 : decode cX10_hands 80 = .ok (.iconst 1, 1) := by decide +kernel
theorem dX10_hands_81 : decode cX10_hands 81 = .ok (.if_icmp .lt 42, 3) := by decide +kernel
theorem dX10_hands_84 : decode cX10_hands 84 = .ok (.iload 7, 2) := by decide +kernel
theorem dX10_hands_86 : decode cX10_hands 86 = .ok (.bipush 8, 2) := by decide +kernel
theorem dX10_hands_88 : decode cX10_hands 88 = .ok (.if_icmp .gt 35, 3) := by decide +kernel
theorem dX10_hands_91 : decode cX10_hands 91 = .ok (.aload_n 0, 1) := by decide +kernel
theorem dX10_hands_92 : decode cX10_hands 92 = .ok (.getfield 35, 3) := by decide +kernel
theorem dX10_hands_95 : decode cX10_hands 95 = .ok (.aload_n 0, 1) := by decide +kernel
theorem dX10_hands_96 : decode cX10_hands 96 = .ok (.getfield 14, 3) := by decide +kernel
theorem dX10_hands_99 : decode cX10_hands 99 = .ok (.getfield 95, 3) := by decide +kernel
theorem dX10_hands_102 : decode cX10_hands 102 = .ok (.iload 4, 2) := by decide +kernel
theorem dX10_hands_104 : decode cX10_hands 104 = .ok (.aaload, 1) := by decide +kernel
theorem dX10_hands_105 : decode cX10_hands 105 = .ok (.iload 6, 2) := by decide +kernel
theorem dX10_hands_107 : decode cX10_hands 107 = .ok (.iload 7, 2) := by decide +kernel
theorem dX10_hands_109 : decode cX10_hands 109 = .ok (.invokevirtual 198, 3) := by decide +kernel
theorem dX10_hands_112 : decode cX10_hands 112 = .ok (.ifCond .eq 11, 3) := by decide +kernel
theorem dX10_hands_115 : decode cX10_hands 115 = .ok (.iload 8, 2) := by decide +kernel
theorem dX10_hands_117 : decode cX10_hands 117 = .ok (.invokestatic 202, 3) := by decide +kernel
theorem dX10_hands_120 : decode cX10_hands 120 = .ok (.ifCond .ne 7, 3) := by decide +kernel
theorem dX10_hands_123 : decode cX10_hands 123 = .ok (.ldc2_w 196, 3) := by decide +kernel
theorem dX10_hands_126 : decode cX10_hands 126 = .ok (.lreturn, 1) := by decide +kernel
theorem dX10_hands_127 : decode cX10_hands 127 = .ok (.aload_n 0, 1) := by decide +kernel
theorem dX10_hands_128 : decode cX10_hands 128 = .ok (.getfield 58, 3) := by decide +kernel
theorem dX10_hands_131 : decode cX10_hands 131 = .ok (.iload_n 2, 1) := by decide +kernel
theorem dX10_hands_132 : decode cX10_hands 132 = .ok (.invokevirtual 171, 3) := by decide +kernel
theorem dX10_hands_135 : decode cX10_hands 135 = .ok (.iload_n 1, 1) := by decide +kernel
theorem dX10_hands_136 : decode cX10_hands 136 = .ok (.istore 9, 2) := by decide +kernel
theorem dX10_hands_138 : decode cX10_hands 138 = .ok (.iload 6, 2) := by decide +kernel
theorem dX10_hands_140 : decode cX10_hands 140 = .ok (.istore 10, 2) := by decide +kernel
theorem dX10_hands_142 : decode cX10_hands 142 = .ok (.iload 10, 2) := by decide +kernel
theorem dX10_hands_144 : decode cX10_hands 144 = .ok (.iload 6, 2) := by decide +kernel
theorem dX10_hands_146 : decode cX10_hands 146 = .ok (.iload 7, 2) := by decide +kernel
theorem dX10_hands_148 : decode cX10_hands 148 = .ok (.iadd, 1) := by decide +kernel
theorem dX10_hands_149 : decode cX10_hands 149 = .ok (.if_icmp .ge 64, 3) := by decide +kernel
theorem dX10_hands_152 : decode cX10_hands 152 = .ok (.aload_n 0, 1) := by decide +kernel
theorem dX10_hands_153 : decode cX10_hands 153 = .ok (.getfield 14, 3) := by decide +kernel
theorem dX10_hands_156 : decode cX10_hands 156 = .ok (.getfield 95, 3) := by decide +kernel
theorem dX10_hands_159 : decode cX10_hands 159 = .ok (.iload 4, 2) := by decide +kernel
theorem dX10_hands_161 : decode cX10_hands 161 = .ok (.aaload, 1) := by decide +kernel
theorem dX10_hands_162 : decode cX10_hands 162 = .ok (.iload 10, 2) := by decide +kernel
theorem dX10_hands_164 : decode cX10_hands 164 = .ok (.iaload, 1) := by decide +kernel
theorem dX10_hands_165 : decode cX10_hands 165 = .ok (.istore 11, 2) := by decide +kernel
theorem dX10_hands_167 : decode cX10_hands 167 = .ok (.aload_n 0, 1) := by decide +kernel
theorem dX10_hands_168 : decode cX10_hands 168 = .ok (.getfield 58, 3) := by decide +kernel
theorem dX10_hands_171 : decode cX10_hands 171 = .ok (.aload_n 0, 1) := by decide +kernel
theorem dX10_hands_172 : decode cX10_hands 172 = .ok (.getfield 28, 3) := by decide +kernel
theorem dX10_hands_175 : decode cX10_hands 175 = .ok (.iload 9, 2) := by decide +kernel
theorem dX10_hands_177 : decode cX10_hands 177 = .ok (.aload_n 0, 1) := by decide +kernel
theorem dX10_hands_178 : decode cX10_hands 178 = .ok (.getfield 35, 3) := by decide +kernel
theorem dX10_hands_181 : decode cX10_hands 181 = .ok (.getfield 164, 3) := by decide +kernel
theorem dX10_hands_184 : decode cX10_hands 184 = .ok (.iload 11, 2) := by decide +kernel
theorem dX10_hands_186 : decode cX10_hands 186 = .ok (.iaload, 1) := by decide +kernel
theorem dX10_hands_187 : decode cX10_hands 187 = .ok (.aload_n 0, 1) := by decide +kernel
theorem dX10_hands_188 : decode cX10_hands 188 = .ok (.getfield 35, 3) := by decide +kernel
theorem dX10_hands_191 : decode cX10_hands 191 = .ok (.getfield 168, 3) := by decide +kernel
theorem dX10_hands_194 : decode cX10_hands 194 = .ok (.iload 11, 2) := by decide +kernel
theorem dX10_hands_196 : decode cX10_hands 196 = .ok (.iaload, 1) := by decide +kernel
theorem dX10_hands_197 : decode cX10_hands 197 = .ok (.invokevirtual 175, 3) := by decide +kernel
theorem dX10_hands_200 : decode cX10_hands 200 = .ok (.iload 9, 2) := by decide +kernel
theorem dX10_hands_202 : decode cX10_hands 202 = .ok (.invokestatic 183, 3) := by decide +kernel
theorem dX10_hands_205 : decode cX10_hands 205 = .ok (.istore 9, 2) := by decide +kernel
theorem dX10_hands_207 : decode cX10_hands 207 = .ok (.iinc 10 1, 3) := by decide +kernel
theorem dX10_hands_210 : decode cX10_hands 210 = .ok (.goto (-68), 3) := by decide +kernel
theorem dX10_hands_213 : decode cX10_hands 213 = .ok (.aload_n 0, 1) := by decide +kernel
theorem dX10_hands_214 : decode cX10_hands 214 = .ok (.getfield 58, 3) := by decide +kernel
theorem dX10_hands_217 : decode cX10_hands 217 = .ok (.iload_n 3, 1) := by decide +kernel
theorem dX10_hands_218 : decode cX10_hands 218 = .ok (.aload_n 0, 1) := by decide +kernel
theorem dX10_hands_219 : decode cX10_hands 219 = .ok (.getfield 28, 3) := by decide +kernel
theorem dX10_hands_222 : decode cX10_hands 222 = .ok (.getfield 128, 3) := by decide +kernel
theorem dX10_hands_225 : decode cX10_hands 225 = .ok (.invokevirtual 179, 3) := by decide +kernel
theorem dX10_hands_228 : decode cX10_hands 228 = .ok (.aload_n 0, 1) := by decide +kernel
theorem dX10_hands_229 : decode cX10_hands 229 = .ok (.getfield 58, 3) := by decide +kernel
theorem dX10_hands_232 : decode cX10_hands 232 = .ok (.getfield 205, 3) := by decide +kernel
theorem dX10_hands_235 : decode cX10_hands 235 = .ok (.iload 8, 2) := by decide +kernel
theorem dX10_hands_237 : decode cX10_hands 237 = .ok (.invokestatic 209, 3) := by decide +kernel
theorem dX10_hands_240 : decode cX10_hands 240 = .ok (.lreturn, 1) := by decide +kernel
theorem dX10_witness_0 : decode cX10_witness 0 = .ok (.aload_n 0, 1) := by decide +kernel
theorem dX10_witness_1 : decode cX10_witness 1 = .ok (.iload_n 1, 1) := by decide +kernel
theorem dX10_witness_2 : decode cX10_witness 2 = .ok (.iload_n 2, 1) := by decide +kernel
theorem dX10_witness_3 : decode cX10_witness 3 = .ok (.invokevirtual 83, 3) := by decide +kernel
theorem dX10_witness_6 : decode cX10_witness 6 = .ok (.istore 5, 2) := by decide +kernel
theorem dX10_witness_8 : decode cX10_witness 8 = .ok (.iload 5, 2) := by decide +kernel
theorem dX10_witness_10 : decode cX10_witness 10 = .ok (.ifCond .eq 6, 3) := by decide +kernel
theorem dX10_witness_13 : decode cX10_witness 13 = .ok (.iload 5, 2) := by decide +kernel
theorem dX10_witness_15 : decode cX10_witness 15 = .ok (.ireturn, 1) := by decide +kernel
theorem dX10_witness_16 : decode cX10_witness 16 = .ok (.aload_n 0, 1) := by decide +kernel
theorem dX10_witness_17 : decode cX10_witness 17 = .ok (.getfield 28, 3) := by decide +kernel
theorem dX10_witness_20 : decode cX10_witness 20 = .ok (.getfield 128, 3) := by decide +kernel
theorem dX10_witness_23 : decode cX10_witness 23 = .ok (.ifCond .ne 6, 3) := by decide +kernel
theorem dX10_witness_26 : decode cX10_witness 26 = .ok (.bipush (-3), 2) := by decide +kernel
theorem dX10_witness_28 : decode cX10_witness 28 = .ok (.ireturn, 1) := by decide +kernel
theorem dX10_witness_29 : decode cX10_witness 29 = .ok (.aload_n 0, 1) := by decide +kernel
theorem dX10_witness_30 : decode cX10_witness 30 = .ok (.aload_n 0, 1) := by decide +kernel
theorem dX10_witness_31 : decode cX10_witness 31 = .ok (.getfield 14, 3) := by decide +kernel
theorem dX10_witness_34 : decode cX10_witness 34 = .ok (.iload_n 1, 1) := by decide +kernel
theorem dX10_witness_35 : decode cX10_witness 35 = .ok (.iload_n 2, 1) := by decide +kernel
theorem dX10_witness_36 : decode cX10_witness 36 = .ok (.iload_n 3, 1) := by decide +kernel
theorem dX10_witness_37 : decode cX10_witness 37 = .ok (.iload 4, 2) := by decide +kernel
theorem dX10_witness_39 : decode cX10_witness 39 = .ok (.invokevirtual 87, 3) := by decide +kernel
theorem dX10_witness_42 : decode cX10_witness 42 = .ok (.invokevirtual 91, 3) := by decide +kernel
theorem dX10_witness_45 : decode cX10_witness 45 = .ok (.istore 6, 2) := by decide +kernel
theorem dX10_witness_47 : decode cX10_witness 47 = .ok (.iload 6, 2) := by decide +kernel
theorem dX10_witness_49 : decode cX10_witness 49 = .ok (.ifCond .eq 6, 3) := by decide +kernel
theorem dX10_witness_52 : decode cX10_witness 52 = .ok (.iload 6, 2) := by decide +kernel
theorem dX10_witness_54 : decode cX10_witness 54 = .ok (.ireturn, 1) := by decide +kernel
theorem dX10_witness_55 : decode cX10_witness 55 = .ok (.aload_n 0, 1) := by decide +kernel
theorem dX10_witness_56 : decode cX10_witness 56 = .ok (.getfield 21, 3) := by decide +kernel
theorem dX10_witness_59 : decode cX10_witness 59 = .ok (.aload_n 0, 1) := by decide +kernel
theorem dX10_witness_60 : decode cX10_witness 60 = .ok (.getfield 14, 3) := by decide +kernel
theorem dX10_witness_63 : decode cX10_witness 63 = .ok (.getfield 95, 3) := by decide +kernel
theorem dX10_witness_66 : decode cX10_witness 66 = .ok (.iload_n 1, 1) := by decide +kernel
theorem dX10_witness_67 : decode cX10_witness 67 = .ok (.aaload, 1) := by decide +kernel
theorem dX10_witness_68 : decode cX10_witness 68 = .ok (.iload_n 3, 1) := by decide +kernel
theorem dX10_witness_69 : decode cX10_witness 69 = .ok (.iload 4, 2) := by decide +kernel
theorem dX10_witness_71 : decode cX10_witness 71 = .ok (.invokevirtual 99, 3) := by decide +kernel
theorem dX10_witness_74 : decode cX10_witness 74 = .ok (.aload_n 0, 1) := by decide +kernel
theorem dX10_witness_75 : decode cX10_witness 75 = .ok (.getfield 21, 3) := by decide +kernel
theorem dX10_witness_78 : decode cX10_witness 78 = .ok (.aload_n 0, 1) := by decide +kernel
theorem dX10_witness_79 : decode cX10_witness 79 = .ok (.getfield 28, 3) := by decide +kernel
theorem dX10_witness_82 : decode cX10_witness 82 = .ok (.getfield 128, 3) := by decide +kernel
theorem dX10_witness_85 : decode cX10_witness 85 = .ok (.invokevirtual 213, 3) := by decide +kernel
theorem dX10_witness_88 : decode cX10_witness 88 = .ok (.ifCond .ne 14, 3) := by decide +kernel
theorem dX10_witness_91 : decode cX10_witness 91 = .ok (.bipush (-100), 2) := by decide +kernel
theorem dX10_witness_93 : decode cX10_witness 93 = .ok (.aload_n 0, 1) := by decide +kernel
theorem dX10_witness_94 : decode cX10_witness 94 = .ok (.getfield 21, 3) := by decide +kernel
theorem dX10_witness_97 : decode cX10_witness 97 = .ok (.invokevirtual 107, 3) := by decide +kernel
theorem dX10_witness_100 : decode cX10_witness 100 = .ok (.isub, 1) := by decide +kernel
theorem dX10_witness_101 : decode cX10_witness 101 = .ok (.ireturn, 1) := by decide +kernel
theorem dX10_witness_102 : decode cX10_witness 102 = .ok (.aload_n 0, 1) := by decide +kernel
theorem dX10_witness_103 : decode cX10_witness 103 = .ok (.getfield 42, 3) := by decide +kernel
theorem dX10_witness_106 : decode cX10_witness 106 = .ok (.aload_n 0, 1) := by decide +kernel
theorem dX10_witness_107 : decode cX10_witness 107 = .ok (.getfield 21, 3) := by decide +kernel
theorem dX10_witness_110 : decode cX10_witness 110 = .ok (.getfield 111, 3) := by decide +kernel
theorem dX10_witness_113 : decode cX10_witness 113 = .ok (.aload_n 0, 1) := by decide +kernel
theorem dX10_witness_114 : decode cX10_witness 114 = .ok (.getfield 28, 3) := by decide +kernel
theorem dX10_witness_117 : decode cX10_witness 117 = .ok (.getfield 128, 3) := by decide +kernel
theorem dX10_witness_120 : decode cX10_witness 120 = .ok (.aload_n 0, 1) := by decide +kernel
theorem dX10_witness_121 : decode cX10_witness 121 = .ok (.getfield 21, 3) := by decide +kernel
theorem dX10_witness_124 : decode cX10_witness 124 = .ok (.getfield 216, 3) := by decide +kernel
theorem dX10_witness_127 : decode cX10_witness 127 = .ok (.invokevirtual 219, 3) := by decide +kernel
theorem dX10_witness_130 : decode cX10_witness 130 = .ok (.aload_n 0, 1) := by decide +kernel
theorem dX10_witness_131 : decode cX10_witness 131 = .ok (.getfield 65, 3) := by decide +kernel
theorem dX10_witness_134 : decode cX10_witness 134 = .ok (.invokevirtual 125, 3) := by decide +kernel
theorem dX10_witness_137 : decode cX10_witness 137 = .ok (.iconst 1, 1) := by decide +kernel
theorem dX10_witness_138 : decode cX10_witness 138 = .ok (.ireturn, 1) := by decide +kernel
theorem dX10_answers_0 : decode cX10_answers 0 = .ok (.aload_n 0, 1) := by decide +kernel
theorem dX10_answers_1 : decode cX10_answers 1 = .ok (.iload_n 1, 1) := by decide +kernel
theorem dX10_answers_2 : decode cX10_answers 2 = .ok (.invokevirtual 129, 3) := by decide +kernel
theorem dX10_answers_5 : decode cX10_answers 5 = .ok (.ifCond .eq 11, 3) := by decide +kernel
theorem dX10_answers_8 : decode cX10_answers 8 = .ok (.aload_n 0, 1) := by decide +kernel
theorem dX10_answers_9 : decode cX10_answers 9 = .ok (.iload_n 2, 1) := by decide +kernel
theorem dX10_answers_10 : decode cX10_answers 10 = .ok (.invokevirtual 133, 3) := by decide +kernel
theorem dX10_answers_13 : decode cX10_answers 13 = .ok (.ifCond .ne 5, 3) := by decide +kernel
theorem dX10_answers_16 : decode cX10_answers 16 = .ok (.iconst (-1), 1) := by decide +kernel
theorem dX10_answers_17 : decode cX10_answers 17 = .ok (.ireturn, 1) := by decide +kernel
theorem dX10_answers_18 : decode cX10_answers 18 = .ok (.aload_n 0, 1) := by decide +kernel
theorem dX10_answers_19 : decode cX10_answers 19 = .ok (.getfield 42, 3) := by decide +kernel
theorem dX10_answers_22 : decode cX10_answers 22 = .ok (.getfield 222, 3) := by decide +kernel
theorem dX10_answers_25 : decode cX10_answers 25 = .ok (.ifCond .eq 17, 3) := by decide +kernel
theorem dX10_answers_28 : decode cX10_answers 28 = .ok (.aload_n 0, 1) := by decide +kernel
theorem dX10_answers_29 : decode cX10_answers 29 = .ok (.getfield 42, 3) := by decide +kernel
theorem dX10_answers_32 : decode cX10_answers 32 = .ok (.getfield 226, 3) := by decide +kernel
theorem dX10_answers_35 : decode cX10_answers 35 = .ok (.iload_n 1, 1) := by decide +kernel
theorem dX10_answers_36 : decode cX10_answers 36 = .ok (.aaload, 1) := by decide +kernel
theorem dX10_answers_37 : decode cX10_answers 37 = .ok (.iload_n 2, 1) := by decide +kernel
theorem dX10_answers_38 : decode cX10_answers 38 = .ok (.iaload, 1) := by decide +kernel
theorem dX10_answers_39 : decode cX10_answers 39 = .ok (.goto 5, 3) := by decide +kernel
theorem dX10_answers_42 : decode cX10_answers 42 = .ok (.bipush (-3), 2) := by decide +kernel
theorem dX10_answers_44 : decode cX10_answers 44 = .ok (.ireturn, 1) := by decide +kernel
theorem dX10_heard_0 : decode cX10_heard 0 = .ok (.aload_n 0, 1) := by decide +kernel
theorem dX10_heard_1 : decode cX10_heard 1 = .ok (.getfield 35, 3) := by decide +kernel
theorem dX10_heard_4 : decode cX10_heard 4 = .ok (.iload_n 1, 1) := by decide +kernel
theorem dX10_heard_5 : decode cX10_heard 5 = .ok (.invokevirtual 161, 3) := by decide +kernel
theorem dX10_heard_8 : decode cX10_heard 8 = .ok (.ifCond .eq 37, 3) := by decide +kernel
theorem dX10_heard_11 : decode cX10_heard 11 = .ok (.aload_n 0, 1) := by decide +kernel
theorem dX10_heard_12 : decode cX10_heard 12 = .ok (.iload_n 2, 1) := by decide +kernel
theorem dX10_heard_13 : decode cX10_heard 13 = .ok (.invokevirtual 129, 3) := by decide +kernel
theorem dX10_heard_16 : decode cX10_heard 16 = .ok (.ifCond .eq 29, 3) := by decide +kernel
theorem dX10_heard_19 : decode cX10_heard 19 = .ok (.aload_n 0, 1) := by decide +kernel
theorem dX10_heard_20 : decode cX10_heard 20 = .ok (.iload_n 3, 1) := by decide +kernel
theorem dX10_heard_21 : decode cX10_heard 21 = .ok (.invokevirtual 133, 3) := by decide +kernel
theorem dX10_heard_24 : decode cX10_heard 24 = .ok (.ifCond .eq 21, 3) := by decide +kernel
theorem dX10_heard_27 : decode cX10_heard 27 = .ok (.iload 4, 2) := by decide +kernel
theorem dX10_heard_29 : decode cX10_heard 29 = .ok (.invokestatic 202, 3) := by decide +kernel
theorem dX10_heard_32 : decode cX10_heard 32 = .ok (.ifCond .eq 13, 3) := by decide +kernel
theorem dX10_heard_35 : decode cX10_heard 35 = .ok (.aload_n 0, 1) := by decide +kernel
theorem dX10_heard_36 : decode cX10_heard 36 = .ok (.getfield 42, 3) := by decide +kernel
theorem dX10_heard_39 : decode cX10_heard 39 = .ok (.getfield 222, 3) := by decide +kernel
theorem dX10_heard_42 : decode cX10_heard 42 = .ok (.ifCond .ne 7, 3) := by decide +kernel
theorem dX10_heard_45 : decode cX10_heard 45 = .ok (.ldc2_w 196, 3) := by decide +kernel
theorem dX10_heard_48 : decode cX10_heard 48 = .ok (.lreturn, 1) := by decide +kernel
theorem dX10_heard_49 : decode cX10_heard 49 = .ok (.aload_n 0, 1) := by decide +kernel
theorem dX10_heard_50 : decode cX10_heard 50 = .ok (.getfield 51, 3) := by decide +kernel
theorem dX10_heard_53 : decode cX10_heard 53 = .ok (.aload_n 0, 1) := by decide +kernel
theorem dX10_heard_54 : decode cX10_heard 54 = .ok (.getfield 35, 3) := by decide +kernel
theorem dX10_heard_57 : decode cX10_heard 57 = .ok (.getfield 164, 3) := by decide +kernel
theorem dX10_heard_60 : decode cX10_heard 60 = .ok (.iload_n 1, 1) := by decide +kernel
theorem dX10_heard_61 : decode cX10_heard 61 = .ok (.iaload, 1) := by decide +kernel
theorem dX10_heard_62 : decode cX10_heard 62 = .ok (.aload_n 0, 1) := by decide +kernel
theorem dX10_heard_63 : decode cX10_heard 63 = .ok (.getfield 35, 3) := by decide +kernel
theorem dX10_heard_66 : decode cX10_heard 66 = .ok (.getfield 168, 3) := by decide +kernel
theorem dX10_heard_69 : decode cX10_heard 69 = .ok (.iload_n 1, 1) := by decide +kernel
theorem dX10_heard_70 : decode cX10_heard 70 = .ok (.iaload, 1) := by decide +kernel
theorem dX10_heard_71 : decode cX10_heard 71 = .ok (.invokevirtual 229, 3) := by decide +kernel
theorem dX10_heard_74 : decode cX10_heard 74 = .ok (.iload_n 3, 1) := by decide +kernel
theorem dX10_heard_75 : decode cX10_heard 75 = .ok (.aload_n 0, 1) := by decide +kernel
theorem dX10_heard_76 : decode cX10_heard 76 = .ok (.getfield 28, 3) := by decide +kernel
theorem dX10_heard_79 : decode cX10_heard 79 = .ok (.getfield 128, 3) := by decide +kernel
theorem dX10_heard_82 : decode cX10_heard 82 = .ok (.if_icmp .ne 14, 3) := by decide +kernel
theorem dX10_heard_85 : decode cX10_heard 85 = .ok (.aload_n 0, 1) := by decide +kernel
theorem dX10_heard_86 : decode cX10_heard 86 = .ok (.getfield 51, 3) := by decide +kernel
theorem dX10_heard_89 : decode cX10_heard 89 = .ok (.iload_n 2, 1) := by decide +kernel
theorem dX10_heard_90 : decode cX10_heard 90 = .ok (.invokevirtual 233, 3) := by decide +kernel
theorem dX10_heard_93 : decode cX10_heard 93 = .ok (.goto 12, 3) := by decide +kernel
theorem dX10_heard_96 : decode cX10_heard 96 = .ok (.aload_n 0, 1) := by decide +kernel
theorem dX10_heard_97 : decode cX10_heard 97 = .ok (.getfield 51, 3) := by decide +kernel
theorem dX10_heard_100 : decode cX10_heard 100 = .ok (.iload_n 2, 1) := by decide +kernel
theorem dX10_heard_101 : decode cX10_heard 101 = .ok (.iload_n 3, 1) := by decide +kernel
theorem dX10_heard_102 : decode cX10_heard 102 = .ok (.invokevirtual 236, 3) := by decide +kernel
theorem dX10_heard_105 : decode cX10_heard 105 = .ok (.istore 5, 2) := by decide +kernel
theorem dX10_heard_107 : decode cX10_heard 107 = .ok (.iload 5, 2) := by decide +kernel
theorem dX10_heard_109 : decode cX10_heard 109 = .ok (.i2l, 1) := by decide +kernel
theorem dX10_heard_110 : decode cX10_heard 110 = .ok (.ldc2_w 239, 3) := by decide +kernel
theorem dX10_heard_113 : decode cX10_heard 113 = .ok (.iload 4, 2) := by decide +kernel
theorem dX10_heard_115 : decode cX10_heard 115 = .ok (.invokestatic 209, 3) := by decide +kernel
theorem dX10_heard_118 : decode cX10_heard 118 = .ok (.lreturn, 1) := by decide +kernel
theorem dX10_reached_0 : decode cX10_reached 0 = .ok (.aload_n 0, 1) := by decide +kernel
theorem dX10_reached_1 : decode cX10_reached 1 = .ok (.iload_n 1, 1) := by decide +kernel
theorem dX10_reached_2 : decode cX10_reached 2 = .ok (.iload_n 2, 1) := by decide +kernel
theorem dX10_reached_3 : decode cX10_reached 3 = .ok (.iload_n 3, 1) := by decide +kernel
theorem dX10_reached_4 : decode cX10_reached 4 = .ok (.iload 4, 2) := by decide +kernel
theorem dX10_reached_6 : decode cX10_reached 6 = .ok (.invokevirtual 241, 3) := by decide +kernel
theorem dX10_reached_9 : decode cX10_reached 9 = .ok (.ifCond .eq 7, 3) := by decide +kernel
theorem dX10_reached_12 : decode cX10_reached 12 = .ok (.ldc2_w 196, 3) := by decide +kernel
theorem dX10_reached_15 : decode cX10_reached 15 = .ok (.lreturn, 1) := by decide +kernel
theorem dX10_reached_16 : decode cX10_reached 16 = .ok (.aload_n 0, 1) := by decide +kernel
theorem dX10_reached_17 : decode cX10_reached 17 = .ok (.getfield 51, 3) := by decide +kernel
theorem dX10_reached_20 : decode cX10_reached 20 = .ok (.aload_n 0, 1) := by decide +kernel
theorem dX10_reached_21 : decode cX10_reached 21 = .ok (.getfield 35, 3) := by decide +kernel
theorem dX10_reached_24 : decode cX10_reached 24 = .ok (.getfield 164, 3) := by decide +kernel
theorem dX10_reached_27 : decode cX10_reached 27 = .ok (.iload_n 1, 1) := by decide +kernel
theorem dX10_reached_28 : decode cX10_reached 28 = .ok (.iaload, 1) := by decide +kernel
theorem dX10_reached_29 : decode cX10_reached 29 = .ok (.aload_n 0, 1) := by decide +kernel
theorem dX10_reached_30 : decode cX10_reached 30 = .ok (.getfield 35, 3) := by decide +kernel
theorem dX10_reached_33 : decode cX10_reached 33 = .ok (.getfield 168, 3) := by decide +kernel
theorem dX10_reached_36 : decode cX10_reached 36 = .ok (.iload_n 1, 1) := by decide +kernel
theorem dX10_reached_37 : decode cX10_reached 37 = .ok (.iaload, 1) := by decide +kernel
theorem dX10_reached_38 : decode cX10_reached 38 = .ok (.invokevirtual 229, 3) := by decide +kernel
theorem dX10_reached_41 : decode cX10_reached 41 = .ok (.aload_n 0, 1) := by decide +kernel
theorem dX10_reached_42 : decode cX10_reached 42 = .ok (.getfield 51, 3) := by decide +kernel
theorem dX10_reached_45 : decode cX10_reached 45 = .ok (.iload_n 2, 1) := by decide +kernel
theorem dX10_reached_46 : decode cX10_reached 46 = .ok (.iload_n 3, 1) := by decide +kernel
theorem dX10_reached_47 : decode cX10_reached 47 = .ok (.invokevirtual 236, 3) := by decide +kernel
theorem dX10_reached_50 : decode cX10_reached 50 = .ok (.istore 5, 2) := by decide +kernel
theorem dX10_reached_52 : decode cX10_reached 52 = .ok (.iload 5, 2) := by decide +kernel
theorem dX10_reached_54 : decode cX10_reached 54 = .ok (.ifCond .ne 9, 3) := by decide +kernel
theorem dX10_reached_57 : decode cX10_reached 57 = .ok (.ldc2_w 196, 3) := by decide +kernel
theorem dX10_reached_60 : decode cX10_reached 60 = .ok (.goto 21, 3) := by decide +kernel
theorem dX10_reached_63 : decode cX10_reached 63 = .ok (.aload_n 0, 1) := by decide +kernel
theorem dX10_reached_64 : decode cX10_reached 64 = .ok (.getfield 51, 3) := by decide +kernel
theorem dX10_reached_67 : decode cX10_reached 67 = .ok (.iload_n 2, 1) := by decide +kernel
theorem dX10_reached_68 : decode cX10_reached 68 = .ok (.iload_n 3, 1) := by decide +kernel
theorem dX10_reached_69 : decode cX10_reached 69 = .ok (.invokevirtual 245, 3) := by decide +kernel
theorem dX10_reached_72 : decode cX10_reached 72 = .ok (.i2l, 1) := by decide +kernel
theorem dX10_reached_73 : decode cX10_reached 73 = .ok (.iload 5, 2) := by decide +kernel
theorem dX10_reached_75 : decode cX10_reached 75 = .ok (.i2l, 1) := by decide +kernel
theorem dX10_reached_76 : decode cX10_reached 76 = .ok (.iload 4, 2) := by decide +kernel
theorem dX10_reached_78 : decode cX10_reached 78 = .ok (.invokestatic 209, 3) := by decide +kernel
theorem dX10_reached_81 : decode cX10_reached 81 = .ok (.lreturn, 1) := by decide +kernel
theorem dX10_said_0 : decode cX10_said 0 = .ok (.aload_n 0, 1) := by decide +kernel
theorem dX10_said_1 : decode cX10_said 1 = .ok (.iload_n 1, 1) := by decide +kernel
theorem dX10_said_2 : decode cX10_said 2 = .ok (.iload_n 2, 1) := by decide +kernel
theorem dX10_said_3 : decode cX10_said 3 = .ok (.iload_n 3, 1) := by decide +kernel
theorem dX10_said_4 : decode cX10_said 4 = .ok (.iload 4, 2) := by decide +kernel
theorem dX10_said_6 : decode cX10_said 6 = .ok (.invokevirtual 241, 3) := by decide +kernel
theorem dX10_said_9 : decode cX10_said 9 = .ok (.ifCond .eq 7, 3) := by decide +kernel
theorem dX10_said_12 : decode cX10_said 12 = .ok (.ldc2_w 196, 3) := by decide +kernel
theorem dX10_said_15 : decode cX10_said 15 = .ok (.lreturn, 1) := by decide +kernel
theorem dX10_said_16 : decode cX10_said 16 = .ok (.aload_n 0, 1) := by decide +kernel
theorem dX10_said_17 : decode cX10_said 17 = .ok (.getfield 51, 3) := by decide +kernel
theorem dX10_said_20 : decode cX10_said 20 = .ok (.aload_n 0, 1) := by decide +kernel
theorem dX10_said_21 : decode cX10_said 21 = .ok (.getfield 35, 3) := by decide +kernel
theorem dX10_said_24 : decode cX10_said 24 = .ok (.getfield 164, 3) := by decide +kernel
theorem dX10_said_27 : decode cX10_said 27 = .ok (.iload_n 1, 1) := by decide +kernel
theorem dX10_said_28 : decode cX10_said 28 = .ok (.iaload, 1) := by decide +kernel
theorem dX10_said_29 : decode cX10_said 29 = .ok (.aload_n 0, 1) := by decide +kernel
theorem dX10_said_30 : decode cX10_said 30 = .ok (.getfield 35, 3) := by decide +kernel
theorem dX10_said_33 : decode cX10_said 33 = .ok (.getfield 168, 3) := by decide +kernel
theorem dX10_said_36 : decode cX10_said 36 = .ok (.iload_n 1, 1) := by decide +kernel
theorem dX10_said_37 : decode cX10_said 37 = .ok (.iaload, 1) := by decide +kernel
theorem dX10_said_38 : decode cX10_said 38 = .ok (.invokevirtual 229, 3) := by decide +kernel
theorem dX10_said_41 : decode cX10_said 41 = .ok (.aload_n 0, 1) := by decide +kernel
theorem dX10_said_42 : decode cX10_said 42 = .ok (.getfield 51, 3) := by decide +kernel
theorem dX10_said_45 : decode cX10_said 45 = .ok (.iload_n 2, 1) := by decide +kernel
theorem dX10_said_46 : decode cX10_said 46 = .ok (.iload_n 3, 1) := by decide +kernel
theorem dX10_said_47 : decode cX10_said 47 = .ok (.invokevirtual 236, 3) := by decide +kernel
theorem dX10_said_50 : decode cX10_said 50 = .ok (.istore 5, 2) := by decide +kernel
theorem dX10_said_52 : decode cX10_said 52 = .ok (.iload 5, 2) := by decide +kernel
theorem dX10_said_54 : decode cX10_said 54 = .ok (.ifCond .ne 9, 3) := by decide +kernel
theorem dX10_said_57 : decode cX10_said 57 = .ok (.ldc2_w 196, 3) := by decide +kernel
theorem dX10_said_60 : decode cX10_said 60 = .ok (.goto 21, 3) := by decide +kernel
theorem dX10_said_63 : decode cX10_said 63 = .ok (.aload_n 0, 1) := by decide +kernel
theorem dX10_said_64 : decode cX10_said 64 = .ok (.getfield 51, 3) := by decide +kernel
theorem dX10_said_67 : decode cX10_said 67 = .ok (.iload_n 2, 1) := by decide +kernel
theorem dX10_said_68 : decode cX10_said 68 = .ok (.iload_n 3, 1) := by decide +kernel
theorem dX10_said_69 : decode cX10_said 69 = .ok (.invokevirtual 248, 3) := by decide +kernel
theorem dX10_said_72 : decode cX10_said 72 = .ok (.i2l, 1) := by decide +kernel
theorem dX10_said_73 : decode cX10_said 73 = .ok (.iload 5, 2) := by decide +kernel
theorem dX10_said_75 : decode cX10_said 75 = .ok (.i2l, 1) := by decide +kernel
theorem dX10_said_76 : decode cX10_said 76 = .ok (.iload 4, 2) := by decide +kernel
theorem dX10_said_78 : decode cX10_said 78 = .ok (.invokestatic 209, 3) := by decide +kernel
theorem dX10_said_81 : decode cX10_said 81 = .ok (.lreturn, 1) := by decide +kernel
theorem dX10_over_0 : decode cX10_over 0 = .ok (.aload_n 0, 1) := by decide +kernel
theorem dX10_over_1 : decode cX10_over 1 = .ok (.getfield 35, 3) := by decide +kernel
theorem dX10_over_4 : decode cX10_over 4 = .ok (.iload_n 1, 1) := by decide +kernel
theorem dX10_over_5 : decode cX10_over 5 = .ok (.invokevirtual 161, 3) := by decide +kernel
theorem dX10_over_8 : decode cX10_over 8 = .ok (.ifCond .eq 28, 3) := by decide +kernel
theorem dX10_over_11 : decode cX10_over 11 = .ok (.aload_n 0, 1) := by decide +kernel
theorem dX10_over_12 : decode cX10_over 12 = .ok (.iload_n 2, 1) := by decide +kernel
theorem dX10_over_13 : decode cX10_over 13 = .ok (.invokevirtual 129, 3) := by decide +kernel
theorem dX10_over_16 : decode cX10_over 16 = .ok (.ifCond .eq 20, 3) := by decide +kernel
theorem dX10_over_19 : decode cX10_over 19 = .ok (.iload_n 3, 1) := by decide +kernel
theorem dX10_over_20 : decode cX10_over 20 = .ok (.invokestatic 202, 3) := by decide +kernel
theorem dX10_over_23 : decode cX10_over 23 = .ok (.ifCond .eq 13, 3) := by decide +kernel
theorem dX10_over_26 : decode cX10_over 26 = .ok (.aload_n 0, 1) := by decide +kernel
theorem dX10_over_27 : decode cX10_over 27 = .ok (.getfield 42, 3) := by decide +kernel
theorem dX10_over_30 : decode cX10_over 30 = .ok (.getfield 222, 3) := by decide +kernel
theorem dX10_over_33 : decode cX10_over 33 = .ok (.ifCond .ne 7, 3) := by decide +kernel
theorem dX10_over_36 : decode cX10_over 36 = .ok (.ldc2_w 196, 3) := by decide +kernel
theorem dX10_over_39 : decode cX10_over 39 = .ok (.lreturn, 1) := by decide +kernel
theorem dX10_over_40 : decode cX10_over 40 = .ok (.aload_n 0, 1) := by decide +kernel
theorem dX10_over_41 : decode cX10_over 41 = .ok (.getfield 51, 3) := by decide +kernel
theorem dX10_over_44 : decode cX10_over 44 = .ok (.aload_n 0, 1) := by decide +kernel
theorem dX10_over_45 : decode cX10_over 45 = .ok (.getfield 35, 3) := by decide +kernel
theorem dX10_over_48 : decode cX10_over 48 = .ok (.getfield 164, 3) := by decide +kernel
theorem dX10_over_51 : decode cX10_over 51 = .ok (.iload_n 1, 1) := by decide +kernel
theorem dX10_over_52 : decode cX10_over 52 = .ok (.iaload, 1) := by decide +kernel
theorem dX10_over_53 : decode cX10_over 53 = .ok (.aload_n 0, 1) := by decide +kernel
theorem dX10_over_54 : decode cX10_over 54 = .ok (.getfield 35, 3) := by decide +kernel
theorem dX10_over_57 : decode cX10_over 57 = .ok (.getfield 168, 3) := by decide +kernel
theorem dX10_over_60 : decode cX10_over 60 = .ok (.iload_n 1, 1) := by decide +kernel
theorem dX10_over_61 : decode cX10_over 61 = .ok (.iaload, 1) := by decide +kernel
theorem dX10_over_62 : decode cX10_over 62 = .ok (.invokevirtual 229, 3) := by decide +kernel
theorem dX10_over_65 : decode cX10_over 65 = .ok (.aload_n 0, 1) := by decide +kernel
theorem dX10_over_66 : decode cX10_over 66 = .ok (.getfield 51, 3) := by decide +kernel
theorem dX10_over_69 : decode cX10_over 69 = .ok (.iload_n 2, 1) := by decide +kernel
theorem dX10_over_70 : decode cX10_over 70 = .ok (.invokevirtual 251, 3) := by decide +kernel
theorem dX10_over_73 : decode cX10_over 73 = .ok (.i2l, 1) := by decide +kernel
theorem dX10_over_74 : decode cX10_over 74 = .ok (.ldc2_w 239, 3) := by decide +kernel
theorem dX10_over_77 : decode cX10_over 77 = .ok (.iload_n 3, 1) := by decide +kernel
theorem dX10_over_78 : decode cX10_over 78 = .ok (.invokestatic 209, 3) := by decide +kernel
theorem dX10_over_81 : decode cX10_over 81 = .ok (.lreturn, 1) := by decide +kernel
theorem dX10_ask_0 : decode cX10_ask 0 = .ok (.aload_n 0, 1) := by decide +kernel
theorem dX10_ask_1 : decode cX10_ask 1 = .ok (.getfield 35, 3) := by decide +kernel
theorem dX10_ask_4 : decode cX10_ask 4 = .ok (.iload_n 1, 1) := by decide +kernel
theorem dX10_ask_5 : decode cX10_ask 5 = .ok (.invokevirtual 161, 3) := by decide +kernel
theorem dX10_ask_8 : decode cX10_ask 8 = .ok (.ifCond .ne 5, 3) := by decide +kernel
theorem dX10_ask_11 : decode cX10_ask 11 = .ok (.iconst (-1), 1) := by decide +kernel
theorem dX10_ask_12 : decode cX10_ask 12 = .ok (.ireturn, 1) := by decide +kernel
theorem dX10_ask_13 : decode cX10_ask 13 = .ok (.iload_n 2, 1) := by decide +kernel
theorem dX10_ask_14 : decode cX10_ask 14 = .ok (.ifCond .lt 16, 3) := by decide +kernel
theorem dX10_ask_17 : decode cX10_ask 17 = .ok (.iload_n 2, 1) := by decide +kernel
theorem dX10_ask_18 : decode cX10_ask 18 = .ok (.iconst 1, 1) := by decide +kernel
theorem dX10_ask_19 : decode cX10_ask 19 = .ok (.aload_n 0, 1) := by decide +kernel
theorem dX10_ask_20 : decode cX10_ask 20 = .ok (.getfield 28, 3) := by decide +kernel
theorem dX10_ask_23 : decode cX10_ask 23 = .ok (.getfield 128, 3) := by decide +kernel
theorem dX10_ask_26 : decode cX10_ask 26 = .ok (.ishl, 1) := by decide +kernel
theorem dX10_ask_27 : decode cX10_ask 27 = .ok (.if_icmp .lt 6, 3) := by decide +kernel
theorem dX10_ask_30 : decode cX10_ask 30 = .ok (.bipush (-2), 2) := by decide +kernel
theorem dX10_ask_32 : decode cX10_ask 32 = .ok (.ireturn, 1) := by decide +kernel
theorem dX10_ask_33 : decode cX10_ask 33 = .ok (.aload_n 0, 1) := by decide +kernel
theorem dX10_ask_34 : decode cX10_ask 34 = .ok (.getfield 42, 3) := by decide +kernel
theorem dX10_ask_37 : decode cX10_ask 37 = .ok (.getfield 222, 3) := by decide +kernel
theorem dX10_ask_40 : decode cX10_ask 40 = .ok (.ifCond .ne 6, 3) := by decide +kernel
theorem dX10_ask_43 : decode cX10_ask 43 = .ok (.bipush (-3), 2) := by decide +kernel
theorem dX10_ask_45 : decode cX10_ask 45 = .ok (.ireturn, 1) := by decide +kernel
theorem dX10_ask_46 : decode cX10_ask 46 = .ok (.aload_n 0, 1) := by decide +kernel
theorem dX10_ask_47 : decode cX10_ask 47 = .ok (.getfield 51, 3) := by decide +kernel
theorem dX10_ask_50 : decode cX10_ask 50 = .ok (.aload_n 0, 1) := by decide +kernel
theorem dX10_ask_51 : decode cX10_ask 51 = .ok (.getfield 35, 3) := by decide +kernel
theorem dX10_ask_54 : decode cX10_ask 54 = .ok (.getfield 164, 3) := by decide +kernel
theorem dX10_ask_57 : decode cX10_ask 57 = .ok (.iload_n 1, 1) := by decide +kernel
theorem dX10_ask_58 : decode cX10_ask 58 = .ok (.iaload, 1) := by decide +kernel
theorem dX10_ask_59 : decode cX10_ask 59 = .ok (.aload_n 0, 1) := by decide +kernel
theorem dX10_ask_60 : decode cX10_ask 60 = .ok (.getfield 35, 3) := by decide +kernel
theorem dX10_ask_63 : decode cX10_ask 63 = .ok (.getfield 168, 3) := by decide +kernel
theorem dX10_ask_66 : decode cX10_ask 66 = .ok (.iload_n 1, 1) := by decide +kernel
theorem dX10_ask_67 : decode cX10_ask 67 = .ok (.iaload, 1) := by decide +kernel
theorem dX10_ask_68 : decode cX10_ask 68 = .ok (.invokevirtual 229, 3) := by decide +kernel
theorem dX10_ask_71 : decode cX10_ask 71 = .ok (.aload_n 0, 1) := by decide +kernel
theorem dX10_ask_72 : decode cX10_ask 72 = .ok (.getfield 51, 3) := by decide +kernel
theorem dX10_ask_75 : decode cX10_ask 75 = .ok (.iload_n 2, 1) := by decide +kernel
theorem dX10_ask_76 : decode cX10_ask 76 = .ok (.invokevirtual 254, 3) := by decide +kernel
theorem dX10_ask_79 : decode cX10_ask 79 = .ok (.ireturn, 1) := by decide +kernel
theorem dX10_turn_0 : decode cX10_turn 0 = .ok (.aload_n 0, 1) := by decide +kernel
theorem dX10_turn_1 : decode cX10_turn 1 = .ok (.getfield 35, 3) := by decide +kernel
theorem dX10_turn_4 : decode cX10_turn 4 = .ok (.iload_n 1, 1) := by decide +kernel
theorem dX10_turn_5 : decode cX10_turn 5 = .ok (.invokevirtual 161, 3) := by decide +kernel
theorem dX10_turn_8 : decode cX10_turn 8 = .ok (.ifCond .eq 19, 3) := by decide +kernel
theorem dX10_turn_11 : decode cX10_turn 11 = .ok (.aload_n 0, 1) := by decide +kernel
theorem dX10_turn_12 : decode cX10_turn 12 = .ok (.iload_n 2, 1) := by decide +kernel
theorem dX10_turn_13 : decode cX10_turn 13 = .ok (.invokevirtual 129, 3) := by decide +kernel
theorem dX10_turn_16 : decode cX10_turn 16 = .ok (.ifCond .eq 11, 3) := by decide +kernel
theorem dX10_turn_19 : decode cX10_turn 19 = .ok (.aload_n 0, 1) := by decide +kernel
theorem dX10_turn_20 : decode cX10_turn 20 = .ok (.iload_n 3, 1) := by decide +kernel
theorem dX10_turn_21 : decode cX10_turn 21 = .ok (.invokevirtual 129, 3) := by decide +kernel
theorem dX10_turn_24 : decode cX10_turn 24 = .ok (.ifCond .ne 5, 3) := by decide +kernel
theorem dX10_turn_27 : decode cX10_turn 27 = .ok (.iconst (-1), 1) := by decide +kernel
theorem dX10_turn_28 : decode cX10_turn 28 = .ok (.ireturn, 1) := by decide +kernel
theorem dX10_turn_29 : decode cX10_turn 29 = .ok (.iload 4, 2) := by decide +kernel
theorem dX10_turn_31 : decode cX10_turn 31 = .ok (.ifCond .lt 23, 3) := by decide +kernel
theorem dX10_turn_34 : decode cX10_turn 34 = .ok (.iload 4, 2) := by decide +kernel
theorem dX10_turn_36 : decode cX10_turn 36 = .ok (.bipush 9, 2) := by decide +kernel
theorem dX10_turn_38 : decode cX10_turn 38 = .ok (.if_icmp .gt 16, 3) := by decide +kernel
theorem dX10_turn_41 : decode cX10_turn 41 = .ok (.iload 5, 2) := by decide +kernel
theorem dX10_turn_43 : decode cX10_turn 43 = .ok (.iconst 1, 1) := by decide +kernel
theorem dX10_turn_44 : decode cX10_turn 44 = .ok (.if_icmp .lt 10, 3) := by decide +kernel
theorem dX10_turn_47 : decode cX10_turn 47 = .ok (.iload 5, 2) := by decide +kernel
theorem dX10_turn_49 : decode cX10_turn 49 = .ok (.bipush 9, 2) := by decide +kernel
theorem dX10_turn_51 : decode cX10_turn 51 = .ok (.if_icmp .le 6, 3) := by decide +kernel
theorem dX10_turn_54 : decode cX10_turn 54 = .ok (.bipush (-2), 2) := by decide +kernel
theorem dX10_turn_56 : decode cX10_turn 56 = .ok (.ireturn, 1) := by decide +kernel
theorem dX10_turn_57 : decode cX10_turn 57 = .ok (.aload_n 0, 1) := by decide +kernel
theorem dX10_turn_58 : decode cX10_turn 58 = .ok (.getfield 42, 3) := by decide +kernel
theorem dX10_turn_61 : decode cX10_turn 61 = .ok (.getfield 222, 3) := by decide +kernel
theorem dX10_turn_64 : decode cX10_turn 64 = .ok (.ifCond .ne 6, 3) := by decide +kernel
theorem dX10_turn_67 : decode cX10_turn 67 = .ok (.bipush (-3), 2) := by decide +kernel
theorem dX10_turn_69 : decode cX10_turn 69 = .ok (.ireturn, 1) := by decide +kernel
theorem dX10_turn_70 : decode cX10_turn 70 = .ok (.aload_n 0, 1) := by decide +kernel
theorem dX10_turn_71 : decode cX10_turn 71 = .ok (.getfield 65, 3) := by decide +kernel
theorem dX10_turn_74 : decode cX10_turn 74 = .ok (.invokevirtual 257, 3) := by decide +kernel
theorem dX10_turn_77 : decode cX10_turn 77 = .ok (.ifCond .eq 6, 3) := by decide +kernel
theorem dX10_turn_80 : decode cX10_turn 80 = .ok (.bipush (-4), 2) := by decide +kernel
theorem dX10_turn_82 : decode cX10_turn 82 = .ok (.ireturn, 1) := by decide +kernel
theorem dX10_turn_83 : decode cX10_turn 83 = .ok (.aload_n 0, 1) := by decide +kernel
theorem dX10_turn_84 : decode cX10_turn 84 = .ok (.getfield 51, 3) := by decide +kernel
theorem dX10_turn_87 : decode cX10_turn 87 = .ok (.aload_n 0, 1) := by decide +kernel
theorem dX10_turn_88 : decode cX10_turn 88 = .ok (.getfield 35, 3) := by decide +kernel
theorem dX10_turn_91 : decode cX10_turn 91 = .ok (.getfield 164, 3) := by decide +kernel
theorem dX10_turn_94 : decode cX10_turn 94 = .ok (.iload_n 1, 1) := by decide +kernel
theorem dX10_turn_95 : decode cX10_turn 95 = .ok (.iaload, 1) := by decide +kernel
theorem dX10_turn_96 : decode cX10_turn 96 = .ok (.aload_n 0, 1) := by decide +kernel
theorem dX10_turn_97 : decode cX10_turn 97 = .ok (.getfield 35, 3) := by decide +kernel
theorem dX10_turn_100 : decode cX10_turn 100 = .ok (.getfield 168, 3) := by decide +kernel
theorem dX10_turn_103 : decode cX10_turn 103 = .ok (.iload_n 1, 1) := by decide +kernel
theorem dX10_turn_104 : decode cX10_turn 104 = .ok (.iaload, 1) := by decide +kernel
theorem dX10_turn_105 : decode cX10_turn 105 = .ok (.invokevirtual 229, 3) := by decide +kernel
theorem dX10_turn_108 : decode cX10_turn 108 = .ok (.aload_n 0, 1) := by decide +kernel
theorem dX10_turn_109 : decode cX10_turn 109 = .ok (.getfield 65, 3) := by decide +kernel
theorem dX10_turn_112 : decode cX10_turn 112 = .ok (.invokevirtual 258, 3) := by decide +kernel
theorem dX10_turn_115 : decode cX10_turn 115 = .ok (.astore 6, 2) := by decide +kernel
theorem dX10_turn_117 : decode cX10_turn 117 = .ok (.aload 6, 2) := by decide +kernel
theorem dX10_turn_119 : decode cX10_turn 119 = .ok (.iconst 0, 1) := by decide +kernel
theorem dX10_turn_120 : decode cX10_turn 120 = .ok (.iload_n 1, 1) := by decide +kernel
theorem dX10_turn_121 : decode cX10_turn 121 = .ok (.iastore, 1) := by decide +kernel
theorem dX10_turn_122 : decode cX10_turn 122 = .ok (.aload 6, 2) := by decide +kernel
theorem dX10_turn_124 : decode cX10_turn 124 = .ok (.iconst 1, 1) := by decide +kernel
theorem dX10_turn_125 : decode cX10_turn 125 = .ok (.iload_n 2, 1) := by decide +kernel
theorem dX10_turn_126 : decode cX10_turn 126 = .ok (.iastore, 1) := by decide +kernel
theorem dX10_turn_127 : decode cX10_turn 127 = .ok (.aload 6, 2) := by decide +kernel
theorem dX10_turn_129 : decode cX10_turn 129 = .ok (.iconst 2, 1) := by decide +kernel
theorem dX10_turn_130 : decode cX10_turn 130 = .ok (.iload_n 3, 1) := by decide +kernel
theorem dX10_turn_131 : decode cX10_turn 131 = .ok (.iastore, 1) := by decide +kernel
theorem dX10_turn_132 : decode cX10_turn 132 = .ok (.aload 6, 2) := by decide +kernel
theorem dX10_turn_134 : decode cX10_turn 134 = .ok (.iconst 3, 1) := by decide +kernel
theorem dX10_turn_135 : decode cX10_turn 135 = .ok (.iload 4, 2) := by decide +kernel
theorem dX10_turn_137 : decode cX10_turn 137 = .ok (.iastore, 1) := by decide +kernel
theorem dX10_turn_138 : decode cX10_turn 138 = .ok (.aload 6, 2) := by decide +kernel
theorem dX10_turn_140 : decode cX10_turn 140 = .ok (.iconst 4, 1) := by decide +kernel
theorem dX10_turn_141 : decode cX10_turn 141 = .ok (.iload 5, 2) := by decide +kernel
theorem dX10_turn_143 : decode cX10_turn 143 = .ok (.iastore, 1) := by decide +kernel
theorem dX10_turn_144 : decode cX10_turn 144 = .ok (.aload 6, 2) := by decide +kernel
theorem dX10_turn_146 : decode cX10_turn 146 = .ok (.iconst 5, 1) := by decide +kernel
theorem dX10_turn_147 : decode cX10_turn 147 = .ok (.aload_n 0, 1) := by decide +kernel
theorem dX10_turn_148 : decode cX10_turn 148 = .ok (.getfield 51, 3) := by decide +kernel
theorem dX10_turn_151 : decode cX10_turn 151 = .ok (.iload_n 2, 1) := by decide +kernel
theorem dX10_turn_152 : decode cX10_turn 152 = .ok (.iload_n 3, 1) := by decide +kernel
theorem dX10_turn_153 : decode cX10_turn 153 = .ok (.invokevirtual 262, 3) := by decide +kernel
theorem dX10_turn_156 : decode cX10_turn 156 = .ok (.iastore, 1) := by decide +kernel
theorem dX10_turn_157 : decode cX10_turn 157 = .ok (.aload_n 0, 1) := by decide +kernel
theorem dX10_turn_158 : decode cX10_turn 158 = .ok (.getfield 65, 3) := by decide +kernel
theorem dX10_turn_161 : decode cX10_turn 161 = .ok (.invokevirtual 265, 3) := by decide +kernel
theorem dX10_turn_164 : decode cX10_turn 164 = .ok (.ireturn, 1) := by decide +kernel
theorem dX10_ofTurn_0 : decode cX10_ofTurn 0 = .ok (.iload_n 1, 1) := by decide +kernel
theorem dX10_ofTurn_1 : decode cX10_ofTurn 1 = .ok (.ifCond .lt 14, 3) := by decide +kernel
theorem dX10_ofTurn_4 : decode cX10_ofTurn 4 = .ok (.iload_n 1, 1) := by decide +kernel
theorem dX10_ofTurn_5 : decode cX10_ofTurn 5 = .ok (.aload_n 0, 1) := by decide +kernel
theorem dX10_ofTurn_6 : decode cX10_ofTurn 6 = .ok (.getfield 65, 3) := by decide +kernel
theorem dX10_ofTurn_9 : decode cX10_ofTurn 9 = .ok (.getfield 268, 3) := by decide +kernel
theorem dX10_ofTurn_12 : decode cX10_ofTurn 12 = .ok (.if_icmp .lt 5, 3) := by decide +kernel
theorem dX10_ofTurn_15 : decode cX10_ofTurn 15 = .ok (.iconst (-1), 1) := by decide +kernel
theorem dX10_ofTurn_16 : decode cX10_ofTurn 16 = .ok (.ireturn, 1) := by decide +kernel
theorem dX10_ofTurn_17 : decode cX10_ofTurn 17 = .ok (.iload_n 2, 1) := by decide +kernel
theorem dX10_ofTurn_18 : decode cX10_ofTurn 18 = .ok (.ifCond .lt 9, 3) := by decide +kernel
theorem dX10_ofTurn_21 : decode cX10_ofTurn 21 = .ok (.iload_n 2, 1) := by decide +kernel
theorem dX10_ofTurn_22 : decode cX10_ofTurn 22 = .ok (.bipush 6, 2) := by decide +kernel
theorem dX10_ofTurn_24 : decode cX10_ofTurn 24 = .ok (.if_icmp .lt 8, 3) := by decide +kernel
theorem dX10_ofTurn_27 : decode cX10_ofTurn 27 = .ok (.bipush (-2), 2) := by decide +kernel
theorem dX10_ofTurn_29 : decode cX10_ofTurn 29 = .ok (.goto 14, 3) := by decide +kernel
theorem dX10_ofTurn_32 : decode cX10_ofTurn 32 = .ok (.aload_n 0, 1) := by decide +kernel
theorem dX10_ofTurn_33 : decode cX10_ofTurn 33 = .ok (.getfield 65, 3) := by decide +kernel
theorem dX10_ofTurn_36 : decode cX10_ofTurn 36 = .ok (.getfield 271, 3) := by decide +kernel
theorem dX10_ofTurn_39 : decode cX10_ofTurn 39 = .ok (.iload_n 1, 1) := by decide +kernel
theorem dX10_ofTurn_40 : decode cX10_ofTurn 40 = .ok (.aaload, 1) := by decide +kernel
theorem dX10_ofTurn_41 : decode cX10_ofTurn 41 = .ok (.iload_n 2, 1) := by decide +kernel
theorem dX10_ofTurn_42 : decode cX10_ofTurn 42 = .ok (.iaload, 1) := by decide +kernel
theorem dX10_ofTurn_43 : decode cX10_ofTurn 43 = .ok (.ireturn, 1) := by decide +kernel
theorem dX10_back_0 : decode cX10_back 0 = .ok (.iload_n 1, 1) := by decide +kernel
theorem dX10_back_1 : decode cX10_back 1 = .ok (.ifCond .lt 14, 3) := by decide +kernel
theorem dX10_back_4 : decode cX10_back 4 = .ok (.iload_n 1, 1) := by decide +kernel
theorem dX10_back_5 : decode cX10_back 5 = .ok (.aload_n 0, 1) := by decide +kernel
theorem dX10_back_6 : decode cX10_back 6 = .ok (.getfield 65, 3) := by decide +kernel
theorem dX10_back_9 : decode cX10_back 9 = .ok (.getfield 268, 3) := by decide +kernel
theorem dX10_back_12 : decode cX10_back 12 = .ok (.if_icmp .le 6, 3) := by decide +kernel
theorem dX10_back_15 : decode cX10_back 15 = .ok (.bipush (-2), 2) := by decide +kernel
theorem dX10_back_17 : decode cX10_back 17 = .ok (.ireturn, 1) := by decide +kernel
theorem dX10_back_18 : decode cX10_back 18 = .ok (.aload_n 0, 1) := by decide +kernel
theorem dX10_back_19 : decode cX10_back 19 = .ok (.getfield 65, 3) := by decide +kernel
theorem dX10_back_22 : decode cX10_back 22 = .ok (.dup, 1) := by decide +kernel
theorem dX10_back_23 : decode cX10_back 23 = .ok (.getfield 268, 3) := by decide +kernel
theorem dX10_back_26 : decode cX10_back 26 = .ok (.iload_n 1, 1) := by decide +kernel
theorem dX10_back_27 : decode cX10_back 27 = .ok (.isub, 1) := by decide +kernel
theorem dX10_back_28 : decode cX10_back 28 = .ok (.putfield 268, 3) := by decide +kernel
theorem dX10_back_31 : decode cX10_back 31 = .ok (.aload_n 0, 1) := by decide +kernel
theorem dX10_back_32 : decode cX10_back 32 = .ok (.getfield 65, 3) := by decide +kernel
theorem dX10_back_35 : decode cX10_back 35 = .ok (.getfield 268, 3) := by decide +kernel
theorem dX10_back_38 : decode cX10_back 38 = .ok (.ireturn, 1) := by decide +kernel
theorem dX10_wrong_0 : decode cX10_wrong 0 = .ok (.iload_n 1, 1) := by decide +kernel
theorem dX10_wrong_1 : decode cX10_wrong 1 = .ok (.ifCond .lt 16, 3) := by decide +kernel
theorem dX10_wrong_4 : decode cX10_wrong 4 = .ok (.iload_n 1, 1) := by decide +kernel
theorem dX10_wrong_5 : decode cX10_wrong 5 = .ok (.bipush 7, 2) := by decide +kernel
theorem dX10_wrong_7 : decode cX10_wrong 7 = .ok (.if_icmp .gt 10, 3) := by decide +kernel
theorem dX10_wrong_10 : decode cX10_wrong 10 = .ok (.iload_n 2, 1) := by decide +kernel
theorem dX10_wrong_11 : decode cX10_wrong 11 = .ok (.invokestatic 202, 3) := by decide +kernel
theorem dX10_wrong_14 : decode cX10_wrong 14 = .ok (.ifCond .ne 7, 3) := by decide +kernel
theorem dX10_wrong_17 : decode cX10_wrong 17 = .ok (.ldc2_w 196, 3) := by decide +kernel
theorem dX10_wrong_20 : decode cX10_wrong 20 = .ok (.lreturn, 1) := by decide +kernel
theorem dX10_wrong_21 : decode cX10_wrong 21 = .ok (.aload_n 0, 1) := by decide +kernel
theorem dX10_wrong_22 : decode cX10_wrong 22 = .ok (.getfield 65, 3) := by decide +kernel
theorem dX10_wrong_25 : decode cX10_wrong 25 = .ok (.invokevirtual 274, 3) := by decide +kernel
theorem dX10_wrong_28 : decode cX10_wrong 28 = .ok (.aload_n 0, 1) := by decide +kernel
theorem dX10_wrong_29 : decode cX10_wrong 29 = .ok (.getfield 65, 3) := by decide +kernel
theorem dX10_wrong_32 : decode cX10_wrong 32 = .ok (.iload_n 1, 1) := by decide +kernel
theorem dX10_wrong_33 : decode cX10_wrong 33 = .ok (.invokevirtual 277, 3) := by decide +kernel
theorem dX10_wrong_36 : decode cX10_wrong 36 = .ok (.aload_n 0, 1) := by decide +kernel
theorem dX10_wrong_37 : decode cX10_wrong 37 = .ok (.getfield 65, 3) := by decide +kernel
theorem dX10_wrong_40 : decode cX10_wrong 40 = .ok (.getfield 281, 3) := by decide +kernel
theorem dX10_wrong_43 : decode cX10_wrong 43 = .ok (.iload_n 2, 1) := by decide +kernel
theorem dX10_wrong_44 : decode cX10_wrong 44 = .ok (.invokestatic 209, 3) := by decide +kernel
theorem dX10_wrong_47 : decode cX10_wrong 47 = .ok (.lreturn, 1) := by decide +kernel
theorem dX10_again_0 : decode cX10_again 0 = .ok (.iload_n 1, 1) := by decide +kernel
theorem dX10_again_1 : decode cX10_again 1 = .ok (.ifCond .lt 9, 3) := by decide +kernel
theorem dX10_again_4 : decode cX10_again 4 = .ok (.iload_n 1, 1) := by decide +kernel
theorem dX10_again_5 : decode cX10_again 5 = .ok (.bipush 60, 2) := by decide +kernel
theorem dX10_again_7 : decode cX10_again 7 = .ok (.if_icmp .le 8, 3) := by decide +kernel
theorem dX10_again_10 : decode cX10_again 10 = .ok (.bipush (-2), 2) := by decide +kernel
theorem dX10_again_12 : decode cX10_again 12 = .ok (.goto 11, 3) := by decide +kernel
theorem dX10_again_15 : decode cX10_again 15 = .ok (.aload_n 0, 1) := by decide +kernel
theorem dX10_again_16 : decode cX10_again 16 = .ok (.getfield 65, 3) := by decide +kernel
theorem dX10_again_19 : decode cX10_again 19 = .ok (.iload_n 1, 1) := by decide +kernel
theorem dX10_again_20 : decode cX10_again 20 = .ok (.invokevirtual 282, 3) := by decide +kernel
theorem dX10_again_23 : decode cX10_again 23 = .ok (.ireturn, 1) := by decide +kernel
theorem dX10_shifts_0 : decode cX10_shifts 0 = .ok (.aload_n 0, 1) := by decide +kernel
theorem dX10_shifts_1 : decode cX10_shifts 1 = .ok (.getfield 35, 3) := by decide +kernel
theorem dX10_shifts_4 : decode cX10_shifts 4 = .ok (.iload_n 1, 1) := by decide +kernel
theorem dX10_shifts_5 : decode cX10_shifts 5 = .ok (.invokevirtual 161, 3) := by decide +kernel
theorem dX10_shifts_8 : decode cX10_shifts 8 = .ok (.ifCond .eq 19, 3) := by decide +kernel
theorem dX10_shifts_11 : decode cX10_shifts 11 = .ok (.aload_n 0, 1) := by decide +kernel
theorem dX10_shifts_12 : decode cX10_shifts 12 = .ok (.getfield 35, 3) := by decide +kernel
theorem dX10_shifts_15 : decode cX10_shifts 15 = .ok (.iload_n 2, 1) := by decide +kernel
theorem dX10_shifts_16 : decode cX10_shifts 16 = .ok (.invokevirtual 161, 3) := by decide +kernel
theorem dX10_shifts_19 : decode cX10_shifts 19 = .ok (.ifCond .eq 8, 3) := by decide +kernel
theorem dX10_shifts_22 : decode cX10_shifts 22 = .ok (.iload_n 1, 1) := by decide +kernel
theorem dX10_shifts_23 : decode cX10_shifts 23 = .ok (.iload_n 2, 1) := by decide +kernel
theorem dX10_shifts_24 : decode cX10_shifts 24 = .ok (.if_icmp .ne 5, 3) := by decide +kernel
theorem dX10_shifts_27 : decode cX10_shifts 27 = .ok (.iconst (-1), 1) := by decide +kernel
theorem dX10_shifts_28 : decode cX10_shifts 28 = .ok (.ireturn, 1) := by decide +kernel
theorem dX10_shifts_29 : decode cX10_shifts 29 = .ok (.iload_n 3, 1) := by decide +kernel
theorem dX10_shifts_30 : decode cX10_shifts 30 = .ok (.iconst 1, 1) := by decide +kernel
theorem dX10_shifts_31 : decode cX10_shifts 31 = .ok (.if_icmp .lt 21, 3) := by decide +kernel
theorem dX10_shifts_34 : decode cX10_shifts 34 = .ok (.iload_n 3, 1) := by decide +kernel
theorem dX10_shifts_35 : decode cX10_shifts 35 = .ok (.bipush 40, 2) := by decide +kernel
theorem dX10_shifts_37 : decode cX10_shifts 37 = .ok (.if_icmp .gt 15, 3) := by decide +kernel
theorem dX10_shifts_40 : decode cX10_shifts 40 = .ok (.iload 4, 2) := by decide +kernel
theorem dX10_shifts_42 : decode cX10_shifts 42 = .ok (.ifCond .lt 10, 3) := by decide +kernel
theorem dX10_shifts_45 : decode cX10_shifts 45 = .ok (.iload 4, 2) := by decide +kernel
theorem dX10_shifts_47 : decode cX10_shifts 47 = .ok (.bipush 9, 2) := by decide +kernel
theorem dX10_shifts_49 : decode cX10_shifts 49 = .ok (.if_icmp .le 6, 3) := by decide +kernel
theorem dX10_shifts_52 : decode cX10_shifts 52 = .ok (.bipush (-2), 2) := by decide +kernel
theorem dX10_shifts_54 : decode cX10_shifts 54 = .ok (.ireturn, 1) := by decide +kernel
theorem dX10_shifts_55 : decode cX10_shifts 55 = .ok (.iload 5, 2) := by decide +kernel
theorem dX10_shifts_57 : decode cX10_shifts 57 = .ok (.iconst (-1), 1) := by decide +kernel
theorem dX10_shifts_58 : decode cX10_shifts 58 = .ok (.if_icmp .lt 9, 3) := by decide +kernel
theorem dX10_shifts_61 : decode cX10_shifts 61 = .ok (.iload 5, 2) := by decide +kernel
theorem dX10_shifts_63 : decode cX10_shifts 63 = .ok (.iload_n 3, 1) := by decide +kernel
theorem dX10_shifts_64 : decode cX10_shifts 64 = .ok (.if_icmp .lt 5, 3) := by decide +kernel
theorem dX10_shifts_67 : decode cX10_shifts 67 = .ok (.iconst (-1), 1) := by decide +kernel
theorem dX10_shifts_68 : decode cX10_shifts 68 = .ok (.ireturn, 1) := by decide +kernel
theorem dX10_shifts_69 : decode cX10_shifts 69 = .ok (.aload_n 0, 1) := by decide +kernel
theorem dX10_shifts_70 : decode cX10_shifts 70 = .ok (.getfield 72, 3) := by decide +kernel
theorem dX10_shifts_73 : decode cX10_shifts 73 = .ok (.aload_n 0, 1) := by decide +kernel
theorem dX10_shifts_74 : decode cX10_shifts 74 = .ok (.getfield 35, 3) := by decide +kernel
theorem dX10_shifts_77 : decode cX10_shifts 77 = .ok (.getfield 168, 3) := by decide +kernel
theorem dX10_shifts_80 : decode cX10_shifts 80 = .ok (.iload_n 1, 1) := by decide +kernel
theorem dX10_shifts_81 : decode cX10_shifts 81 = .ok (.iaload, 1) := by decide +kernel
theorem dX10_shifts_82 : decode cX10_shifts 82 = .ok (.aload_n 0, 1) := by decide +kernel
theorem dX10_shifts_83 : decode cX10_shifts 83 = .ok (.getfield 35, 3) := by decide +kernel
theorem dX10_shifts_86 : decode cX10_shifts 86 = .ok (.getfield 168, 3) := by decide +kernel
theorem dX10_shifts_89 : decode cX10_shifts 89 = .ok (.iload_n 2, 1) := by decide +kernel
theorem dX10_shifts_90 : decode cX10_shifts 90 = .ok (.iaload, 1) := by decide +kernel
theorem dX10_shifts_91 : decode cX10_shifts 91 = .ok (.iload_n 3, 1) := by decide +kernel
theorem dX10_shifts_92 : decode cX10_shifts 92 = .ok (.iload 4, 2) := by decide +kernel
theorem dX10_shifts_94 : decode cX10_shifts 94 = .ok (.invokevirtual 285, 3) := by decide +kernel
theorem dX10_shifts_97 : decode cX10_shifts 97 = .ok (.iload 5, 2) := by decide +kernel
theorem dX10_shifts_99 : decode cX10_shifts 99 = .ok (.iconst (-1), 1) := by decide +kernel
theorem dX10_shifts_100 : decode cX10_shifts 100 = .ok (.if_icmp .ne 13, 3) := by decide +kernel
theorem dX10_shifts_103 : decode cX10_shifts 103 = .ok (.aload_n 0, 1) := by decide +kernel
theorem dX10_shifts_104 : decode cX10_shifts 104 = .ok (.getfield 72, 3) := by decide +kernel
theorem dX10_shifts_107 : decode cX10_shifts 107 = .ok (.invokevirtual 289, 3) := by decide +kernel
theorem dX10_shifts_110 : decode cX10_shifts 110 = .ok (.goto 13, 3) := by decide +kernel
theorem dX10_shifts_113 : decode cX10_shifts 113 = .ok (.aload_n 0, 1) := by decide +kernel
theorem dX10_shifts_114 : decode cX10_shifts 114 = .ok (.getfield 72, 3) := by decide +kernel
theorem dX10_shifts_117 : decode cX10_shifts 117 = .ok (.iload 5, 2) := by decide +kernel
theorem dX10_shifts_119 : decode cX10_shifts 119 = .ok (.iload_n 3, 1) := by decide +kernel
theorem dX10_shifts_120 : decode cX10_shifts 120 = .ok (.invokevirtual 292, 3) := by decide +kernel
theorem dX10_shifts_123 : decode cX10_shifts 123 = .ok (.ireturn, 1) := by decide +kernel
theorem dX10_booth_0 : decode cX10_booth 0 = .ok (.aload_n 0, 1) := by decide +kernel
theorem dX10_booth_1 : decode cX10_booth 1 = .ok (.iload_n 1, 1) := by decide +kernel
theorem dX10_booth_2 : decode cX10_booth 2 = .ok (.iload_n 2, 1) := by decide +kernel
theorem dX10_booth_3 : decode cX10_booth 3 = .ok (.invokevirtual 83, 3) := by decide +kernel
theorem dX10_booth_6 : decode cX10_booth 6 = .ok (.istore 6, 2) := by decide +kernel
theorem dX10_booth_8 : decode cX10_booth 8 = .ok (.iload 6, 2) := by decide +kernel
theorem dX10_booth_10 : decode cX10_booth 10 = .ok (.ifCond .eq 6, 3) := by decide +kernel
theorem dX10_booth_13 : decode cX10_booth 13 = .ok (.iload 6, 2) := by decide +kernel
theorem dX10_booth_15 : decode cX10_booth 15 = .ok (.ireturn, 1) := by decide +kernel
theorem dX10_booth_16 : decode cX10_booth 16 = .ok (.iload 5, 2) := by decide +kernel
theorem dX10_booth_18 : decode cX10_booth 18 = .ok (.ifCond .lt 9, 3) := by decide +kernel
theorem dX10_booth_21 : decode cX10_booth 21 = .ok (.iload 5, 2) := by decide +kernel
theorem dX10_booth_23 : decode cX10_booth 23 = .ok (.iconst 2, 1) := by decide +kernel
theorem dX10_booth_24 : decode cX10_booth 24 = .ok (.if_icmp .le 6, 3) := by decide +kernel
theorem dX10_booth_27 : decode cX10_booth 27 = .ok (.bipush (-2), 2) := by decide +kernel
theorem dX10_booth_29 : decode cX10_booth 29 = .ok (.ireturn, 1) := by decide +kernel
theorem dX10_booth_30 : decode cX10_booth 30 = .ok (.aload_n 0, 1) := by decide +kernel
theorem dX10_booth_31 : decode cX10_booth 31 = .ok (.aload_n 0, 1) := by decide +kernel
theorem dX10_booth_32 : decode cX10_booth 32 = .ok (.getfield 14, 3) := by decide +kernel
theorem dX10_booth_35 : decode cX10_booth 35 = .ok (.iload_n 1, 1) := by decide +kernel
theorem dX10_booth_36 : decode cX10_booth 36 = .ok (.iload_n 2, 1) := by decide +kernel
theorem dX10_booth_37 : decode cX10_booth 37 = .ok (.iload_n 3, 1) := by decide +kernel
theorem dX10_booth_38 : decode cX10_booth 38 = .ok (.iload 4, 2) := by decide +kernel
theorem dX10_booth_40 : decode cX10_booth 40 = .ok (.invokevirtual 87, 3) := by decide +kernel
theorem dX10_booth_43 : decode cX10_booth 43 = .ok (.invokevirtual 91, 3) := by decide +kernel
theorem dX10_booth_46 : decode cX10_booth 46 = .ok (.istore 7, 2) := by decide +kernel
theorem dX10_booth_48 : decode cX10_booth 48 = .ok (.iload 7, 2) := by decide +kernel
theorem dX10_booth_50 : decode cX10_booth 50 = .ok (.ifCond .eq 6, 3) := by decide +kernel
theorem dX10_booth_53 : decode cX10_booth 53 = .ok (.iload 7, 2) := by decide +kernel
theorem dX10_booth_55 : decode cX10_booth 55 = .ok (.ireturn, 1) := by decide +kernel
theorem dX10_booth_56 : decode cX10_booth 56 = .ok (.iload 4, 2) := by decide +kernel
theorem dX10_booth_58 : decode cX10_booth 58 = .ok (.iconst 1, 1) := by decide +kernel
theorem dX10_booth_59 : decode cX10_booth 59 = .ok (.if_icmp .lt 28, 3) := by decide +kernel
theorem dX10_booth_62 : decode cX10_booth 62 = .ok (.iload 4, 2) := by decide +kernel
theorem dX10_booth_64 : decode cX10_booth 64 = .ok (.bipush 9, 2) := by decide +kernel
theorem dX10_booth_66 : decode cX10_booth 66 = .ok (.if_icmp .gt 21, 3) := by decide +kernel
theorem dX10_booth_69 : decode cX10_booth 69 = .ok (.aload_n 0, 1) := by decide +kernel
theorem dX10_booth_70 : decode cX10_booth 70 = .ok (.getfield 14, 3) := by decide +kernel
theorem dX10_booth_73 : decode cX10_booth 73 = .ok (.getfield 95, 3) := by decide +kernel
theorem dX10_booth_76 : decode cX10_booth 76 = .ok (.iload_n 1, 1) := by decide +kernel
theorem dX10_booth_77 : decode cX10_booth 77 = .ok (.aaload, 1) := by decide +kernel
theorem dX10_booth_78 : decode cX10_booth 78 = .ok (.iload_n 3, 1) := by decide +kernel
theorem dX10_booth_79 : decode cX10_booth 79 = .ok (.iload 4, 2) := by decide +kernel
theorem dX10_booth_81 : decode cX10_booth 81 = .ok (.invokestatic 295, 3) := by decide +kernel
theorem dX10_booth_84 : decode cX10_booth 84 = .ok (.ifCond .ne 6, 3) := by decide +kernel
theorem dX10_booth_87 : decode cX10_booth 87 = .ok (.bipush (-2), 2) := by decide +kernel
theorem dX10_booth_89 : decode cX10_booth 89 = .ok (.ireturn, 1) := by decide +kernel
theorem dX10_booth_90 : decode cX10_booth 90 = .ok (.aload_n 0, 1) := by decide +kernel
theorem dX10_booth_91 : decode cX10_booth 91 = .ok (.getfield 79, 3) := by decide +kernel
theorem dX10_booth_94 : decode cX10_booth 94 = .ok (.aload_n 0, 1) := by decide +kernel
theorem dX10_booth_95 : decode cX10_booth 95 = .ok (.getfield 14, 3) := by decide +kernel
theorem dX10_booth_98 : decode cX10_booth 98 = .ok (.getfield 95, 3) := by decide +kernel
theorem dX10_booth_101 : decode cX10_booth 101 = .ok (.iload_n 1, 1) := by decide +kernel
theorem dX10_booth_102 : decode cX10_booth 102 = .ok (.aaload, 1) := by decide +kernel
theorem dX10_booth_103 : decode cX10_booth 103 = .ok (.iload_n 3, 1) := by decide +kernel
theorem dX10_booth_104 : decode cX10_booth 104 = .ok (.iload 4, 2) := by decide +kernel
theorem dX10_booth_106 : decode cX10_booth 106 = .ok (.invokevirtual 298, 3) := by decide +kernel
theorem dX10_booth_109 : decode cX10_booth 109 = .ok (.iload 5, 2) := by decide +kernel
theorem dX10_booth_111 : decode cX10_booth 111 = .ok (.ifCond .ne 13, 3) := by decide +kernel
theorem dX10_booth_114 : decode cX10_booth 114 = .ok (.aload_n 0, 1) := by decide +kernel
theorem dX10_booth_115 : decode cX10_booth 115 = .ok (.getfield 79, 3) := by decide +kernel
theorem dX10_booth_118 : decode cX10_booth 118 = .ok (.getfield 301, 3) := by decide +kernel
theorem dX10_booth_121 : decode cX10_booth 121 = .ok (.goto 26, 3) := by decide +kernel
theorem dX10_booth_124 : decode cX10_booth 124 = .ok (.iload 5, 2) := by decide +kernel
theorem dX10_booth_126 : decode cX10_booth 126 = .ok (.iconst 1, 1) := by decide +kernel
theorem dX10_booth_127 : decode cX10_booth 127 = .ok (.if_icmp .ne 13, 3) := by decide +kernel
theorem dX10_booth_130 : decode cX10_booth 130 = .ok (.aload_n 0, 1) := by decide +kernel
theorem dX10_booth_131 : decode cX10_booth 131 = .ok (.getfield 79, 3) := by decide +kernel
theorem dX10_booth_134 : decode cX10_booth 134 = .ok (.getfield 304, 3) := by decide +kernel
theorem dX10_booth_137 : decode cX10_booth 137 = .ok (.goto 10, 3) := by decide +kernel
theorem dX10_booth_140 : decode cX10_booth 140 = .ok (.aload_n 0, 1) := by decide +kernel
theorem dX10_booth_141 : decode cX10_booth 141 = .ok (.getfield 79, 3) := by decide +kernel
theorem dX10_booth_144 : decode cX10_booth 144 = .ok (.getfield 307, 3) := by decide +kernel
theorem dX10_booth_147 : decode cX10_booth 147 = .ok (.ireturn, 1) := by decide +kernel
theorem dX10_sheet_0 : decode cX10_sheet 0 = .ok (.aload_n 0, 1) := by decide +kernel
theorem dX10_sheet_1 : decode cX10_sheet 1 = .ok (.iload_n 1, 1) := by decide +kernel
theorem dX10_sheet_2 : decode cX10_sheet 2 = .ok (.iload_n 2, 1) := by decide +kernel
theorem dX10_sheet_3 : decode cX10_sheet 3 = .ok (.invokevirtual 83, 3) := by decide +kernel
theorem dX10_sheet_6 : decode cX10_sheet 6 = .ok (.istore 4, 2) := by decide +kernel
theorem dX10_sheet_8 : decode cX10_sheet 8 = .ok (.iload 4, 2) := by decide +kernel
theorem dX10_sheet_10 : decode cX10_sheet 10 = .ok (.ifCond .eq 6, 3) := by decide +kernel
theorem dX10_sheet_13 : decode cX10_sheet 13 = .ok (.iload 4, 2) := by decide +kernel
theorem dX10_sheet_15 : decode cX10_sheet 15 = .ok (.ireturn, 1) := by decide +kernel
theorem dX10_sheet_16 : decode cX10_sheet 16 = .ok (.iload_n 3, 1) := by decide +kernel
theorem dX10_sheet_17 : decode cX10_sheet 17 = .ok (.bipush 120, 2) := by decide +kernel
theorem dX10_sheet_19 : decode cX10_sheet 19 = .ok (.if_icmp .le 6, 3) := by decide +kernel
theorem dX10_sheet_22 : decode cX10_sheet 22 = .ok (.bipush (-2), 2) := by decide +kernel
theorem dX10_sheet_24 : decode cX10_sheet 24 = .ok (.ireturn, 1) := by decide +kernel
theorem dX10_sheet_25 : decode cX10_sheet 25 = .ok (.iload_n 3, 1) := by decide +kernel
theorem dX10_sheet_26 : decode cX10_sheet 26 = .ok (.ifCond .ge 9, 3) := by decide +kernel
theorem dX10_sheet_29 : decode cX10_sheet 29 = .ok (.aload_n 0, 1) := by decide +kernel
theorem dX10_sheet_30 : decode cX10_sheet 30 = .ok (.iconst 4, 1) := by decide +kernel
theorem dX10_sheet_31 : decode cX10_sheet 31 = .ok (.invokevirtual 91, 3) := by decide +kernel
theorem dX10_sheet_34 : decode cX10_sheet 34 = .ok (.ireturn, 1) := by decide +kernel
theorem dX10_sheet_35 : decode cX10_sheet 35 = .ok (.aload_n 0, 1) := by decide +kernel
theorem dX10_sheet_36 : decode cX10_sheet 36 = .ok (.getfield 14, 3) := by decide +kernel
theorem dX10_sheet_39 : decode cX10_sheet 39 = .ok (.iload_n 1, 1) := by decide +kernel
theorem dX10_sheet_40 : decode cX10_sheet 40 = .ok (.iload_n 2, 1) := by decide +kernel
theorem dX10_sheet_41 : decode cX10_sheet 41 = .ok (.iload_n 3, 1) := by decide +kernel
theorem dX10_sheet_42 : decode cX10_sheet 42 = .ok (.invokevirtual 310, 3) := by decide +kernel
theorem dX10_sheet_45 : decode cX10_sheet 45 = .ok (.iconst 1, 1) := by decide +kernel
theorem dX10_sheet_46 : decode cX10_sheet 46 = .ok (.ireturn, 1) := by decide +kernel
theorem dX10_lose_0 : decode cX10_lose 0 = .ok (.aload_n 0, 1) := by decide +kernel
theorem dX10_lose_1 : decode cX10_lose 1 = .ok (.getfield 14, 3) := by decide +kernel
theorem dX10_lose_4 : decode cX10_lose 4 = .ok (.iload_n 1, 1) := by decide +kernel
theorem dX10_lose_5 : decode cX10_lose 5 = .ok (.invokevirtual 192, 3) := by decide +kernel
theorem dX10_lose_8 : decode cX10_lose 8 = .ok (.ifCond .ne 5, 3) := by decide +kernel
theorem dX10_lose_11 : decode cX10_lose 11 = .ok (.iconst (-1), 1) := by decide +kernel
theorem dX10_lose_12 : decode cX10_lose 12 = .ok (.ireturn, 1) := by decide +kernel
theorem dX10_lose_13 : decode cX10_lose 13 = .ok (.aload_n 0, 1) := by decide +kernel
theorem dX10_lose_14 : decode cX10_lose 14 = .ok (.getfield 14, 3) := by decide +kernel
theorem dX10_lose_17 : decode cX10_lose 17 = .ok (.iload_n 1, 1) := by decide +kernel
theorem dX10_lose_18 : decode cX10_lose 18 = .ok (.invokevirtual 314, 3) := by decide +kernel
theorem dX10_lose_21 : decode cX10_lose 21 = .ok (.ifCond .eq 7, 3) := by decide +kernel
theorem dX10_lose_24 : decode cX10_lose 24 = .ok (.iconst 1, 1) := by decide +kernel
theorem dX10_lose_25 : decode cX10_lose 25 = .ok (.goto 4, 3) := by decide +kernel
theorem dX10_lose_28 : decode cX10_lose 28 = .ok (.iconst 0, 1) := by decide +kernel
theorem dX10_lose_29 : decode cX10_lose 29 = .ok (.ireturn, 1) := by decide +kernel
theorem dX10_put_0 : decode cX10_put 0 = .ok (.aload_n 0, 1) := by decide +kernel
theorem dX10_put_1 : decode cX10_put 1 = .ok (.iconst 0, 1) := by decide +kernel
theorem dX10_put_2 : decode cX10_put 2 = .ok (.putfield 189, 3) := by decide +kernel
theorem dX10_put_5 : decode cX10_put 5 = .ok (.aload_n 0, 1) := by decide +kernel
theorem dX10_put_6 : decode cX10_put 6 = .ok (.getfield 14, 3) := by decide +kernel
theorem dX10_put_9 : decode cX10_put 9 = .ok (.iload_n 1, 1) := by decide +kernel
theorem dX10_put_10 : decode cX10_put 10 = .ok (.invokevirtual 192, 3) := by decide +kernel
theorem dX10_put_13 : decode cX10_put 13 = .ok (.ifCond .ne 5, 3) := by decide +kernel
theorem dX10_put_16 : decode cX10_put 16 = .ok (.iconst (-1), 1) := by decide +kernel
theorem dX10_put_17 : decode cX10_put 17 = .ok (.ireturn, 1) := by decide +kernel
theorem dX10_put_18 : decode cX10_put 18 = .ok (.aload_n 0, 1) := by decide +kernel
theorem dX10_put_19 : decode cX10_put 19 = .ok (.aload_n 0, 1) := by decide +kernel
theorem dX10_put_20 : decode cX10_put 20 = .ok (.getfield 14, 3) := by decide +kernel
theorem dX10_put_23 : decode cX10_put 23 = .ok (.iload_n 1, 1) := by decide +kernel
theorem dX10_put_24 : decode cX10_put 24 = .ok (.iload_n 2, 1) := by decide +kernel
theorem dX10_put_25 : decode cX10_put 25 = .ok (.invokevirtual 317, 3) := by decide +kernel
theorem dX10_put_28 : decode cX10_put 28 = .ok (.invokevirtual 91, 3) := by decide +kernel
theorem dX10_put_31 : decode cX10_put 31 = .ok (.istore 4, 2) := by decide +kernel
theorem dX10_put_33 : decode cX10_put 33 = .ok (.iload 4, 2) := by decide +kernel
theorem dX10_put_35 : decode cX10_put 35 = .ok (.ifCond .eq 6, 3) := by decide +kernel
theorem dX10_put_38 : decode cX10_put 38 = .ok (.iload 4, 2) := by decide +kernel
theorem dX10_put_40 : decode cX10_put 40 = .ok (.ireturn, 1) := by decide +kernel
theorem dX10_put_41 : decode cX10_put 41 = .ok (.aload_n 0, 1) := by decide +kernel
theorem dX10_put_42 : decode cX10_put 42 = .ok (.getfield 14, 3) := by decide +kernel
theorem dX10_put_45 : decode cX10_put 45 = .ok (.iload_n 1, 1) := by decide +kernel
theorem dX10_put_46 : decode cX10_put 46 = .ok (.iload_n 2, 1) := by decide +kernel
theorem dX10_put_47 : decode cX10_put 47 = .ok (.iload_n 3, 1) := by decide +kernel
theorem dX10_put_48 : decode cX10_put 48 = .ok (.invokevirtual 320, 3) := by decide +kernel
theorem dX10_put_51 : decode cX10_put 51 = .ok (.iconst 1, 1) := by decide +kernel
theorem dX10_put_52 : decode cX10_put 52 = .ok (.ireturn, 1) := by decide +kernel
theorem dX10_cell_0 : decode cX10_cell 0 = .ok (.aload_n 0, 1) := by decide +kernel
theorem dX10_cell_1 : decode cX10_cell 1 = .ok (.iload_n 1, 1) := by decide +kernel
theorem dX10_cell_2 : decode cX10_cell 2 = .ok (.iload_n 3, 1) := by decide +kernel
theorem dX10_cell_3 : decode cX10_cell 3 = .ok (.invokevirtual 83, 3) := by decide +kernel
theorem dX10_cell_6 : decode cX10_cell 6 = .ok (.ifCond .eq 7, 3) := by decide +kernel
theorem dX10_cell_9 : decode cX10_cell 9 = .ok (.ldc2_w 196, 3) := by decide +kernel
theorem dX10_cell_12 : decode cX10_cell 12 = .ok (.lreturn, 1) := by decide +kernel
theorem dX10_cell_13 : decode cX10_cell 13 = .ok (.aload_n 0, 1) := by decide +kernel
theorem dX10_cell_14 : decode cX10_cell 14 = .ok (.getfield 14, 3) := by decide +kernel
theorem dX10_cell_17 : decode cX10_cell 17 = .ok (.iload_n 1, 1) := by decide +kernel
theorem dX10_cell_18 : decode cX10_cell 18 = .ok (.iload_n 3, 1) := by decide +kernel
theorem dX10_cell_19 : decode cX10_cell 19 = .ok (.invokevirtual 323, 3) := by decide +kernel
theorem dX10_cell_22 : decode cX10_cell 22 = .ok (.ifCond .eq 7, 3) := by decide +kernel
theorem dX10_cell_25 : decode cX10_cell 25 = .ok (.iconst 2, 1) := by decide +kernel
theorem dX10_cell_26 : decode cX10_cell 26 = .ok (.goto 12, 3) := by decide +kernel
theorem dX10_cell_29 : decode cX10_cell 29 = .ok (.aload_n 0, 1) := by decide +kernel
theorem dX10_cell_30 : decode cX10_cell 30 = .ok (.getfield 14, 3) := by decide +kernel
theorem dX10_cell_33 : decode cX10_cell 33 = .ok (.iload_n 1, 1) := by decide +kernel
theorem dX10_cell_34 : decode cX10_cell 34 = .ok (.iload_n 2, 1) := by decide +kernel
theorem dX10_cell_35 : decode cX10_cell 35 = .ok (.invokevirtual 317, 3) := by decide +kernel
theorem dX10_cell_38 : decode cX10_cell 38 = .ok (.istore 4, 2) := by decide +kernel
theorem dX10_cell_40 : decode cX10_cell 40 = .ok (.aload_n 0, 1) := by decide +kernel
theorem dX10_cell_41 : decode cX10_cell 41 = .ok (.iload 4, 2) := by decide +kernel
theorem dX10_cell_43 : decode cX10_cell 43 = .ok (.invokevirtual 91, 3) := by decide +kernel
theorem dX10_cell_46 : decode cX10_cell 46 = .ok (.ifCond .eq 9, 3) := by decide +kernel
theorem dX10_cell_49 : decode cX10_cell 49 = .ok (.ldc2_w 196, 3) := by decide +kernel
theorem dX10_cell_52 : decode cX10_cell 52 = .ok (.goto 15, 3) := by decide +kernel
theorem dX10_cell_55 : decode cX10_cell 55 = .ok (.aload_n 0, 1) := by decide +kernel
theorem dX10_cell_56 : decode cX10_cell 56 = .ok (.getfield 14, 3) := by decide +kernel
theorem dX10_cell_59 : decode cX10_cell 59 = .ok (.getfield 95, 3) := by decide +kernel
theorem dX10_cell_62 : decode cX10_cell 62 = .ok (.iload_n 1, 1) := by decide +kernel
theorem dX10_cell_63 : decode cX10_cell 63 = .ok (.aaload, 1) := by decide +kernel
theorem dX10_cell_64 : decode cX10_cell 64 = .ok (.iload_n 2, 1) := by decide +kernel
theorem dX10_cell_65 : decode cX10_cell 65 = .ok (.iaload, 1) := by decide +kernel
theorem dX10_cell_66 : decode cX10_cell 66 = .ok (.i2l, 1) := by decide +kernel
theorem dX10_cell_67 : decode cX10_cell 67 = .ok (.lreturn, 1) := by decide +kernel
theorem dX10_copy_0 : decode cX10_copy 0 = .ok (.aload_n 0, 1) := by decide +kernel
theorem dX10_copy_1 : decode cX10_copy 1 = .ok (.iconst 0, 1) := by decide +kernel
theorem dX10_copy_2 : decode cX10_copy 2 = .ok (.putfield 189, 3) := by decide +kernel
theorem dX10_copy_5 : decode cX10_copy 5 = .ok (.aload_n 0, 1) := by decide +kernel
theorem dX10_copy_6 : decode cX10_copy 6 = .ok (.getfield 14, 3) := by decide +kernel
theorem dX10_copy_9 : decode cX10_copy 9 = .ok (.iload_n 1, 1) := by decide +kernel
theorem dX10_copy_10 : decode cX10_copy 10 = .ok (.invokevirtual 192, 3) := by decide +kernel
theorem dX10_copy_13 : decode cX10_copy 13 = .ok (.ifCond .eq 14, 3) := by decide +kernel
theorem dX10_copy_16 : decode cX10_copy 16 = .ok (.aload_n 0, 1) := by decide +kernel
theorem dX10_copy_17 : decode cX10_copy 17 = .ok (.getfield 14, 3) := by decide +kernel
theorem dX10_copy_20 : decode cX10_copy 20 = .ok (.iload_n 3, 1) := by decide +kernel
theorem dX10_copy_21 : decode cX10_copy 21 = .ok (.invokevirtual 192, 3) := by decide +kernel
theorem dX10_copy_24 : decode cX10_copy 24 = .ok (.ifCond .ne 5, 3) := by decide +kernel
theorem dX10_copy_27 : decode cX10_copy 27 = .ok (.iconst (-1), 1) := by decide +kernel
theorem dX10_copy_28 : decode cX10_copy 28 = .ok (.ireturn, 1) := by decide +kernel
theorem dX10_copy_29 : decode cX10_copy 29 = .ok (.aload_n 0, 1) := by decide +kernel
theorem dX10_copy_30 : decode cX10_copy 30 = .ok (.aload_n 0, 1) := by decide +kernel
theorem dX10_copy_31 : decode cX10_copy 31 = .ok (.getfield 14, 3) := by decide +kernel
theorem dX10_copy_34 : decode cX10_copy 34 = .ok (.iload_n 1, 1) := by decide +kernel
theorem dX10_copy_35 : decode cX10_copy 35 = .ok (.iload_n 2, 1) := by decide +kernel
theorem dX10_copy_36 : decode cX10_copy 36 = .ok (.iload_n 3, 1) := by decide +kernel
theorem dX10_copy_37 : decode cX10_copy 37 = .ok (.iload 4, 2) := by decide +kernel
theorem dX10_copy_39 : decode cX10_copy 39 = .ok (.iload 5, 2) := by decide +kernel
theorem dX10_copy_41 : decode cX10_copy 41 = .ok (.invokevirtual 327, 3) := by decide +kernel
theorem dX10_copy_44 : decode cX10_copy 44 = .ok (.invokevirtual 91, 3) := by decide +kernel
theorem dX10_copy_47 : decode cX10_copy 47 = .ok (.istore 6, 2) := by decide +kernel
theorem dX10_copy_49 : decode cX10_copy 49 = .ok (.iload 6, 2) := by decide +kernel
theorem dX10_copy_51 : decode cX10_copy 51 = .ok (.ifCond .eq 6, 3) := by decide +kernel
theorem dX10_copy_54 : decode cX10_copy 54 = .ok (.iload 6, 2) := by decide +kernel
theorem dX10_copy_56 : decode cX10_copy 56 = .ok (.ireturn, 1) := by decide +kernel
theorem dX10_copy_57 : decode cX10_copy 57 = .ok (.aload_n 0, 1) := by decide +kernel
theorem dX10_copy_58 : decode cX10_copy 58 = .ok (.getfield 14, 3) := by decide +kernel
theorem dX10_copy_61 : decode cX10_copy 61 = .ok (.getfield 95, 3) := by decide +kernel
theorem dX10_copy_64 : decode cX10_copy 64 = .ok (.iload_n 1, 1) := by decide +kernel
theorem dX10_copy_65 : decode cX10_copy 65 = .ok (.aaload, 1) := by decide +kernel
theorem dX10_copy_66 : decode cX10_copy 66 = .ok (.iload_n 2, 1) := by decide +kernel
theorem dX10_copy_67 : decode cX10_copy 67 = .ok (.aload_n 0, 1) := by decide +kernel
theorem dX10_copy_68 : decode cX10_copy 68 = .ok (.getfield 14, 3) := by decide +kernel
theorem dX10_copy_71 : decode cX10_copy 71 = .ok (.getfield 95, 3) := by decide +kernel
theorem dX10_copy_74 : decode cX10_copy 74 = .ok (.iload_n 3, 1) := by decide +kernel
theorem dX10_copy_75 : decode cX10_copy 75 = .ok (.aaload, 1) := by decide +kernel
theorem dX10_copy_76 : decode cX10_copy 76 = .ok (.iload 4, 2) := by decide +kernel
theorem dX10_copy_78 : decode cX10_copy 78 = .ok (.iload 5, 2) := by decide +kernel
theorem dX10_copy_80 : decode cX10_copy 80 = .ok (.invokestatic 331, 3) := by decide +kernel
theorem dX10_copy_83 : decode cX10_copy 83 = .ok (.iload 5, 2) := by decide +kernel
theorem dX10_copy_85 : decode cX10_copy 85 = .ok (.ireturn, 1) := by decide +kernel
theorem dX10_tell_0 : decode cX10_tell 0 = .ok (.aload_n 0, 1) := by decide +kernel
theorem dX10_tell_1 : decode cX10_tell 1 = .ok (.getfield 35, 3) := by decide +kernel
theorem dX10_tell_4 : decode cX10_tell 4 = .ok (.iload_n 1, 1) := by decide +kernel
theorem dX10_tell_5 : decode cX10_tell 5 = .ok (.invokevirtual 161, 3) := by decide +kernel
theorem dX10_tell_8 : decode cX10_tell 8 = .ok (.ifCond .eq 14, 3) := by decide +kernel
theorem dX10_tell_11 : decode cX10_tell 11 = .ok (.aload_n 0, 1) := by decide +kernel
theorem dX10_tell_12 : decode cX10_tell 12 = .ok (.getfield 35, 3) := by decide +kernel
theorem dX10_tell_15 : decode cX10_tell 15 = .ok (.iload_n 1, 1) := by decide +kernel
theorem dX10_tell_16 : decode cX10_tell 16 = .ok (.invokevirtual 337, 3) := by decide +kernel
theorem dX10_tell_19 : decode cX10_tell 19 = .ok (.goto 4, 3) := by decide +kernel
theorem dX10_tell_22 : decode cX10_tell 22 = .ok (.iconst (-1), 1) := by decide +kernel
theorem dX10_tell_23 : decode cX10_tell 23 = .ok (.ireturn, 1) := by decide +kernel
theorem dX10_pay_0 : decode cX10_pay 0 = .ok (.aload_n 0, 1) := by decide +kernel
theorem dX10_pay_1 : decode cX10_pay 1 = .ok (.getfield 35, 3) := by decide +kernel
theorem dX10_pay_4 : decode cX10_pay 4 = .ok (.iload_n 1, 1) := by decide +kernel
theorem dX10_pay_5 : decode cX10_pay 5 = .ok (.invokevirtual 161, 3) := by decide +kernel
theorem dX10_pay_8 : decode cX10_pay 8 = .ok (.ifCond .eq 14, 3) := by decide +kernel
theorem dX10_pay_11 : decode cX10_pay 11 = .ok (.aload_n 0, 1) := by decide +kernel
theorem dX10_pay_12 : decode cX10_pay 12 = .ok (.getfield 35, 3) := by decide +kernel
theorem dX10_pay_15 : decode cX10_pay 15 = .ok (.iload_n 1, 1) := by decide +kernel
theorem dX10_pay_16 : decode cX10_pay 16 = .ok (.invokevirtual 340, 3) := by decide +kernel
theorem dX10_pay_19 : decode cX10_pay 19 = .ok (.goto 4, 3) := by decide +kernel
theorem dX10_pay_22 : decode cX10_pay 22 = .ok (.iconst (-1), 1) := by decide +kernel
theorem dX10_pay_23 : decode cX10_pay 23 = .ok (.ireturn, 1) := by decide +kernel
theorem dX10_as_0 : decode cX10_as 0 = .ok (.aload_n 0, 1) := by decide +kernel
theorem dX10_as_1 : decode cX10_as 1 = .ok (.iconst 0, 1) := by decide +kernel
theorem dX10_as_2 : decode cX10_as 2 = .ok (.putfield 189, 3) := by decide +kernel
theorem dX10_as_5 : decode cX10_as 5 = .ok (.aload_n 0, 1) := by decide +kernel
theorem dX10_as_6 : decode cX10_as 6 = .ok (.getfield 35, 3) := by decide +kernel
theorem dX10_as_9 : decode cX10_as 9 = .ok (.iload_n 1, 1) := by decide +kernel
theorem dX10_as_10 : decode cX10_as 10 = .ok (.invokevirtual 161, 3) := by decide +kernel
theorem dX10_as_13 : decode cX10_as 13 = .ok (.ifCond .ne 5, 3) := by decide +kernel
theorem dX10_as_16 : decode cX10_as 16 = .ok (.iconst (-1), 1) := by decide +kernel
theorem dX10_as_17 : decode cX10_as 17 = .ok (.ireturn, 1) := by decide +kernel
theorem dX10_as_18 : decode cX10_as 18 = .ok (.iload_n 2, 1) := by decide +kernel
theorem dX10_as_19 : decode cX10_as 19 = .ok (.invokestatic 149, 3) := by decide +kernel
theorem dX10_as_22 : decode cX10_as 22 = .ok (.ifCond .ne 6, 3) := by decide +kernel
theorem dX10_as_25 : decode cX10_as 25 = .ok (.bipush (-2), 2) := by decide +kernel
theorem dX10_as_27 : decode cX10_as 27 = .ok (.ireturn, 1) := by decide +kernel
theorem dX10_as_28 : decode cX10_as 28 = .ok (.aload_n 0, 1) := by decide +kernel
theorem dX10_as_29 : decode cX10_as 29 = .ok (.getfield 35, 3) := by decide +kernel
theorem dX10_as_32 : decode cX10_as 32 = .ok (.getfield 164, 3) := by decide +kernel
theorem dX10_as_35 : decode cX10_as 35 = .ok (.iload_n 1, 1) := by decide +kernel
theorem dX10_as_36 : decode cX10_as 36 = .ok (.iaload, 1) := by decide +kernel
theorem dX10_as_37 : decode cX10_as 37 = .ok (.iload_n 2, 1) := by decide +kernel
theorem dX10_as_38 : decode cX10_as 38 = .ok (.if_icmp .ge 11, 3) := by decide +kernel
theorem dX10_as_41 : decode cX10_as 41 = .ok (.aload_n 0, 1) := by decide +kernel
theorem dX10_as_42 : decode cX10_as 42 = .ok (.iconst 2, 1) := by decide +kernel
theorem dX10_as_43 : decode cX10_as 43 = .ok (.invokevirtual 91, 3) := by decide +kernel
theorem dX10_as_46 : decode cX10_as 46 = .ok (.goto 4, 3) := by decide +kernel
theorem dX10_as_49 : decode cX10_as 49 = .ok (.iconst 1, 1) := by decide +kernel
theorem dX10_as_50 : decode cX10_as 50 = .ok (.ireturn, 1) := by decide +kernel
theorem dX10_trace_0 : decode cX10_trace 0 = .ok (.aload_n 0, 1) := by decide +kernel
theorem dX10_trace_1 : decode cX10_trace 1 = .ok (.getfield 35, 3) := by decide +kernel
theorem dX10_trace_4 : decode cX10_trace 4 = .ok (.getfield 343, 3) := by decide +kernel
theorem dX10_trace_7 : decode cX10_trace 7 = .ok (.ireturn, 1) := by decide +kernel
theorem dX10_fault_0 : decode cX10_fault 0 = .ok (.aload_n 0, 1) := by decide +kernel
theorem dX10_fault_1 : decode cX10_fault 1 = .ok (.getfield 189, 3) := by decide +kernel
theorem dX10_fault_4 : decode cX10_fault 4 = .ok (.ireturn, 1) := by decide +kernel
theorem dX10_many_0 : decode cX10_many 0 = .ok (.iload_n 1, 1) := by decide +kernel
theorem dX10_many_1 : decode cX10_many 1 = .ok (.tableswitch 83 0 4 #[35, 43, 51, 67, 75], 35) := by decide +kernel
theorem dX10_many_36 : decode cX10_many 36 = .ok (.aload_n 0, 1) := by decide +kernel
theorem dX10_many_37 : decode cX10_many 37 = .ok (.getfield 28, 3) := by decide +kernel
theorem dX10_many_40 : decode cX10_many 40 = .ok (.getfield 128, 3) := by decide +kernel
theorem dX10_many_43 : decode cX10_many 43 = .ok (.ireturn, 1) := by decide +kernel
theorem dX10_many_44 : decode cX10_many 44 = .ok (.aload_n 0, 1) := by decide +kernel
theorem dX10_many_45 : decode cX10_many 45 = .ok (.getfield 35, 3) := by decide +kernel
theorem dX10_many_48 : decode cX10_many 48 = .ok (.getfield 346, 3) := by decide +kernel
theorem dX10_many_51 : decode cX10_many 51 = .ok (.ireturn, 1) := by decide +kernel
theorem dX10_many_52 : decode cX10_many 52 = .ok (.aload_n 0, 1) := by decide +kernel
theorem dX10_many_53 : decode cX10_many 53 = .ok (.getfield 42, 3) := by decide +kernel
theorem dX10_many_56 : decode cX10_many 56 = .ok (.getfield 222, 3) := by decide +kernel
theorem dX10_many_59 : decode cX10_many 59 = .ok (.ifCond .eq 7, 3) := by decide +kernel
theorem dX10_many_62 : decode cX10_many 62 = .ok (.iconst 1, 1) := by decide +kernel
theorem dX10_many_63 : decode cX10_many 63 = .ok (.goto 4, 3) := by decide +kernel
theorem dX10_many_66 : decode cX10_many 66 = .ok (.iconst 0, 1) := by decide +kernel
theorem dX10_many_67 : decode cX10_many 67 = .ok (.ireturn, 1) := by decide +kernel
theorem dX10_many_68 : decode cX10_many 68 = .ok (.aload_n 0, 1) := by decide +kernel
theorem dX10_many_69 : decode cX10_many 69 = .ok (.getfield 65, 3) := by decide +kernel
theorem dX10_many_72 : decode cX10_many 72 = .ok (.getfield 268, 3) := by decide +kernel
theorem dX10_many_75 : decode cX10_many 75 = .ok (.ireturn, 1) := by decide +kernel
theorem dX10_many_76 : decode cX10_many 76 = .ok (.aload_n 0, 1) := by decide +kernel
theorem dX10_many_77 : decode cX10_many 77 = .ok (.getfield 42, 3) := by decide +kernel
theorem dX10_many_80 : decode cX10_many 80 = .ok (.getfield 347, 3) := by decide +kernel
theorem dX10_many_83 : decode cX10_many 83 = .ok (.ireturn, 1) := by decide +kernel
theorem dX10_many_84 : decode cX10_many 84 = .ok (.bipush (-2), 2) := by decide +kernel
theorem dX10_many_86 : decode cX10_many 86 = .ok (.ireturn, 1) := by decide +kernel
theorem dX10_refuseRow_0 : decode cX10_refuseRow 0 = .ok (.aload_n 0, 1) := by decide +kernel
theorem dX10_refuseRow_1 : decode cX10_refuseRow 1 = .ok (.iconst 0, 1) := by decide +kernel
theorem dX10_refuseRow_2 : decode cX10_refuseRow 2 = .ok (.putfield 189, 3) := by decide +kernel
theorem dX10_refuseRow_5 : decode cX10_refuseRow 5 = .ok (.aload_n 0, 1) := by decide +kernel
theorem dX10_refuseRow_6 : decode cX10_refuseRow 6 = .ok (.getfield 14, 3) := by decide +kernel
theorem dX10_refuseRow_9 : decode cX10_refuseRow 9 = .ok (.iload_n 1, 1) := by decide +kernel
theorem dX10_refuseRow_10 : decode cX10_refuseRow 10 = .ok (.invokevirtual 192, 3) := by decide +kernel
theorem dX10_refuseRow_13 : decode cX10_refuseRow 13 = .ok (.ifCond .ne 5, 3) := by decide +kernel
theorem dX10_refuseRow_16 : decode cX10_refuseRow 16 = .ok (.iconst (-1), 1) := by decide +kernel
theorem dX10_refuseRow_17 : decode cX10_refuseRow 17 = .ok (.ireturn, 1) := by decide +kernel
theorem dX10_refuseRow_18 : decode cX10_refuseRow 18 = .ok (.iload_n 2, 1) := by decide +kernel
theorem dX10_refuseRow_19 : decode cX10_refuseRow 19 = .ok (.invokestatic 193, 3) := by decide +kernel
theorem dX10_refuseRow_22 : decode cX10_refuseRow 22 = .ok (.ifCond .eq 7, 3) := by decide +kernel
theorem dX10_refuseRow_25 : decode cX10_refuseRow 25 = .ok (.iconst 0, 1) := by decide +kernel
theorem dX10_refuseRow_26 : decode cX10_refuseRow 26 = .ok (.goto 5, 3) := by decide +kernel
theorem dX10_refuseRow_29 : decode cX10_refuseRow 29 = .ok (.bipush (-2), 2) := by decide +kernel
theorem dX10_refuseRow_31 : decode cX10_refuseRow 31 = .ok (.ireturn, 1) := by decide +kernel
theorem dX10_comeTo_0 : decode cX10_comeTo 0 = .ok (.aload_n 0, 1) := by decide +kernel
theorem dX10_comeTo_1 : decode cX10_comeTo 1 = .ok (.iload_n 1, 1) := by decide +kernel
theorem dX10_comeTo_2 : decode cX10_comeTo 2 = .ok (.putfield 189, 3) := by decide +kernel
theorem dX10_comeTo_5 : decode cX10_comeTo 5 = .ok (.iload_n 1, 1) := by decide +kernel
theorem dX10_comeTo_6 : decode cX10_comeTo 6 = .ok (.ifCond .ne 7, 3) := by decide +kernel
theorem dX10_comeTo_9 : decode cX10_comeTo 9 = .ok (.iconst 0, 1) := by decide +kernel
theorem dX10_comeTo_10 : decode cX10_comeTo 10 = .ok (.goto 7, 3) := by decide +kernel
theorem dX10_comeTo_13 : decode cX10_comeTo 13 = .ok (.bipush (-10), 2) := by decide +kernel
theorem dX10_comeTo_15 : decode cX10_comeTo 15 = .ok (.iload_n 1, 1) := by decide +kernel
theorem dX10_comeTo_16 : decode cX10_comeTo 16 = .ok (.isub, 1) := by decide +kernel
theorem dX10_comeTo_17 : decode cX10_comeTo 17 = .ok (.ireturn, 1) := by decide +kernel
theorem dX10_refusesHeard_0 : decode cX10_refusesHeard 0 = .ok (.aload_n 0, 1) := by decide +kernel
theorem dX10_refusesHeard_1 : decode cX10_refusesHeard 1 = .ok (.getfield 35, 3) := by decide +kernel
theorem dX10_refusesHeard_4 : decode cX10_refusesHeard 4 = .ok (.iload_n 1, 1) := by decide +kernel
theorem dX10_refusesHeard_5 : decode cX10_refusesHeard 5 = .ok (.invokevirtual 161, 3) := by decide +kernel
theorem dX10_refusesHeard_8 : decode cX10_refusesHeard 8 = .ok (.ifCond .eq 37, 3) := by decide +kernel
theorem dX10_refusesHeard_11 : decode cX10_refusesHeard 11 = .ok (.aload_n 0, 1) := by decide +kernel
theorem dX10_refusesHeard_12 : decode cX10_refusesHeard 12 = .ok (.iload_n 2, 1) := by decide +kernel
theorem dX10_refusesHeard_13 : decode cX10_refusesHeard 13 = .ok (.invokevirtual 129, 3) := by decide +kernel
theorem dX10_refusesHeard_16 : decode cX10_refusesHeard 16 = .ok (.ifCond .eq 29, 3) := by decide +kernel
theorem dX10_refusesHeard_19 : decode cX10_refusesHeard 19 = .ok (.aload_n 0, 1) := by decide +kernel
theorem dX10_refusesHeard_20 : decode cX10_refusesHeard 20 = .ok (.iload_n 3, 1) := by decide +kernel
theorem dX10_refusesHeard_21 : decode cX10_refusesHeard 21 = .ok (.invokevirtual 129, 3) := by decide +kernel
theorem dX10_refusesHeard_24 : decode cX10_refusesHeard 24 = .ok (.ifCond .eq 21, 3) := by decide +kernel
theorem dX10_refusesHeard_27 : decode cX10_refusesHeard 27 = .ok (.iload 4, 2) := by decide +kernel
theorem dX10_refusesHeard_29 : decode cX10_refusesHeard 29 = .ok (.invokestatic 202, 3) := by decide +kernel
theorem dX10_refusesHeard_32 : decode cX10_refusesHeard 32 = .ok (.ifCond .eq 13, 3) := by decide +kernel
theorem dX10_refusesHeard_35 : decode cX10_refusesHeard 35 = .ok (.aload_n 0, 1) := by decide +kernel
theorem dX10_refusesHeard_36 : decode cX10_refusesHeard 36 = .ok (.getfield 42, 3) := by decide +kernel
theorem dX10_refusesHeard_39 : decode cX10_refusesHeard 39 = .ok (.getfield 222, 3) := by decide +kernel
theorem dX10_refusesHeard_42 : decode cX10_refusesHeard 42 = .ok (.ifCond .ne 7, 3) := by decide +kernel
theorem dX10_refusesHeard_45 : decode cX10_refusesHeard 45 = .ok (.iconst 1, 1) := by decide +kernel
theorem dX10_refusesHeard_46 : decode cX10_refusesHeard 46 = .ok (.goto 4, 3) := by decide +kernel
theorem dX10_refusesHeard_49 : decode cX10_refusesHeard 49 = .ok (.iconst 0, 1) := by decide +kernel
theorem dX10_refusesHeard_50 : decode cX10_refusesHeard 50 = .ok (.ireturn, 1) := by decide +kernel
theorem dX10_isWord_0 : decode cX10_isWord 0 = .ok (.iload_n 1, 1) := by decide +kernel
theorem dX10_isWord_1 : decode cX10_isWord 1 = .ok (.ifCond .lt 18, 3) := by decide +kernel
theorem dX10_isWord_4 : decode cX10_isWord 4 = .ok (.iload_n 1, 1) := by decide +kernel
theorem dX10_isWord_5 : decode cX10_isWord 5 = .ok (.aload_n 0, 1) := by decide +kernel
theorem dX10_isWord_6 : decode cX10_isWord 6 = .ok (.getfield 28, 3) := by decide +kernel
theorem dX10_isWord_9 : decode cX10_isWord 9 = .ok (.getfield 128, 3) := by decide +kernel
theorem dX10_isWord_12 : decode cX10_isWord 12 = .ok (.if_icmp .ge 7, 3) := by decide +kernel
theorem dX10_isWord_15 : decode cX10_isWord 15 = .ok (.iconst 1, 1) := by decide +kernel
theorem dX10_isWord_16 : decode cX10_isWord 16 = .ok (.goto 4, 3) := by decide +kernel
theorem dX10_isWord_19 : decode cX10_isWord 19 = .ok (.iconst 0, 1) := by decide +kernel
theorem dX10_isWord_20 : decode cX10_isWord 20 = .ok (.ireturn, 1) := by decide +kernel
theorem dX10_isWordOrNothing_0 : decode cX10_isWordOrNothing 0 = .ok (.iload_n 1, 1) := by decide +kernel
theorem dX10_isWordOrNothing_1 : decode cX10_isWordOrNothing 1 = .ok (.ifCond .lt 18, 3) := by decide +kernel
theorem dX10_isWordOrNothing_4 : decode cX10_isWordOrNothing 4 = .ok (.iload_n 1, 1) := by decide +kernel
theorem dX10_isWordOrNothing_5 : decode cX10_isWordOrNothing 5 = .ok (.aload_n 0, 1) := by decide +kernel
theorem dX10_isWordOrNothing_6 : decode cX10_isWordOrNothing 6 = .ok (.getfield 28, 3) := by decide +kernel
theorem dX10_isWordOrNothing_9 : decode cX10_isWordOrNothing 9 = .ok (.getfield 128, 3) := by decide +kernel
theorem dX10_isWordOrNothing_12 : decode cX10_isWordOrNothing 12 = .ok (.if_icmp .gt 7, 3) := by decide +kernel
theorem dX10_isWordOrNothing_15 : decode cX10_isWordOrNothing 15 = .ok (.iconst 1, 1) := by decide +kernel
theorem dX10_isWordOrNothing_16 : decode cX10_isWordOrNothing 16 = .ok (.goto 4, 3) := by decide +kernel
theorem dX10_isWordOrNothing_19 : decode cX10_isWordOrNothing 19 = .ok (.iconst 0, 1) := by decide +kernel
theorem dX10_isWordOrNothing_20 : decode cX10_isWordOrNothing 20 = .ok (.ireturn, 1) := by decide +kernel
theorem dX10_isWay_0 : decode cX10_isWay 0 = .ok (.iload_n 0, 1) := by decide +kernel
theorem dX10_isWay_1 : decode cX10_isWay 1 = .ok (.ifCond .lt 12, 3) := by decide +kernel
theorem dX10_isWay_4 : decode cX10_isWay 4 = .ok (.iload_n 0, 1) := by decide +kernel
theorem dX10_isWay_5 : decode cX10_isWay 5 = .ok (.iconst 2, 1) := by decide +kernel
theorem dX10_isWay_6 : decode cX10_isWay 6 = .ok (.if_icmp .ge 7, 3) := by decide +kernel
theorem dX10_isWay_9 : decode cX10_isWay 9 = .ok (.iconst 1, 1) := by decide +kernel
theorem dX10_isWay_10 : decode cX10_isWay 10 = .ok (.goto 4, 3) := by decide +kernel
theorem dX10_isWay_13 : decode cX10_isWay 13 = .ok (.iconst 0, 1) := by decide +kernel
theorem dX10_isWay_14 : decode cX10_isWay 14 = .ok (.ireturn, 1) := by decide +kernel
theorem dX10_otherWay_0 : decode cX10_otherWay 0 = .ok (.iload_n 0, 1) := by decide +kernel
theorem dX10_otherWay_1 : decode cX10_otherWay 1 = .ok (.ifCond .ne 7, 3) := by decide +kernel
theorem dX10_otherWay_4 : decode cX10_otherWay 4 = .ok (.iconst 1, 1) := by decide +kernel
theorem dX10_otherWay_5 : decode cX10_otherWay 5 = .ok (.goto 4, 3) := by decide +kernel
theorem dX10_otherWay_8 : decode cX10_otherWay 8 = .ok (.iconst 0, 1) := by decide +kernel
theorem dX10_otherWay_9 : decode cX10_otherWay 9 = .ok (.ireturn, 1) := by decide +kernel
theorem dX10_isSort_0 : decode cX10_isSort 0 = .ok (.iload_n 0, 1) := by decide +kernel
theorem dX10_isSort_1 : decode cX10_isSort 1 = .ok (.ifCond .lt 12, 3) := by decide +kernel
theorem dX10_isSort_4 : decode cX10_isSort 4 = .ok (.iload_n 0, 1) := by decide +kernel
theorem dX10_isSort_5 : decode cX10_isSort 5 = .ok (.iconst 3, 1) := by decide +kernel
theorem dX10_isSort_6 : decode cX10_isSort 6 = .ok (.if_icmp .ge 7, 3) := by decide +kernel
theorem dX10_isSort_9 : decode cX10_isSort 9 = .ok (.iconst 1, 1) := by decide +kernel
theorem dX10_isSort_10 : decode cX10_isSort 10 = .ok (.goto 4, 3) := by decide +kernel
theorem dX10_isSort_13 : decode cX10_isSort 13 = .ok (.iconst 0, 1) := by decide +kernel
theorem dX10_isSort_14 : decode cX10_isSort 14 = .ok (.ireturn, 1) := by decide +kernel
theorem dX10_isKind_0 : decode cX10_isKind 0 = .ok (.iload_n 0, 1) := by decide +kernel
theorem dX10_isKind_1 : decode cX10_isKind 1 = .ok (.ifCond .lt 12, 3) := by decide +kernel
theorem dX10_isKind_4 : decode cX10_isKind 4 = .ok (.iload_n 0, 1) := by decide +kernel
theorem dX10_isKind_5 : decode cX10_isKind 5 = .ok (.iconst 2, 1) := by decide +kernel
theorem dX10_isKind_6 : decode cX10_isKind 6 = .ok (.if_icmp .gt 7, 3) := by decide +kernel
theorem dX10_isKind_9 : decode cX10_isKind 9 = .ok (.iconst 1, 1) := by decide +kernel
theorem dX10_isKind_10 : decode cX10_isKind 10 = .ok (.goto 4, 3) := by decide +kernel
theorem dX10_isKind_13 : decode cX10_isKind 13 = .ok (.iconst 0, 1) := by decide +kernel
theorem dX10_isKind_14 : decode cX10_isKind 14 = .ok (.ireturn, 1) := by decide +kernel
theorem dX10_isTired_0 : decode cX10_isTired 0 = .ok (.iload_n 0, 1) := by decide +kernel
theorem dX10_isTired_1 : decode cX10_isTired 1 = .ok (.ifCond .lt 13, 3) := by decide +kernel
theorem dX10_isTired_4 : decode cX10_isTired 4 = .ok (.iload_n 0, 1) := by decide +kernel
theorem dX10_isTired_5 : decode cX10_isTired 5 = .ok (.bipush 9, 2) := by decide +kernel
theorem dX10_isTired_7 : decode cX10_isTired 7 = .ok (.if_icmp .gt 7, 3) := by decide +kernel
theorem dX10_isTired_10 : decode cX10_isTired 10 = .ok (.iconst 1, 1) := by decide +kernel
theorem dX10_isTired_11 : decode cX10_isTired 11 = .ok (.goto 4, 3) := by decide +kernel
theorem dX10_isTired_14 : decode cX10_isTired 14 = .ok (.iconst 0, 1) := by decide +kernel
theorem dX10_isTired_15 : decode cX10_isTired 15 = .ok (.ireturn, 1) := by decide +kernel
theorem dX10_isWhich_0 : decode cX10_isWhich 0 = .ok (.iload_n 0, 1) := by decide +kernel
theorem dX10_isWhich_1 : decode cX10_isWhich 1 = .ok (.ifCond .eq 8, 3) := by decide +kernel
theorem dX10_isWhich_4 : decode cX10_isWhich 4 = .ok (.iload_n 0, 1) := by decide +kernel
theorem dX10_isWhich_5 : decode cX10_isWhich 5 = .ok (.iconst 1, 1) := by decide +kernel
theorem dX10_isWhich_6 : decode cX10_isWhich 6 = .ok (.if_icmp .ne 7, 3) := by decide +kernel
theorem dX10_isWhich_9 : decode cX10_isWhich 9 = .ok (.iconst 1, 1) := by decide +kernel
theorem dX10_isWhich_10 : decode cX10_isWhich 10 = .ok (.goto 4, 3) := by decide +kernel
theorem dX10_isWhich_13 : decode cX10_isWhich 13 = .ok (.iconst 0, 1) := by decide +kernel
theorem dX10_isWhich_14 : decode cX10_isWhich 14 = .ok (.ireturn, 1) := by decide +kernel
theorem dX10_inLeastTerms_0 : decode cX10_inLeastTerms 0 = .ok (.lload_n 0, 1) := by decide +kernel
theorem dX10_inLeastTerms_1 : decode cX10_inLeastTerms 1 = .ok (.lload_n 2, 1) := by decide +kernel
theorem dX10_inLeastTerms_2 : decode cX10_inLeastTerms 2 = .ok (.invokestatic 348, 3) := by decide +kernel
theorem dX10_inLeastTerms_5 : decode cX10_inLeastTerms 5 = .ok (.lstore 5, 2) := by decide +kernel
theorem dX10_inLeastTerms_7 : decode cX10_inLeastTerms 7 = .ok (.lload 5, 2) := by decide +kernel
theorem dX10_inLeastTerms_9 : decode cX10_inLeastTerms 9 = .ok (.lconst 0, 1) := by decide +kernel
theorem dX10_inLeastTerms_10 : decode cX10_inLeastTerms 10 = .ok (.lcmp, 1) := by decide +kernel
theorem dX10_inLeastTerms_11 : decode cX10_inLeastTerms 11 = .ok (.ifCond .ne 7, 3) := by decide +kernel
theorem dX10_inLeastTerms_14 : decode cX10_inLeastTerms 14 = .ok (.ldc2_w 196, 3) := by decide +kernel
theorem dX10_inLeastTerms_17 : decode cX10_inLeastTerms 17 = .ok (.lreturn, 1) := by decide +kernel
theorem dX10_inLeastTerms_18 : decode cX10_inLeastTerms 18 = .ok (.iload 4, 2) := by decide +kernel
theorem dX10_inLeastTerms_20 : decode cX10_inLeastTerms 20 = .ok (.ifCond .ne 7, 3) := by decide +kernel
theorem dX10_inLeastTerms_23 : decode cX10_inLeastTerms 23 = .ok (.lload_n 0, 1) := by decide +kernel
theorem dX10_inLeastTerms_24 : decode cX10_inLeastTerms 24 = .ok (.goto 4, 3) := by decide +kernel
theorem dX10_inLeastTerms_27 : decode cX10_inLeastTerms 27 = .ok (.lload_n 2, 1) := by decide +kernel
theorem dX10_inLeastTerms_28 : decode cX10_inLeastTerms 28 = .ok (.lload 5, 2) := by decide +kernel
theorem dX10_inLeastTerms_30 : decode cX10_inLeastTerms 30 = .ok (.ldiv, 1) := by decide +kernel
theorem dX10_inLeastTerms_31 : decode cX10_inLeastTerms 31 = .ok (.lreturn, 1) := by decide +kernel
theorem dX10_greatestCommon_0 : decode cX10_greatestCommon 0 = .ok (.lload_n 0, 1) := by decide +kernel
theorem dX10_greatestCommon_1 : decode cX10_greatestCommon 1 = .ok (.lstore 4, 2) := by decide +kernel
theorem dX10_greatestCommon_3 : decode cX10_greatestCommon 3 = .ok (.lload_n 2, 1) := by decide +kernel
theorem dX10_greatestCommon_4 : decode cX10_greatestCommon 4 = .ok (.lstore 6, 2) := by decide +kernel
theorem dX10_greatestCommon_6 : decode cX10_greatestCommon 6 = .ok (.iconst 0, 1) := by decide +kernel
theorem dX10_greatestCommon_7 : decode cX10_greatestCommon 7 = .ok (.istore 8, 2) := by decide +kernel
theorem dX10_greatestCommon_9 : decode cX10_greatestCommon 9 = .ok (.iload 8, 2) := by decide +kernel
theorem dX10_greatestCommon_11 : decode cX10_greatestCommon 11 = .ok (.sipush 200, 3) := by decide +kernel
theorem dX10_greatestCommon_14 : decode cX10_greatestCommon 14 = .ok (.if_icmp .ge 31, 3) := by decide +kernel
theorem dX10_greatestCommon_17 : decode cX10_greatestCommon 17 = .ok (.lload 6, 2) := by decide +kernel
theorem dX10_greatestCommon_19 : decode cX10_greatestCommon 19 = .ok (.lconst 0, 1) := by decide +kernel
theorem dX10_greatestCommon_20 : decode cX10_greatestCommon 20 = .ok (.lcmp, 1) := by decide +kernel
theorem dX10_greatestCommon_21 : decode cX10_greatestCommon 21 = .ok (.ifCond .eq 24, 3) := by decide +kernel
theorem dX10_greatestCommon_24 : decode cX10_greatestCommon 24 = .ok (.lload 4, 2) := by decide +kernel
theorem dX10_greatestCommon_26 : decode cX10_greatestCommon 26 = .ok (.lload 6, 2) := by decide +kernel
theorem dX10_greatestCommon_28 : decode cX10_greatestCommon 28 = .ok (.lrem, 1) := by decide +kernel
theorem dX10_greatestCommon_29 : decode cX10_greatestCommon 29 = .ok (.lstore 9, 2) := by decide +kernel
theorem dX10_greatestCommon_31 : decode cX10_greatestCommon 31 = .ok (.lload 6, 2) := by decide +kernel
theorem dX10_greatestCommon_33 : decode cX10_greatestCommon 33 = .ok (.lstore 4, 2) := by decide +kernel
theorem dX10_greatestCommon_35 : decode cX10_greatestCommon 35 = .ok (.lload 9, 2) := by decide +kernel
theorem dX10_greatestCommon_37 : decode cX10_greatestCommon 37 = .ok (.lstore 6, 2) := by decide +kernel
theorem dX10_greatestCommon_39 : decode cX10_greatestCommon 39 = .ok (.iinc 8 1, 3) := by decide +kernel
theorem dX10_greatestCommon_42 : decode cX10_greatestCommon 42 = .ok (.goto (-33), 3) := by decide +kernel
theorem dX10_greatestCommon_45 : decode cX10_greatestCommon 45 = .ok (.lload 4, 2) := by decide +kernel
theorem dX10_greatestCommon_47 : decode cX10_greatestCommon 47 = .ok (.lreturn, 1) := by decide +kernel
theorem dJ9_max_7cf53_0 : decode cJ9_max_7cf53 0 = .ok (.iload_n 0, 1) := by decide +kernel
theorem dJ9_max_7cf53_1 : decode cJ9_max_7cf53 1 = .ok (.iload_n 1, 1) := by decide +kernel
theorem dJ9_max_7cf53_2 : decode cJ9_max_7cf53 2 = .ok (.if_icmp .lt 7, 3) := by decide +kernel
theorem dJ9_max_7cf53_5 : decode cJ9_max_7cf53 5 = .ok (.iload_n 0, 1) := by decide +kernel
theorem dJ9_max_7cf53_6 : decode cJ9_max_7cf53 6 = .ok (.goto 4, 3) := by decide +kernel
theorem dJ9_max_7cf53_9 : decode cJ9_max_7cf53 9 = .ok (.iload_n 1, 1) := by decide +kernel
theorem dJ9_max_7cf53_10 : decode cJ9_max_7cf53 10 = .ok (.ireturn, 1) := by decide +kernel
theorem dJ9_min_7cf53_0 : decode cJ9_min_7cf53 0 = .ok (.iload_n 0, 1) := by decide +kernel
theorem dJ9_min_7cf53_1 : decode cJ9_min_7cf53 1 = .ok (.iload_n 1, 1) := by decide +kernel
theorem dJ9_min_7cf53_2 : decode cJ9_min_7cf53 2 = .ok (.if_icmp .gt 7, 3) := by decide +kernel
theorem dJ9_min_7cf53_5 : decode cJ9_min_7cf53 5 = .ok (.iload_n 0, 1) := by decide +kernel
theorem dJ9_min_7cf53_6 : decode cJ9_min_7cf53 6 = .ok (.goto 4, 3) := by decide +kernel
theorem dJ9_min_7cf53_9 : decode cJ9_min_7cf53 9 = .ok (.iload_n 1, 1) := by decide +kernel
theorem dJ9_min_7cf53_10 : decode cJ9_min_7cf53 10 = .ok (.ireturn, 1) := by decide +kernel
theorem dJ9_min_f86c9_0 : decode cJ9_min_f86c9 0 = .ok (.lload_n 0, 1) := by decide +kernel
theorem dJ9_min_f86c9_1 : decode cJ9_min_f86c9 1 = .ok (.lload_n 2, 1) := by decide +kernel
theorem dJ9_min_f86c9_2 : decode cJ9_min_f86c9 2 = .ok (.lcmp, 1) := by decide +kernel
theorem dJ9_min_f86c9_3 : decode cJ9_min_f86c9 3 = .ok (.ifCond .gt 7, 3) := by decide +kernel
theorem dJ9_min_f86c9_6 : decode cJ9_min_f86c9 6 = .ok (.lload_n 0, 1) := by decide +kernel
theorem dJ9_min_f86c9_7 : decode cJ9_min_f86c9 7 = .ok (.goto 4, 3) := by decide +kernel
theorem dJ9_min_f86c9_10 : decode cJ9_min_f86c9 10 = .ok (.lload_n 2, 1) := by decide +kernel
theorem dJ9_min_f86c9_11 : decode cJ9_min_f86c9 11 = .ok (.lreturn, 1) := by decide +kernel
theorem dJ7_fill_d0a16_0 : decode cJ7_fill_d0a16 0 = .ok (.iconst 0, 1) := by decide +kernel
theorem dJ7_fill_d0a16_1 : decode cJ7_fill_d0a16 1 = .ok (.istore_n 3, 1) := by decide +kernel
theorem dJ7_fill_d0a16_2 : decode cJ7_fill_d0a16 2 = .ok (.aload_n 0, 1) := by decide +kernel
theorem dJ7_fill_d0a16_3 : decode cJ7_fill_d0a16 3 = .ok (.arraylength, 1) := by decide +kernel
theorem dJ7_fill_d0a16_4 : decode cJ7_fill_d0a16 4 = .ok (.istore 4, 2) := by decide +kernel
theorem dJ7_fill_d0a16_6 : decode cJ7_fill_d0a16 6 = .ok (.iload_n 3, 1) := by decide +kernel
theorem dJ7_fill_d0a16_7 : decode cJ7_fill_d0a16 7 = .ok (.iload 4, 2) := by decide +kernel
theorem dJ7_fill_d0a16_9 : decode cJ7_fill_d0a16 9 = .ok (.if_icmp .ge 13, 3) := by decide +kernel
theorem dJ7_fill_d0a16_12 : decode cJ7_fill_d0a16 12 = .ok (.aload_n 0, 1) := by decide +kernel
theorem dJ7_fill_d0a16_13 : decode cJ7_fill_d0a16 13 = .ok (.iload_n 3, 1) := by decide +kernel
theorem dJ7_fill_d0a16_14 : decode cJ7_fill_d0a16 14 = .ok (.lload_n 1, 1) := by decide +kernel
theorem dJ7_fill_d0a16_15 : decode cJ7_fill_d0a16 15 = .ok (.lastore, 1) := by decide +kernel
theorem dJ7_fill_d0a16_16 : decode cJ7_fill_d0a16 16 = .ok (.iinc 3 1, 3) := by decide +kernel
theorem dJ7_fill_d0a16_19 : decode cJ7_fill_d0a16 19 = .ok (.goto (-13), 3) := by decide +kernel
theorem dJ7_fill_d0a16_22 : decode cJ7_fill_d0a16 22 = .ok (.return_, 1) := by decide +kernel
theorem dJ7_fill_53178_0 : decode cJ7_fill_53178 0 = .ok (.iconst 0, 1) := by decide +kernel
theorem dJ7_fill_53178_1 : decode cJ7_fill_53178 1 = .ok (.istore_n 2, 1) := by decide +kernel
theorem dJ7_fill_53178_2 : decode cJ7_fill_53178 2 = .ok (.aload_n 0, 1) := by decide +kernel
theorem dJ7_fill_53178_3 : decode cJ7_fill_53178 3 = .ok (.arraylength, 1) := by decide +kernel
theorem dJ7_fill_53178_4 : decode cJ7_fill_53178 4 = .ok (.istore_n 3, 1) := by decide +kernel
theorem dJ7_fill_53178_5 : decode cJ7_fill_53178 5 = .ok (.iload_n 2, 1) := by decide +kernel
theorem dJ7_fill_53178_6 : decode cJ7_fill_53178 6 = .ok (.iload_n 3, 1) := by decide +kernel
theorem dJ7_fill_53178_7 : decode cJ7_fill_53178 7 = .ok (.if_icmp .ge 13, 3) := by decide +kernel
theorem dJ7_fill_53178_10 : decode cJ7_fill_53178 10 = .ok (.aload_n 0, 1) := by decide +kernel
theorem dJ7_fill_53178_11 : decode cJ7_fill_53178 11 = .ok (.iload_n 2, 1) := by decide +kernel
theorem dJ7_fill_53178_12 : decode cJ7_fill_53178 12 = .ok (.iload_n 1, 1) := by decide +kernel
theorem dJ7_fill_53178_13 : decode cJ7_fill_53178 13 = .ok (.iastore, 1) := by decide +kernel
theorem dJ7_fill_53178_14 : decode cJ7_fill_53178 14 = .ok (.iinc 2 1, 3) := by decide +kernel
theorem dJ7_fill_53178_17 : decode cJ7_fill_53178 17 = .ok (.goto (-12), 3) := by decide +kernel
theorem dJ7_fill_53178_20 : decode cJ7_fill_53178 20 = .ok (.return_, 1) := by decide +kernel
