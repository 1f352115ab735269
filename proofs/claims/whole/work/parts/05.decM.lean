theorem dX11_init_0 : decode cX11_init 0 = .ok (.aload_n 0, 1) := by decide +kernel
theorem dX11_init_1 : decode cX11_init 1 = .ok (.invokespecial 1, 3) := by decide +kernel
theorem dX11_init_4 : decode cX11_init 4 = .ok (.aload_n 0, 1) := by decide +kernel
theorem dX11_init_5 : decode cX11_init 5 = .ok (.iconst 4, 1) := by decide +kernel
theorem dX11_init_6 : decode cX11_init 6 = .ok (.newarray .int, 2) := by decide +kernel
theorem dX11_init_8 : decode cX11_init 8 = .ok (.dup, 1) := by decide +kernel
theorem dX11_init_9 : decode cX11_init 9 = .ok (.iconst 0, 1) := by decide +kernel
theorem dX11_init_10 : decode cX11_init 10 = .ok (.bipush (-9), 2) := by decide +kernel
theorem dX11_init_12 : decode cX11_init 12 = .ok (.iastore, 1) := by decide +kernel
theorem dX11_init_13 : decode cX11_init 13 = .ok (.dup, 1) := by decide +kernel
theorem dX11_init_14 : decode cX11_init 14 = .ok (.iconst 1, 1) := by decide +kernel
theorem dX11_init_15 : decode cX11_init 15 = .ok (.bipush (-9), 2) := by decide +kernel
theorem dX11_init_17 : decode cX11_init 17 = .ok (.iastore, 1) := by decide +kernel
theorem dX11_init_18 : decode cX11_init 18 = .ok (.dup, 1) := by decide +kernel
theorem dX11_init_19 : decode cX11_init 19 = .ok (.iconst 2, 1) := by decide +kernel
theorem dX11_init_20 : decode cX11_init 20 = .ok (.bipush (-9), 2) := by decide +kernel
theorem dX11_init_22 : decode cX11_init 22 = .ok (.iastore, 1) := by decide +kernel
theorem dX11_init_23 : decode cX11_init 23 = .ok (.dup, 1) := by decide +kernel
theorem dX11_init_24 : decode cX11_init 24 = .ok (.iconst 3, 1) := by decide +kernel
theorem dX11_init_25 : decode cX11_init 25 = .ok (.bipush (-9), 2) := by decide +kernel
theorem dX11_init_27 : decode cX11_init 27 = .ok (.iastore, 1) := by decide +kernel
theorem dX11_init_28 : decode cX11_init 28 = .ok (.putfield 9, 3) := by decide +kernel
theorem dX11_init_31 : decode cX11_init 31 = .ok (.aload_n 0, 1) := by decide +kernel
theorem dX11_init_32 : decode cX11_init 32 = .ok (.iconst 4, 1) := by decide +kernel
theorem dX11_init_33 : decode cX11_init 33 = .ok (.newarray .int, 2) := by decide +kernel
theorem dX11_init_35 : decode cX11_init 35 = .ok (.putfield 13, 3) := by decide +kernel
theorem dX11_init_38 : decode cX11_init 38 = .ok (.aload_n 0, 1) := by decide +kernel
theorem dX11_init_39 : decode cX11_init 39 = .ok (.sipush 480, 3) := by decide +kernel
theorem dX11_init_42 : decode cX11_init 42 = .ok (.newarray .int, 2) := by decide +kernel
theorem dX11_init_44 : decode cX11_init 44 = .ok (.putfield 16, 3) := by decide +kernel
theorem dX11_init_47 : decode cX11_init 47 = .ok (.aload_n 0, 1) := by decide +kernel
theorem dX11_init_48 : decode cX11_init 48 = .ok (.bipush 72, 2) := by decide +kernel
theorem dX11_init_50 : decode cX11_init 50 = .ok (.newarray .int, 2) := by decide +kernel
theorem dX11_init_52 : decode cX11_init 52 = .ok (.putfield 19, 3) := by decide +kernel
theorem dX11_init_55 : decode cX11_init 55 = .ok (.aload_n 0, 1) := by decide +kernel
theorem dX11_init_56 : decode cX11_init 56 = .ok (.bipush 72, 2) := by decide +kernel
theorem dX11_init_58 : decode cX11_init 58 = .ok (.newarray .int, 2) := by decide +kernel
theorem dX11_init_60 : decode cX11_init 60 = .ok (.putfield 22, 3) := by decide +kernel
theorem dX11_init_63 : decode cX11_init 63 = .ok (.aload_n 0, 1) := by decide +kernel
theorem dX11_init_64 : decode cX11_init 64 = .ok (.iconst 4, 1) := by decide +kernel
theorem dX11_init_65 : decode cX11_init 65 = .ok (.newarray .int, 2) := by decide +kernel
theorem dX11_init_67 : decode cX11_init 67 = .ok (.putfield 25, 3) := by decide +kernel
theorem dX11_init_70 : decode cX11_init 70 = .ok (.aload_n 0, 1) := by decide +kernel
theorem dX11_init_71 : decode cX11_init 71 = .ok (.iconst 4, 1) := by decide +kernel
theorem dX11_init_72 : decode cX11_init 72 = .ok (.newarray .int, 2) := by decide +kernel
theorem dX11_init_74 : decode cX11_init 74 = .ok (.putfield 28, 3) := by decide +kernel
theorem dX11_init_77 : decode cX11_init 77 = .ok (.aload_n 0, 1) := by decide +kernel
theorem dX11_init_78 : decode cX11_init 78 = .ok (.bipush 6, 2) := by decide +kernel
theorem dX11_init_80 : decode cX11_init 80 = .ok (.newarray .long, 2) := by decide +kernel
theorem dX11_init_82 : decode cX11_init 82 = .ok (.putfield 31, 3) := by decide +kernel
theorem dX11_init_85 : decode cX11_init 85 = .ok (.aload_n 0, 1) := by decide +kernel
theorem dX11_init_86 : decode cX11_init 86 = .ok (.bipush 6, 2) := by decide +kernel
theorem dX11_init_88 : decode cX11_init 88 = .ok (.newarray .long, 2) := by decide +kernel
theorem dX11_init_90 : decode cX11_init 90 = .ok (.putfield 35, 3) := by decide +kernel
theorem dX11_init_93 : decode cX11_init 93 = .ok (.aload_n 0, 1) := by decide +kernel
theorem dX11_init_94 : decode cX11_init 94 = .ok (.bipush 36, 2) := by decide +kernel
theorem dX11_init_96 : decode cX11_init 96 = .ok (.newarray .int, 2) := by decide +kernel
theorem dX11_init_98 : decode cX11_init 98 = .ok (.putfield 38, 3) := by decide +kernel
theorem dX11_init_101 : decode cX11_init 101 = .ok (.aload_n 0, 1) := by decide +kernel
theorem dX11_init_102 : decode cX11_init 102 = .ok (.bipush 6, 2) := by decide +kernel
theorem dX11_init_104 : decode cX11_init 104 = .ok (.newarray .int, 2) := by decide +kernel
theorem dX11_init_106 : decode cX11_init 106 = .ok (.putfield 41, 3) := by decide +kernel
theorem dX11_init_109 : decode cX11_init 109 = .ok (.aload_n 0, 1) := by decide +kernel
theorem dX11_init_110 : decode cX11_init 110 = .ok (.bipush 6, 2) := by decide +kernel
theorem dX11_init_112 : decode cX11_init 112 = .ok (.newarray .int, 2) := by decide +kernel
theorem dX11_init_114 : decode cX11_init 114 = .ok (.putfield 44, 3) := by decide +kernel
theorem dX11_init_117 : decode cX11_init 117 = .ok (.aload_n 0, 1) := by decide +kernel
theorem dX11_init_118 : decode cX11_init 118 = .ok (.bipush 6, 2) := by decide +kernel
theorem dX11_init_120 : decode cX11_init 120 = .ok (.newarray .int, 2) := by decide +kernel
theorem dX11_init_122 : decode cX11_init 122 = .ok (.putfield 47, 3) := by decide +kernel
theorem dX11_init_125 : decode cX11_init 125 = .ok (.aload_n 0, 1) := by decide +kernel
theorem dX11_init_126 : decode cX11_init 126 = .ok (.bipush 6, 2) := by decide +kernel
theorem dX11_init_128 : decode cX11_init 128 = .ok (.newarray .int, 2) := by decide +kernel
theorem dX11_init_130 : decode cX11_init 130 = .ok (.putfield 50, 3) := by decide +kernel
theorem dX11_init_133 : decode cX11_init 133 = .ok (.aload_n 0, 1) := by decide +kernel
theorem dX11_init_134 : decode cX11_init 134 = .ok (.bipush 6, 2) := by decide +kernel
theorem dX11_init_136 : decode cX11_init 136 = .ok (.newarray .int, 2) := by decide +kernel
theorem dX11_init_138 : decode cX11_init 138 = .ok (.putfield 53, 3) := by decide +kernel
theorem dX11_init_141 : decode cX11_init 141 = .ok (.aload_n 0, 1) := by decide +kernel
theorem dX11_init_142 : decode cX11_init 142 = .ok (.bipush 8, 2) := by decide +kernel
theorem dX11_init_144 : decode cX11_init 144 = .ok (.newarray .long, 2) := by decide +kernel
theorem dX11_init_146 : decode cX11_init 146 = .ok (.putfield 56, 3) := by decide +kernel
theorem dX11_init_149 : decode cX11_init 149 = .ok (.aload_n 0, 1) := by decide +kernel
theorem dX11_init_150 : decode cX11_init 150 = .ok (.sipush 12300, 3) := by decide +kernel
theorem dX11_init_153 : decode cX11_init 153 = .ok (.newarray .int, 2) := by decide +kernel
theorem dX11_init_155 : decode cX11_init 155 = .ok (.putfield 59, 3) := by decide +kernel
theorem dX11_init_158 : decode cX11_init 158 = .ok (.aload_n 0, 1) := by decide +kernel
theorem dX11_init_159 : decode cX11_init 159 = .ok (.bipush 9, 2) := by decide +kernel
theorem dX11_init_161 : decode cX11_init 161 = .ok (.newarray .int, 2) := by decide +kernel
theorem dX11_init_163 : decode cX11_init 163 = .ok (.putfield 62, 3) := by decide +kernel
theorem dX11_init_166 : decode cX11_init 166 = .ok (.return_, 1) := by decide +kernel
theorem dX11_fails_0 : decode cX11_fails 0 = .ok (.aload_n 0, 1) := by decide +kernel
theorem dX11_fails_1 : decode cX11_fails 1 = .ok (.iload_n 1, 1) := by decide +kernel
theorem dX11_fails_2 : decode cX11_fails 2 = .ok (.putfield 65, 3) := by decide +kernel
theorem dX11_fails_5 : decode cX11_fails 5 = .ok (.bipush (-10), 2) := by decide +kernel
theorem dX11_fails_7 : decode cX11_fails 7 = .ok (.iload_n 1, 1) := by decide +kernel
theorem dX11_fails_8 : decode cX11_fails 8 = .ok (.isub, 1) := by decide +kernel
theorem dX11_fails_9 : decode cX11_fails 9 = .ok (.ireturn, 1) := by decide +kernel
theorem dX11_lost_0 : decode cX11_lost 0 = .ok (.aload_n 0, 1) := by decide +kernel
theorem dX11_lost_1 : decode cX11_lost 1 = .ok (.iload_n 1, 1) := by decide +kernel
theorem dX11_lost_2 : decode cX11_lost 2 = .ok (.putfield 65, 3) := by decide +kernel
theorem dX11_lost_5 : decode cX11_lost 5 = .ok (.ldc2_w 69, 3) := by decide +kernel
theorem dX11_lost_8 : decode cX11_lost 8 = .ok (.lreturn, 1) := by decide +kernel
theorem dX11_within_0 : decode cX11_within 0 = .ok (.iload_n 0, 1) := by decide +kernel
theorem dX11_within_1 : decode cX11_within 1 = .ok (.iload_n 1, 1) := by decide +kernel
theorem dX11_within_2 : decode cX11_within 2 = .ok (.if_icmp .lt 12, 3) := by decide +kernel
theorem dX11_within_5 : decode cX11_within 5 = .ok (.iload_n 0, 1) := by decide +kernel
theorem dX11_within_6 : decode cX11_within 6 = .ok (.iload_n 2, 1) := by decide +kernel
theorem dX11_within_7 : decode cX11_within 7 = .ok (.if_icmp .gt 7, 3) := by decide +kernel
theorem dX11_within_10 : decode cX11_within 10 = .ok (.iconst 1, 1) := by decide +kernel
theorem dX11_within_11 : decode cX11_within 11 = .ok (.goto 4, 3) := by decide +kernel
theorem dX11_within_14 : decode cX11_within 14 = .ok (.iconst 0, 1) := by decide +kernel
theorem dX11_within_15 : decode cX11_within 15 = .ok (.ireturn, 1) := by decide +kernel
theorem dX11_has_0 : decode cX11_has 0 = .ok (.iload_n 0, 1) := by decide +kernel
theorem dX11_has_1 : decode cX11_has 1 = .ok (.iload_n 1, 1) := by decide +kernel
theorem dX11_has_2 : decode cX11_has 2 = .ok (.ishr, 1) := by decide +kernel
theorem dX11_has_3 : decode cX11_has 3 = .ok (.iconst 1, 1) := by decide +kernel
theorem dX11_has_4 : decode cX11_has 4 = .ok (.iand, 1) := by decide +kernel
theorem dX11_has_5 : decode cX11_has 5 = .ok (.iconst 1, 1) := by decide +kernel
theorem dX11_has_6 : decode cX11_has 6 = .ok (.if_icmp .ne 7, 3) := by decide +kernel
theorem dX11_has_9 : decode cX11_has 9 = .ok (.iconst 1, 1) := by decide +kernel
theorem dX11_has_10 : decode cX11_has 10 = .ok (.goto 4, 3) := by decide +kernel
theorem dX11_has_13 : decode cX11_has 13 = .ok (.iconst 0, 1) := by decide +kernel
theorem dX11_has_14 : decode cX11_has 14 = .ok (.ireturn, 1) := by decide +kernel
theorem dX11_isWhich_0 : decode cX11_isWhich 0 = .ok (.iload_n 0, 1) := by decide +kernel
theorem dX11_isWhich_1 : decode cX11_isWhich 1 = .ok (.iconst 0, 1) := by decide +kernel
theorem dX11_isWhich_2 : decode cX11_isWhich 2 = .ok (.iconst 1, 1) := by decide +kernel
theorem dX11_isWhich_3 : decode cX11_isWhich 3 = .ok (.invokestatic 71, 3) := by decide +kernel
theorem dX11_isWhich_6 : decode cX11_isWhich 6 = .ok (.ireturn, 1) := by decide +kernel
theorem dX11_share_0 : decode cX11_share 0 = .ok (.lload_n 0, 1) := by decide +kernel
theorem dX11_share_1 : decode cX11_share 1 = .ok (.lstore 5, 2) := by decide +kernel
theorem dX11_share_3 : decode cX11_share 3 = .ok (.lload_n 2, 1) := by decide +kernel
theorem dX11_share_4 : decode cX11_share 4 = .ok (.lstore 7, 2) := by decide +kernel
theorem dX11_share_6 : decode cX11_share 6 = .ok (.lload 7, 2) := by decide +kernel
theorem dX11_share_8 : decode cX11_share 8 = .ok (.lconst 0, 1) := by decide +kernel
theorem dX11_share_9 : decode cX11_share 9 = .ok (.lcmp, 1) := by decide +kernel
theorem dX11_share_10 : decode cX11_share 10 = .ok (.ifCond .eq 21, 3) := by decide +kernel
theorem dX11_share_13 : decode cX11_share 13 = .ok (.lload 5, 2) := by decide +kernel
theorem dX11_share_15 : decode cX11_share 15 = .ok (.lload 7, 2) := by decide +kernel
theorem dX11_share_17 : decode cX11_share 17 = .ok (.lrem, 1) := by decide +kernel
theorem dX11_share_18 : decode cX11_share 18 = .ok (.lstore 9, 2) := by decide +kernel
theorem dX11_share_20 : decode cX11_share 20 = .ok (.lload 7, 2) := by decide +kernel
theorem dX11_share_22 : decode cX11_share 22 = .ok (.lstore 5, 2) := by decide +kernel
theorem dX11_share_24 : decode cX11_share 24 = .ok (.lload 9, 2) := by decide +kernel
theorem dX11_share_26 : decode cX11_share 26 = .ok (.lstore 7, 2) := by decide +kernel
theorem dX11_share_28 : decode cX11_share 28 = .ok (.goto (-22), 3) := by decide +kernel
theorem dX11_share_31 : decode cX11_share 31 = .ok (.iload 4, 2) := by decide +kernel
theorem dX11_share_33 : decode cX11_share 33 = .ok (.ifCond .ne 10, 3) := by decide +kernel
theorem dX11_share_36 : decode cX11_share 36 = .ok (.lload_n 0, 1) := by decide +kernel
theorem dX11_share_37 : decode cX11_share 37 = .ok (.lload 5, 2) := by decide +kernel
theorem dX11_share_39 : decode cX11_share 39 = .ok (.ldiv, 1) := by decide +kernel
theorem dX11_share_40 : decode cX11_share 40 = .ok (.goto 7, 3) := by decide +kernel
theorem dX11_share_43 : decode cX11_share 43 = .ok (.lload_n 2, 1) := by decide +kernel
theorem dX11_share_44 : decode cX11_share 44 = .ok (.lload 5, 2) := by decide +kernel
theorem dX11_share_46 : decode cX11_share 46 = .ok (.ldiv, 1) := by decide +kernel
theorem dX11_share_47 : decode cX11_share 47 = .ok (.lreturn, 1) := by decide +kernel
theorem dX11_isSheet_0 : decode cX11_isSheet 0 = .ok (.iload_n 0, 1) := by decide +kernel
theorem dX11_isSheet_1 : decode cX11_isSheet 1 = .ok (.iconst 0, 1) := by decide +kernel
theorem dX11_isSheet_2 : decode cX11_isSheet 2 = .ok (.iconst 3, 1) := by decide +kernel
theorem dX11_isSheet_3 : decode cX11_isSheet 3 = .ok (.invokestatic 71, 3) := by decide +kernel
theorem dX11_isSheet_6 : decode cX11_isSheet 6 = .ok (.ireturn, 1) := by decide +kernel
theorem dX11_isSort_0 : decode cX11_isSort 0 = .ok (.iload_n 0, 1) := by decide +kernel
theorem dX11_isSort_1 : decode cX11_isSort 1 = .ok (.iconst 0, 1) := by decide +kernel
theorem dX11_isSort_2 : decode cX11_isSort 2 = .ok (.iconst 2, 1) := by decide +kernel
theorem dX11_isSort_3 : decode cX11_isSort 3 = .ok (.invokestatic 71, 3) := by decide +kernel
theorem dX11_isSort_6 : decode cX11_isSort 6 = .ok (.ireturn, 1) := by decide +kernel
theorem dX11_against_0 : decode cX11_against 0 = .ok (.aload_n 0, 1) := by decide +kernel
theorem dX11_against_1 : decode cX11_against 1 = .ok (.getfield 9, 3) := by decide +kernel
theorem dX11_against_4 : decode cX11_against 4 = .ok (.iload_n 1, 1) := by decide +kernel
theorem dX11_against_5 : decode cX11_against 5 = .ok (.iaload, 1) := by decide +kernel
theorem dX11_against_6 : decode cX11_against 6 = .ok (.bipush (-9), 2) := by decide +kernel
theorem dX11_against_8 : decode cX11_against 8 = .ok (.if_icmp .eq 15, 3) := by decide +kernel
theorem dX11_against_11 : decode cX11_against 11 = .ok (.aload_n 0, 1) := by decide +kernel
theorem dX11_against_12 : decode cX11_against 12 = .ok (.getfield 9, 3) := by decide +kernel
theorem dX11_against_15 : decode cX11_against 15 = .ok (.iload_n 1, 1) := by decide +kernel
theorem dX11_against_16 : decode cX11_against 16 = .ok (.iaload, 1) := by decide +kernel
theorem dX11_against_17 : decode cX11_against 17 = .ok (.iload_n 2, 1) := by decide +kernel
theorem dX11_against_18 : decode cX11_against 18 = .ok (.if_icmp .eq 5, 3) := by decide +kernel
theorem dX11_against_21 : decode cX11_against 21 = .ok (.iconst 2, 1) := by decide +kernel
theorem dX11_against_22 : decode cX11_against 22 = .ok (.ireturn, 1) := by decide +kernel
theorem dX11_against_23 : decode cX11_against 23 = .ok (.aload_n 0, 1) := by decide +kernel
theorem dX11_against_24 : decode cX11_against 24 = .ok (.getfield 9, 3) := by decide +kernel
theorem dX11_against_27 : decode cX11_against 27 = .ok (.iload_n 1, 1) := by decide +kernel
theorem dX11_against_28 : decode cX11_against 28 = .ok (.iaload, 1) := by decide +kernel
theorem dX11_against_29 : decode cX11_against 29 = .ok (.bipush (-9), 2) := by decide +kernel
theorem dX11_against_31 : decode cX11_against 31 = .ok (.if_icmp .ne 5, 3) := by decide +kernel
theorem dX11_against_34 : decode cX11_against 34 = .ok (.iconst 1, 1) := by decide +kernel
theorem dX11_against_35 : decode cX11_against 35 = .ok (.ireturn, 1) := by decide +kernel
theorem dX11_against_36 : decode cX11_against 36 = .ok (.iload 4, 2) := by decide +kernel
theorem dX11_against_38 : decode cX11_against 38 = .ok (.ifCond .ge 5, 3) := by decide +kernel
theorem dX11_against_41 : decode cX11_against 41 = .ok (.iconst 4, 1) := by decide +kernel
theorem dX11_against_42 : decode cX11_against 42 = .ok (.ireturn, 1) := by decide +kernel
theorem dX11_against_43 : decode cX11_against 43 = .ok (.iload_n 3, 1) := by decide +kernel
theorem dX11_against_44 : decode cX11_against 44 = .ok (.ifCond .lt 26, 3) := by decide +kernel
theorem dX11_against_47 : decode cX11_against 47 = .ok (.iload_n 3, 1) := by decide +kernel
theorem dX11_against_48 : decode cX11_against 48 = .ok (.aload_n 0, 1) := by decide +kernel
theorem dX11_against_49 : decode cX11_against 49 = .ok (.getfield 13, 3) := by decide +kernel
theorem dX11_against_52 : decode cX11_against 52 = .ok (.iload_n 1, 1) := by decide +kernel
theorem dX11_against_53 : decode cX11_against 53 = .ok (.iaload, 1) := by decide +kernel
theorem dX11_against_54 : decode cX11_against 54 = .ok (.if_icmp .gt 16, 3) := by decide +kernel
theorem dX11_against_57 : decode cX11_against 57 = .ok (.iload 4, 2) := by decide +kernel
theorem dX11_against_59 : decode cX11_against 59 = .ok (.aload_n 0, 1) := by decide +kernel
theorem dX11_against_60 : decode cX11_against 60 = .ok (.getfield 13, 3) := by decide +kernel
theorem dX11_against_63 : decode cX11_against 63 = .ok (.iload_n 1, 1) := by decide +kernel
theorem dX11_against_64 : decode cX11_against 64 = .ok (.iaload, 1) := by decide +kernel
theorem dX11_against_65 : decode cX11_against 65 = .ok (.iload_n 3, 1) := by decide +kernel
theorem dX11_against_66 : decode cX11_against 66 = .ok (.isub, 1) := by decide +kernel
theorem dX11_against_67 : decode cX11_against 67 = .ok (.if_icmp .le 7, 3) := by decide +kernel
theorem dX11_against_70 : decode cX11_against 70 = .ok (.iconst 3, 1) := by decide +kernel
theorem dX11_against_71 : decode cX11_against 71 = .ok (.goto 4, 3) := by decide +kernel
theorem dX11_against_74 : decode cX11_against 74 = .ok (.iconst 0, 1) := by decide +kernel
theorem dX11_against_75 : decode cX11_against 75 = .ok (.ireturn, 1) := by decide +kernel
theorem dX11_isWord_0 : decode cX11_isWord 0 = .ok (.iload_n 1, 1) := by decide +kernel
theorem dX11_isWord_1 : decode cX11_isWord 1 = .ok (.ifCond .lt 15, 3) := by decide +kernel
theorem dX11_isWord_4 : decode cX11_isWord 4 = .ok (.iload_n 1, 1) := by decide +kernel
theorem dX11_isWord_5 : decode cX11_isWord 5 = .ok (.aload_n 0, 1) := by decide +kernel
theorem dX11_isWord_6 : decode cX11_isWord 6 = .ok (.getfield 75, 3) := by decide +kernel
theorem dX11_isWord_9 : decode cX11_isWord 9 = .ok (.if_icmp .ge 7, 3) := by decide +kernel
theorem dX11_isWord_12 : decode cX11_isWord 12 = .ok (.iconst 1, 1) := by decide +kernel
theorem dX11_isWord_13 : decode cX11_isWord 13 = .ok (.goto 4, 3) := by decide +kernel
theorem dX11_isWord_16 : decode cX11_isWord 16 = .ok (.iconst 0, 1) := by decide +kernel
theorem dX11_isWord_17 : decode cX11_isWord 17 = .ok (.ireturn, 1) := by decide +kernel
theorem dX11_isEnd_0 : decode cX11_isEnd 0 = .ok (.iload_n 1, 1) := by decide +kernel
theorem dX11_isEnd_1 : decode cX11_isEnd 1 = .ok (.ifCond .lt 22, 3) := by decide +kernel
theorem dX11_isEnd_4 : decode cX11_isEnd 4 = .ok (.iload_n 1, 1) := by decide +kernel
theorem dX11_isEnd_5 : decode cX11_isEnd 5 = .ok (.aload_n 0, 1) := by decide +kernel
theorem dX11_isEnd_6 : decode cX11_isEnd 6 = .ok (.getfield 75, 3) := by decide +kernel
theorem dX11_isEnd_9 : decode cX11_isEnd 9 = .ok (.if_icmp .gt 14, 3) := by decide +kernel
theorem dX11_isEnd_12 : decode cX11_isEnd 12 = .ok (.aload_n 0, 1) := by decide +kernel
theorem dX11_isEnd_13 : decode cX11_isEnd 13 = .ok (.getfield 75, 3) := by decide +kernel
theorem dX11_isEnd_16 : decode cX11_isEnd 16 = .ok (.ifCond .le 7, 3) := by decide +kernel
theorem dX11_isEnd_19 : decode cX11_isEnd 19 = .ok (.iconst 1, 1) := by decide +kernel
theorem dX11_isEnd_20 : decode cX11_isEnd 20 = .ok (.goto 4, 3) := by decide +kernel
theorem dX11_isEnd_23 : decode cX11_isEnd 23 = .ok (.iconst 0, 1) := by decide +kernel
theorem dX11_isEnd_24 : decode cX11_isEnd 24 = .ok (.ireturn, 1) := by decide +kernel
theorem dX11_isWay_0 : decode cX11_isWay 0 = .ok (.iload_n 0, 1) := by decide +kernel
theorem dX11_isWay_1 : decode cX11_isWay 1 = .ok (.iconst 0, 1) := by decide +kernel
theorem dX11_isWay_2 : decode cX11_isWay 2 = .ok (.iconst 1, 1) := by decide +kernel
theorem dX11_isWay_3 : decode cX11_isWay 3 = .ok (.invokestatic 71, 3) := by decide +kernel
theorem dX11_isWay_6 : decode cX11_isWay 6 = .ok (.ireturn, 1) := by decide +kernel
theorem dX11_digitAt_0 : decode cX11_digitAt 0 = .ok (.iload_n 1, 1) := by decide +kernel
theorem dX11_digitAt_1 : decode cX11_digitAt 1 = .ok (.iload_n 2, 1) := by decide +kernel
theorem dX11_digitAt_2 : decode cX11_digitAt 2 = .ok (.if_icmp .ge 31, 3) := by decide +kernel
theorem dX11_digitAt_5 : decode cX11_digitAt 5 = .ok (.aload_n 0, 1) := by decide +kernel
theorem dX11_digitAt_6 : decode cX11_digitAt 6 = .ok (.getfield 16, 3) := by decide +kernel
theorem dX11_digitAt_9 : decode cX11_digitAt 9 = .ok (.iload_n 1, 1) := by decide +kernel
theorem dX11_digitAt_10 : decode cX11_digitAt 10 = .ok (.iaload, 1) := by decide +kernel
theorem dX11_digitAt_11 : decode cX11_digitAt 11 = .ok (.bipush 48, 2) := by decide +kernel
theorem dX11_digitAt_13 : decode cX11_digitAt 13 = .ok (.bipush 57, 2) := by decide +kernel
theorem dX11_digitAt_15 : decode cX11_digitAt 15 = .ok (.invokestatic 71, 3) := by decide +kernel
theorem dX11_digitAt_18 : decode cX11_digitAt 18 = .ok (.ifCond .eq 15, 3) := by decide +kernel
theorem dX11_digitAt_21 : decode cX11_digitAt 21 = .ok (.aload_n 0, 1) := by decide +kernel
theorem dX11_digitAt_22 : decode cX11_digitAt 22 = .ok (.getfield 16, 3) := by decide +kernel
theorem dX11_digitAt_25 : decode cX11_digitAt 25 = .ok (.iload_n 1, 1) := by decide +kernel
theorem dX11_digitAt_26 : decode cX11_digitAt 26 = .ok (.iaload, 1) := by decide +kernel
theorem dX11_digitAt_27 : decode cX11_digitAt 27 = .ok (.bipush 48, 2) := by decide +kernel
theorem dX11_digitAt_29 : decode cX11_digitAt 29 = .ok (.isub, 1) := by decide +kernel
theorem dX11_digitAt_30 : decode cX11_digitAt 30 = .ok (.goto 5, 3) := by decide +kernel
theorem dX11_digitAt_33 : decode cX11_digitAt 33 = .ok (.bipush (-9), 2) := by decide +kernel
theorem dX11_digitAt_35 : decode cX11_digitAt 35 = .ok (.ireturn, 1) := by decide +kernel
theorem dX11_isCode_0 : decode cX11_isCode 0 = .ok (.aload_n 0, 1) := by decide +kernel
theorem dX11_isCode_1 : decode cX11_isCode 1 = .ok (.getfield 78, 3) := by decide +kernel
theorem dX11_isCode_4 : decode cX11_isCode 4 = .ok (.iload_n 2, 1) := by decide +kernel
theorem dX11_isCode_5 : decode cX11_isCode 5 = .ok (.if_icmp .ge 20, 3) := by decide +kernel
theorem dX11_isCode_8 : decode cX11_isCode 8 = .ok (.aload_n 0, 1) := by decide +kernel
theorem dX11_isCode_9 : decode cX11_isCode 9 = .ok (.getfield 16, 3) := by decide +kernel
theorem dX11_isCode_12 : decode cX11_isCode 12 = .ok (.aload_n 0, 1) := by decide +kernel
theorem dX11_isCode_13 : decode cX11_isCode 13 = .ok (.getfield 78, 3) := by decide +kernel
theorem dX11_isCode_16 : decode cX11_isCode 16 = .ok (.iaload, 1) := by decide +kernel
theorem dX11_isCode_17 : decode cX11_isCode 17 = .ok (.iload_n 1, 1) := by decide +kernel
theorem dX11_isCode_18 : decode cX11_isCode 18 = .ok (.if_icmp .ne 7, 3) := by decide +kernel
theorem dX11_isCode_21 : decode cX11_isCode 21 = .ok (.iconst 1, 1) := by decide +kernel
theorem dX11_isCode_22 : decode cX11_isCode 22 = .ok (.goto 4, 3) := by decide +kernel
theorem dX11_isCode_25 : decode cX11_isCode 25 = .ok (.iconst 0, 1) := by decide +kernel
theorem dX11_isCode_26 : decode cX11_isCode 26 = .ok (.ireturn, 1) := by decide +kernel
theorem dX11_tongues_0 : decode cX11_tongues 0 = .ok (.aload_n 0, 1) := by decide +kernel
theorem dX11_tongues_1 : decode cX11_tongues 1 = .ok (.iconst 0, 1) := by decide +kernel
theorem dX11_tongues_2 : decode cX11_tongues 2 = .ok (.putfield 65, 3) := by decide +kernel
theorem dX11_tongues_5 : decode cX11_tongues 5 = .ok (.iload_n 1, 1) := by decide +kernel
theorem dX11_tongues_6 : decode cX11_tongues 6 = .ok (.invokestatic 81, 3) := by decide +kernel
theorem dX11_tongues_9 : decode cX11_tongues 9 = .ok (.ifCond .ne 5, 3) := by decide +kernel
theorem dX11_tongues_12 : decode cX11_tongues 12 = .ok (.iconst (-1), 1) := by decide +kernel
theorem dX11_tongues_13 : decode cX11_tongues 13 = .ok (.ireturn, 1) := by decide +kernel
theorem dX11_tongues_14 : decode cX11_tongues 14 = .ok (.iload_n 2, 1) := by decide +kernel
theorem dX11_tongues_15 : decode cX11_tongues 15 = .ok (.invokestatic 85, 3) := by decide +kernel
theorem dX11_tongues_18 : decode cX11_tongues 18 = .ok (.ifCond .ne 6, 3) := by decide +kernel
theorem dX11_tongues_21 : decode cX11_tongues 21 = .ok (.bipush (-2), 2) := by decide +kernel
theorem dX11_tongues_23 : decode cX11_tongues 23 = .ok (.ireturn, 1) := by decide +kernel
theorem dX11_tongues_24 : decode cX11_tongues 24 = .ok (.aload_n 0, 1) := by decide +kernel
theorem dX11_tongues_25 : decode cX11_tongues 25 = .ok (.iload_n 1, 1) := by decide +kernel
theorem dX11_tongues_26 : decode cX11_tongues 26 = .ok (.iload_n 2, 1) := by decide +kernel
theorem dX11_tongues_27 : decode cX11_tongues 27 = .ok (.iload_n 3, 1) := by decide +kernel
theorem dX11_tongues_28 : decode cX11_tongues 28 = .ok (.iload 4, 2) := by decide +kernel
theorem dX11_tongues_30 : decode cX11_tongues 30 = .ok (.invokevirtual 88, 3) := by decide +kernel
theorem dX11_tongues_33 : decode cX11_tongues 33 = .ok (.istore 5, 2) := by decide +kernel
theorem dX11_tongues_35 : decode cX11_tongues 35 = .ok (.iload 5, 2) := by decide +kernel
theorem dX11_tongues_37 : decode cX11_tongues 37 = .ok (.ifCond .eq 10, 3) := by decide +kernel
theorem dX11_tongues_40 : decode cX11_tongues 40 = .ok (.aload_n 0, 1) := by decide +kernel
theorem dX11_tongues_41 : decode cX11_tongues 41 = .ok (.iload 5, 2) := by decide +kernel
theorem dX11_tongues_43 : decode cX11_tongues 43 = .ok (.invokevirtual 92, 3) := by decide +kernel
theorem dX11_tongues_46 : decode cX11_tongues 46 = .ok (.ireturn, 1) := by decide +kernel
theorem dX11_tongues_47 : decode cX11_tongues 47 = .ok (.bipush 120, 2) := by decide +kernel
theorem dX11_tongues_49 : decode cX11_tongues 49 = .ok (.iload_n 1, 1) := by decide +kernel
theorem dX11_tongues_50 : decode cX11_tongues 50 = .ok (.imul, 1) := by decide +kernel
theorem dX11_tongues_51 : decode cX11_tongues 51 = .ok (.iload_n 3, 1) := by decide +kernel
theorem dX11_tongues_52 : decode cX11_tongues 52 = .ok (.iadd, 1) := by decide +kernel
theorem dX11_tongues_53 : decode cX11_tongues 53 = .ok (.istore 6, 2) := by decide +kernel
theorem dX11_tongues_55 : decode cX11_tongues 55 = .ok (.aload_n 0, 1) := by decide +kernel
theorem dX11_tongues_56 : decode cX11_tongues 56 = .ok (.iload 6, 2) := by decide +kernel
theorem dX11_tongues_58 : decode cX11_tongues 58 = .ok (.putfield 78, 3) := by decide +kernel
theorem dX11_tongues_61 : decode cX11_tongues 61 = .ok (.aload_n 0, 1) := by decide +kernel
theorem dX11_tongues_62 : decode cX11_tongues 62 = .ok (.iload 6, 2) := by decide +kernel
theorem dX11_tongues_64 : decode cX11_tongues 64 = .ok (.iload 4, 2) := by decide +kernel
theorem dX11_tongues_66 : decode cX11_tongues 66 = .ok (.iadd, 1) := by decide +kernel
theorem dX11_tongues_67 : decode cX11_tongues 67 = .ok (.invokevirtual 96, 3) := by decide +kernel
theorem dX11_tongues_70 : decode cX11_tongues 70 = .ok (.ifCond .ne 14, 3) := by decide +kernel
theorem dX11_tongues_73 : decode cX11_tongues 73 = .ok (.bipush (-100), 2) := by decide +kernel
theorem dX11_tongues_75 : decode cX11_tongues 75 = .ok (.aload_n 0, 1) := by decide +kernel
theorem dX11_tongues_76 : decode cX11_tongues 76 = .ok (.getfield 78, 3) := by decide +kernel
theorem dX11_tongues_79 : decode cX11_tongues 79 = .ok (.iload 6, 2) := by decide +kernel
theorem dX11_tongues_81 : decode cX11_tongues 81 = .ok (.isub, 1) := by decide +kernel
theorem dX11_tongues_82 : decode cX11_tongues 82 = .ok (.isub, 1) := by decide +kernel
theorem dX11_tongues_83 : decode cX11_tongues 83 = .ok (.ireturn, 1) := by decide +kernel
theorem dX11_tongues_84 : decode cX11_tongues 84 = .ok (.aload_n 0, 1) := by decide +kernel
theorem dX11_tongues_85 : decode cX11_tongues 85 = .ok (.aload_n 0, 1) := by decide +kernel
theorem dX11_tongues_86 : decode cX11_tongues 86 = .ok (.getfield 99, 3) := by decide +kernel
theorem dX11_tongues_89 : decode cX11_tongues 89 = .ok (.putfield 75, 3) := by decide +kernel
theorem dX11_tongues_92 : decode cX11_tongues 92 = .ok (.iconst 0, 1) := by decide +kernel
theorem dX11_tongues_93 : decode cX11_tongues 93 = .ok (.istore 7, 2) := by decide +kernel
theorem dX11_tongues_95 : decode cX11_tongues 95 = .ok (.iload 7, 2) := by decide +kernel
theorem dX11_tongues_97 : decode cX11_tongues 97 = .ok (.bipush 72, 2) := by decide +kernel
theorem dX11_tongues_99 : decode cX11_tongues 99 = .ok (.if_icmp .ge 23, 3) := by decide +kernel
theorem dX11_tongues_102 : decode cX11_tongues 102 = .ok (.aload_n 0, 1) := by decide +kernel
theorem dX11_tongues_103 : decode cX11_tongues 103 = .ok (.getfield 19, 3) := by decide +kernel
theorem dX11_tongues_106 : decode cX11_tongues 106 = .ok (.iload 7, 2) := by decide +kernel
theorem dX11_tongues_108 : decode cX11_tongues 108 = .ok (.aload_n 0, 1) := by decide +kernel
theorem dX11_tongues_109 : decode cX11_tongues 109 = .ok (.getfield 22, 3) := by decide +kernel
theorem dX11_tongues_112 : decode cX11_tongues 112 = .ok (.iload 7, 2) := by decide +kernel
theorem dX11_tongues_114 : decode cX11_tongues 114 = .ok (.iaload, 1) := by decide +kernel
theorem dX11_tongues_115 : decode cX11_tongues 115 = .ok (.iastore, 1) := by decide +kernel
theorem dX11_tongues_116 : decode cX11_tongues 116 = .ok (.iinc 7 1, 3) := by decide +kernel
theorem dX11_tongues_119 : decode cX11_tongues 119 = .ok (.goto (-24), 3) := by decide +kernel
theorem dX11_tongues_122 : decode cX11_tongues 122 = .ok (.aload_n 0, 1) := by decide +kernel
theorem dX11_tongues_123 : decode cX11_tongues 123 = .ok (.iconst 0, 1) := by decide +kernel
theorem dX11_tongues_124 : decode cX11_tongues 124 = .ok (.putfield 102, 3) := by decide +kernel
theorem dX11_tongues_127 : decode cX11_tongues 127 = .ok (.aload_n 0, 1) := by decide +kernel
theorem dX11_tongues_128 : decode cX11_tongues 128 = .ok (.iconst 0, 1) := by decide +kernel
theorem dX11_tongues_129 : decode cX11_tongues 129 = .ok (.putfield 106, 3) := by decide +kernel
theorem dX11_tongues_132 : decode cX11_tongues 132 = .ok (.aload_n 0, 1) := by decide +kernel
theorem dX11_tongues_133 : decode cX11_tongues 133 = .ok (.iconst 0, 1) := by decide +kernel
theorem dX11_tongues_134 : decode cX11_tongues 134 = .ok (.putfield 109, 3) := by decide +kernel
theorem dX11_tongues_137 : decode cX11_tongues 137 = .ok (.aload_n 0, 1) := by decide +kernel
theorem dX11_tongues_138 : decode cX11_tongues 138 = .ok (.getfield 75, 3) := by decide +kernel
theorem dX11_tongues_141 : decode cX11_tongues 141 = .ok (.ireturn, 1) := by decide +kernel
theorem dX11_readTongues_0 : decode cX11_readTongues 0 = .ok (.aload_n 0, 1) := by decide +kernel
theorem dX11_readTongues_1 : decode cX11_readTongues 1 = .ok (.bipush 119, 2) := by decide +kernel
theorem dX11_readTongues_3 : decode cX11_readTongues 3 = .ok (.iload_n 1, 1) := by decide +kernel
theorem dX11_readTongues_4 : decode cX11_readTongues 4 = .ok (.invokevirtual 112, 3) := by decide +kernel
theorem dX11_readTongues_7 : decode cX11_readTongues 7 = .ok (.ifCond .ne 5, 3) := by decide +kernel
theorem dX11_readTongues_10 : decode cX11_readTongues 10 = .ok (.iconst 0, 1) := by decide +kernel
theorem dX11_readTongues_11 : decode cX11_readTongues 11 = .ok (.ireturn, 1) := by decide +kernel
theorem dX11_readTongues_12 : decode cX11_readTongues 12 = .ok (.aload_n 0, 1) := by decide +kernel
theorem dX11_readTongues_13 : decode cX11_readTongues 13 = .ok (.dup, 1) := by decide +kernel
theorem dX11_readTongues_14 : decode cX11_readTongues 14 = .ok (.getfield 78, 3) := by decide +kernel
theorem dX11_readTongues_17 : decode cX11_readTongues 17 = .ok (.iconst 1, 1) := by decide +kernel
theorem dX11_readTongues_18 : decode cX11_readTongues 18 = .ok (.iadd, 1) := by decide +kernel
theorem dX11_readTongues_19 : decode cX11_readTongues 19 = .ok (.putfield 78, 3) := by decide +kernel
theorem dX11_readTongues_22 : decode cX11_readTongues 22 = .ok (.aload_n 0, 1) := by decide +kernel
theorem dX11_readTongues_23 : decode cX11_readTongues 23 = .ok (.aload_n 0, 1) := by decide +kernel
theorem dX11_readTongues_24 : decode cX11_readTongues 24 = .ok (.aload_n 0, 1) := by decide +kernel
theorem dX11_readTongues_25 : decode cX11_readTongues 25 = .ok (.getfield 78, 3) := by decide +kernel
theorem dX11_readTongues_28 : decode cX11_readTongues 28 = .ok (.iload_n 1, 1) := by decide +kernel
theorem dX11_readTongues_29 : decode cX11_readTongues 29 = .ok (.invokevirtual 116, 3) := by decide +kernel
theorem dX11_readTongues_32 : decode cX11_readTongues 32 = .ok (.putfield 99, 3) := by decide +kernel
theorem dX11_readTongues_35 : decode cX11_readTongues 35 = .ok (.aload_n 0, 1) := by decide +kernel
theorem dX11_readTongues_36 : decode cX11_readTongues 36 = .ok (.getfield 99, 3) := by decide +kernel
theorem dX11_readTongues_39 : decode cX11_readTongues 39 = .ok (.iconst 2, 1) := by decide +kernel
theorem dX11_readTongues_40 : decode cX11_readTongues 40 = .ok (.bipush 6, 2) := by decide +kernel
theorem dX11_readTongues_42 : decode cX11_readTongues 42 = .ok (.invokestatic 71, 3) := by decide +kernel
theorem dX11_readTongues_45 : decode cX11_readTongues 45 = .ok (.ifCond .ne 5, 3) := by decide +kernel
theorem dX11_readTongues_48 : decode cX11_readTongues 48 = .ok (.iconst 0, 1) := by decide +kernel
theorem dX11_readTongues_49 : decode cX11_readTongues 49 = .ok (.ireturn, 1) := by decide +kernel
theorem dX11_readTongues_50 : decode cX11_readTongues 50 = .ok (.aload_n 0, 1) := by decide +kernel
theorem dX11_readTongues_51 : decode cX11_readTongues 51 = .ok (.dup, 1) := by decide +kernel
theorem dX11_readTongues_52 : decode cX11_readTongues 52 = .ok (.getfield 78, 3) := by decide +kernel
theorem dX11_readTongues_55 : decode cX11_readTongues 55 = .ok (.iconst 1, 1) := by decide +kernel
theorem dX11_readTongues_56 : decode cX11_readTongues 56 = .ok (.iadd, 1) := by decide +kernel
theorem dX11_readTongues_57 : decode cX11_readTongues 57 = .ok (.putfield 78, 3) := by decide +kernel
theorem dX11_readTongues_60 : decode cX11_readTongues 60 = .ok (.aload_n 0, 1) := by decide +kernel
theorem dX11_readTongues_61 : decode cX11_readTongues 61 = .ok (.iconst 0, 1) := by decide +kernel
theorem dX11_readTongues_62 : decode cX11_readTongues 62 = .ok (.aload_n 0, 1) := by decide +kernel
theorem dX11_readTongues_63 : decode cX11_readTongues 63 = .ok (.getfield 99, 3) := by decide +kernel
theorem dX11_readTongues_66 : decode cX11_readTongues 66 = .ok (.iload_n 1, 1) := by decide +kernel
theorem dX11_readTongues_67 : decode cX11_readTongues 67 = .ok (.invokevirtual 120, 3) := by decide +kernel
theorem dX11_readTongues_70 : decode cX11_readTongues 70 = .ok (.ifCond .ne 5, 3) := by decide +kernel
theorem dX11_readTongues_73 : decode cX11_readTongues 73 = .ok (.iconst 0, 1) := by decide +kernel
theorem dX11_readTongues_74 : decode cX11_readTongues 74 = .ok (.ireturn, 1) := by decide +kernel
theorem dX11_readTongues_75 : decode cX11_readTongues 75 = .ok (.aload_n 0, 1) := by decide +kernel
theorem dX11_readTongues_76 : decode cX11_readTongues 76 = .ok (.bipush 59, 2) := by decide +kernel
theorem dX11_readTongues_78 : decode cX11_readTongues 78 = .ok (.iload_n 1, 1) := by decide +kernel
theorem dX11_readTongues_79 : decode cX11_readTongues 79 = .ok (.invokevirtual 112, 3) := by decide +kernel
theorem dX11_readTongues_82 : decode cX11_readTongues 82 = .ok (.ifCond .ne 5, 3) := by decide +kernel
theorem dX11_readTongues_85 : decode cX11_readTongues 85 = .ok (.iconst 0, 1) := by decide +kernel
theorem dX11_readTongues_86 : decode cX11_readTongues 86 = .ok (.ireturn, 1) := by decide +kernel
theorem dX11_readTongues_87 : decode cX11_readTongues 87 = .ok (.aload_n 0, 1) := by decide +kernel
theorem dX11_readTongues_88 : decode cX11_readTongues 88 = .ok (.dup, 1) := by decide +kernel
theorem dX11_readTongues_89 : decode cX11_readTongues 89 = .ok (.getfield 78, 3) := by decide +kernel
theorem dX11_readTongues_92 : decode cX11_readTongues 92 = .ok (.iconst 1, 1) := by decide +kernel
theorem dX11_readTongues_93 : decode cX11_readTongues 93 = .ok (.iadd, 1) := by decide +kernel
theorem dX11_readTongues_94 : decode cX11_readTongues 94 = .ok (.putfield 78, 3) := by decide +kernel
theorem dX11_readTongues_97 : decode cX11_readTongues 97 = .ok (.aload_n 0, 1) := by decide +kernel
theorem dX11_readTongues_98 : decode cX11_readTongues 98 = .ok (.bipush 98, 2) := by decide +kernel
theorem dX11_readTongues_100 : decode cX11_readTongues 100 = .ok (.iload_n 1, 1) := by decide +kernel
theorem dX11_readTongues_101 : decode cX11_readTongues 101 = .ok (.invokevirtual 112, 3) := by decide +kernel
theorem dX11_readTongues_104 : decode cX11_readTongues 104 = .ok (.ifCond .ne 5, 3) := by decide +kernel
theorem dX11_readTongues_107 : decode cX11_readTongues 107 = .ok (.iconst 0, 1) := by decide +kernel
theorem dX11_readTongues_108 : decode cX11_readTongues 108 = .ok (.ireturn, 1) := by decide +kernel
theorem dX11_readTongues_109 : decode cX11_readTongues 109 = .ok (.aload_n 0, 1) := by decide +kernel
theorem dX11_readTongues_110 : decode cX11_readTongues 110 = .ok (.dup, 1) := by decide +kernel
theorem dX11_readTongues_111 : decode cX11_readTongues 111 = .ok (.getfield 78, 3) := by decide +kernel
theorem dX11_readTongues_114 : decode cX11_readTongues 114 = .ok (.iconst 1, 1) := by decide +kernel
theorem dX11_readTongues_115 : decode cX11_readTongues 115 = .ok (.iadd, 1) := by decide +kernel
theorem dX11_readTongues_116 : decode cX11_readTongues 116 = .ok (.putfield 78, 3) := by decide +kernel
theorem dX11_readTongues_119 : decode cX11_readTongues 119 = .ok (.aload_n 0, 1) := by decide +kernel
theorem dX11_readTongues_120 : decode cX11_readTongues 120 = .ok (.bipush 36, 2) := by decide +kernel
theorem dX11_readTongues_122 : decode cX11_readTongues 122 = .ok (.aload_n 0, 1) := by decide +kernel
theorem dX11_readTongues_123 : decode cX11_readTongues 123 = .ok (.getfield 99, 3) := by decide +kernel
theorem dX11_readTongues_126 : decode cX11_readTongues 126 = .ok (.iload_n 1, 1) := by decide +kernel
theorem dX11_readTongues_127 : decode cX11_readTongues 127 = .ok (.invokevirtual 120, 3) := by decide +kernel
theorem dX11_readTongues_130 : decode cX11_readTongues 130 = .ok (.ifCond .eq 15, 3) := by decide +kernel
theorem dX11_readTongues_133 : decode cX11_readTongues 133 = .ok (.aload_n 0, 1) := by decide +kernel
theorem dX11_readTongues_134 : decode cX11_readTongues 134 = .ok (.getfield 78, 3) := by decide +kernel
theorem dX11_readTongues_137 : decode cX11_readTongues 137 = .ok (.iload_n 1, 1) := by decide +kernel
theorem dX11_readTongues_138 : decode cX11_readTongues 138 = .ok (.if_icmp .ne 7, 3) := by decide +kernel
theorem dX11_readTongues_141 : decode cX11_readTongues 141 = .ok (.iconst 1, 1) := by decide +kernel
theorem dX11_readTongues_142 : decode cX11_readTongues 142 = .ok (.goto 4, 3) := by decide +kernel
theorem dX11_readTongues_145 : decode cX11_readTongues 145 = .ok (.iconst 0, 1) := by decide +kernel
theorem dX11_readTongues_146 : decode cX11_readTongues 146 = .ok (.ireturn, 1) := by decide +kernel
theorem dX11_readRows_0 : decode cX11_readRows 0 = .ok (.iconst 0, 1) := by decide +kernel
theorem dX11_readRows_1 : decode cX11_readRows 1 = .ok (.istore 4, 2) := by decide +kernel
theorem dX11_readRows_3 : decode cX11_readRows 3 = .ok (.iload 4, 2) := by decide +kernel
theorem dX11_readRows_5 : decode cX11_readRows 5 = .ok (.iload_n 2, 1) := by decide +kernel
theorem dX11_readRows_6 : decode cX11_readRows 6 = .ok (.if_icmp .ge 129, 3) := by decide +kernel
theorem dX11_readRows_9 : decode cX11_readRows 9 = .ok (.aload_n 0, 1) := by decide +kernel
theorem dX11_readRows_10 : decode cX11_readRows 10 = .ok (.bipush 59, 2) := by decide +kernel
theorem dX11_readRows_12 : decode cX11_readRows 12 = .ok (.iload_n 3, 1) := by decide +kernel
theorem dX11_readRows_13 : decode cX11_readRows 13 = .ok (.invokevirtual 112, 3) := by decide +kernel
theorem dX11_readRows_16 : decode cX11_readRows 16 = .ok (.ifCond .ne 5, 3) := by decide +kernel
theorem dX11_readRows_19 : decode cX11_readRows 19 = .ok (.iconst 0, 1) := by decide +kernel
theorem dX11_readRows_20 : decode cX11_readRows 20 = .ok (.ireturn, 1) := by decide +kernel
theorem dX11_readRows_21 : decode cX11_readRows 21 = .ok (.aload_n 0, 1) := by decide +kernel
theorem dX11_readRows_22 : decode cX11_readRows 22 = .ok (.dup, 1) := by decide +kernel
theorem dX11_readRows_23 : decode cX11_readRows 23 = .ok (.getfield 78, 3) := by decide +kernel
theorem dX11_readRows_26 : decode cX11_readRows 26 = .ok (.iconst 1, 1) := by decide +kernel
theorem dX11_readRows_27 : decode cX11_readRows 27 = .ok (.iadd, 1) := by decide +kernel
theorem dX11_readRows_28 : decode cX11_readRows 28 = .ok (.putfield 78, 3) := by decide +kernel
theorem dX11_readRows_31 : decode cX11_readRows 31 = .ok (.iconst 0, 1) := by decide +kernel
theorem dX11_readRows_32 : decode cX11_readRows 32 = .ok (.istore 5, 2) := by decide +kernel
theorem dX11_readRows_34 : decode cX11_readRows 34 = .ok (.iconst 0, 1) := by decide +kernel
theorem dX11_readRows_35 : decode cX11_readRows 35 = .ok (.istore 6, 2) := by decide +kernel
theorem dX11_readRows_37 : decode cX11_readRows 37 = .ok (.iload 6, 2) := by decide +kernel
theorem dX11_readRows_39 : decode cX11_readRows 39 = .ok (.iload_n 2, 1) := by decide +kernel
theorem dX11_readRows_40 : decode cX11_readRows 40 = .ok (.if_icmp .ge 89, 3) := by decide +kernel
theorem dX11_readRows_43 : decode cX11_readRows 43 = .ok (.aload_n 0, 1) := by decide +kernel
theorem dX11_readRows_44 : decode cX11_readRows 44 = .ok (.aload_n 0, 1) := by decide +kernel
theorem dX11_readRows_45 : decode cX11_readRows 45 = .ok (.getfield 78, 3) := by decide +kernel
theorem dX11_readRows_48 : decode cX11_readRows 48 = .ok (.iload_n 3, 1) := by decide +kernel
theorem dX11_readRows_49 : decode cX11_readRows 49 = .ok (.invokevirtual 116, 3) := by decide +kernel
theorem dX11_readRows_52 : decode cX11_readRows 52 = .ok (.istore 7, 2) := by decide +kernel
theorem dX11_readRows_54 : decode cX11_readRows 54 = .ok (.iload 7, 2) := by decide +kernel
theorem dX11_readRows_56 : decode cX11_readRows 56 = .ok (.bipush (-9), 2) := by decide +kernel
theorem dX11_readRows_58 : decode cX11_readRows 58 = .ok (.if_icmp .eq 29, 3) := by decide +kernel
theorem dX11_readRows_61 : decode cX11_readRows 61 = .ok (.iload 5, 2) := by decide +kernel
theorem dX11_readRows_63 : decode cX11_readRows 63 = .ok (.iload 7, 2) := by decide +kernel
theorem dX11_readRows_65 : decode cX11_readRows 65 = .ok (.iadd, 1) := by decide +kernel
theorem dX11_readRows_66 : decode cX11_readRows 66 = .ok (.bipush 12, 2) := by decide +kernel
theorem dX11_readRows_68 : decode cX11_readRows 68 = .ok (.if_icmp .gt 19, 3) := by decide +kernel
theorem dX11_readRows_71 : decode cX11_readRows 71 = .ok (.iload 6, 2) := by decide +kernel
theorem dX11_readRows_73 : decode cX11_readRows 73 = .ok (.iload_n 2, 1) := by decide +kernel
theorem dX11_readRows_74 : decode cX11_readRows 74 = .ok (.iconst 1, 1) := by decide +kernel
theorem dX11_readRows_75 : decode cX11_readRows 75 = .ok (.isub, 1) := by decide +kernel
theorem dX11_readRows_76 : decode cX11_readRows 76 = .ok (.if_icmp .ne 13, 3) := by decide +kernel
theorem dX11_readRows_79 : decode cX11_readRows 79 = .ok (.iload 5, 2) := by decide +kernel
theorem dX11_readRows_81 : decode cX11_readRows 81 = .ok (.iload 7, 2) := by decide +kernel
theorem dX11_readRows_83 : decode cX11_readRows 83 = .ok (.iadd, 1) := by decide +kernel
theorem dX11_readRows_84 : decode cX11_readRows 84 = .ok (.ifCond .ne 5, 3) := by decide +kernel
theorem dX11_readRows_87 : decode cX11_readRows 87 = .ok (.iconst 0, 1) := by decide +kernel
theorem dX11_readRows_88 : decode cX11_readRows 88 = .ok (.ireturn, 1) := by decide +kernel
theorem dX11_readRows_89 : decode cX11_readRows 89 = .ok (.aload_n 0, 1) := by decide +kernel
theorem dX11_readRows_90 : decode cX11_readRows 90 = .ok (.getfield 22, 3) := by decide +kernel
theorem dX11_readRows_93 : decode cX11_readRows 93 = .ok (.iload_n 1, 1) := by decide +kernel
theorem dX11_readRows_94 : decode cX11_readRows 94 = .ok (.bipush 6, 2) := by decide +kernel
theorem dX11_readRows_96 : decode cX11_readRows 96 = .ok (.iload 4, 2) := by decide +kernel
theorem dX11_readRows_98 : decode cX11_readRows 98 = .ok (.imul, 1) := by decide +kernel
theorem dX11_readRows_99 : decode cX11_readRows 99 = .ok (.iadd, 1) := by decide +kernel
theorem dX11_readRows_100 : decode cX11_readRows 100 = .ok (.iload 6, 2) := by decide +kernel
theorem dX11_readRows_102 : decode cX11_readRows 102 = .ok (.iadd, 1) := by decide +kernel
theorem dX11_readRows_103 : decode cX11_readRows 103 = .ok (.iload 7, 2) := by decide +kernel
theorem dX11_readRows_105 : decode cX11_readRows 105 = .ok (.iastore, 1) := by decide +kernel
theorem dX11_readRows_106 : decode cX11_readRows 106 = .ok (.iload 5, 2) := by decide +kernel
theorem dX11_readRows_108 : decode cX11_readRows 108 = .ok (.iload 7, 2) := by decide +kernel
theorem dX11_readRows_110 : decode cX11_readRows 110 = .ok (.iadd, 1) := by decide +kernel
theorem dX11_readRows_111 : decode cX11_readRows 111 = .ok (.istore 5, 2) := by decide +kernel
theorem dX11_readRows_113 : decode cX11_readRows 113 = .ok (.aload_n 0, 1) := by decide +kernel
theorem dX11_readRows_114 : decode cX11_readRows 114 = .ok (.dup, 1) := by decide +kernel
theorem dX11_readRows_115 : decode cX11_readRows 115 = .ok (.getfield 78, 3) := by decide +kernel
theorem dX11_readRows_118 : decode cX11_readRows 118 = .ok (.iconst 1, 1) := by decide +kernel
theorem dX11_readRows_119 : decode cX11_readRows 119 = .ok (.iadd, 1) := by decide +kernel
theorem dX11_readRows_120 : decode cX11_readRows 120 = .ok (.putfield 78, 3) := by decide +kernel
theorem dX11_readRows_123 : decode cX11_readRows 123 = .ok (.iinc 6 1, 3) := by decide +kernel
theorem dX11_readRows_126 : decode cX11_readRows 126 = .ok (.goto (-89), 3) := by decide +kernel
theorem dX11_readRows_129 : decode cX11_readRows 129 = .ok (.iinc 4 1, 3) := by decide +kernel
theorem dX11_readRows_132 : decode cX11_readRows 132 = .ok (.goto (-129), 3) := by decide +kernel
theorem dX11_readRows_135 : decode cX11_readRows 135 = .ok (.iconst 1, 1) := by decide +kernel
theorem dX11_readRows_136 : decode cX11_readRows 136 = .ok (.ireturn, 1) := by decide +kernel
theorem dX11_lacks_0 : decode cX11_lacks 0 = .ok (.bipush 12, 2) := by decide +kernel
theorem dX11_lacks_2 : decode cX11_lacks 2 = .ok (.istore_n 3, 1) := by decide +kernel
theorem dX11_lacks_3 : decode cX11_lacks 3 = .ok (.iconst 0, 1) := by decide +kernel
theorem dX11_lacks_4 : decode cX11_lacks 4 = .ok (.istore 4, 2) := by decide +kernel
theorem dX11_lacks_6 : decode cX11_lacks 6 = .ok (.iload 4, 2) := by decide +kernel
theorem dX11_lacks_8 : decode cX11_lacks 8 = .ok (.iload_n 2, 1) := by decide +kernel
theorem dX11_lacks_9 : decode cX11_lacks 9 = .ok (.if_icmp .ge 18, 3) := by decide +kernel
theorem dX11_lacks_12 : decode cX11_lacks 12 = .ok (.iload_n 3, 1) := by decide +kernel
theorem dX11_lacks_13 : decode cX11_lacks 13 = .ok (.aload_n 0, 1) := by decide +kernel
theorem dX11_lacks_14 : decode cX11_lacks 14 = .ok (.iload_n 1, 1) := by decide +kernel
theorem dX11_lacks_15 : decode cX11_lacks 15 = .ok (.iload 4, 2) := by decide +kernel
theorem dX11_lacks_17 : decode cX11_lacks 17 = .ok (.iadd, 1) := by decide +kernel
theorem dX11_lacks_18 : decode cX11_lacks 18 = .ok (.iaload, 1) := by decide +kernel
theorem dX11_lacks_19 : decode cX11_lacks 19 = .ok (.isub, 1) := by decide +kernel
theorem dX11_lacks_20 : decode cX11_lacks 20 = .ok (.istore_n 3, 1) := by decide +kernel
theorem dX11_lacks_21 : decode cX11_lacks 21 = .ok (.iinc 4 1, 3) := by decide +kernel
theorem dX11_lacks_24 : decode cX11_lacks 24 = .ok (.goto (-18), 3) := by decide +kernel
theorem dX11_lacks_27 : decode cX11_lacks 27 = .ok (.iload_n 3, 1) := by decide +kernel
theorem dX11_lacks_28 : decode cX11_lacks 28 = .ok (.ireturn, 1) := by decide +kernel
theorem dX11_rowOf_0 : decode cX11_rowOf 0 = .ok (.bipush 36, 2) := by decide +kernel
theorem dX11_rowOf_2 : decode cX11_rowOf 2 = .ok (.iload_n 0, 1) := by decide +kernel
theorem dX11_rowOf_3 : decode cX11_rowOf 3 = .ok (.imul, 1) := by decide +kernel
theorem dX11_rowOf_4 : decode cX11_rowOf 4 = .ok (.bipush 6, 2) := by decide +kernel
theorem dX11_rowOf_6 : decode cX11_rowOf 6 = .ok (.iload_n 1, 1) := by decide +kernel
theorem dX11_rowOf_7 : decode cX11_rowOf 7 = .ok (.imul, 1) := by decide +kernel
theorem dX11_rowOf_8 : decode cX11_rowOf 8 = .ok (.iadd, 1) := by decide +kernel
theorem dX11_rowOf_9 : decode cX11_rowOf 9 = .ok (.ireturn, 1) := by decide +kernel
theorem dX11_becomes_0 : decode cX11_becomes 0 = .ok (.aload_n 0, 1) := by decide +kernel
theorem dX11_becomes_1 : decode cX11_becomes 1 = .ok (.iload_n 2, 1) := by decide +kernel
theorem dX11_becomes_2 : decode cX11_becomes 2 = .ok (.invokevirtual 123, 3) := by decide +kernel
theorem dX11_becomes_5 : decode cX11_becomes 5 = .ok (.ifCond .eq 11, 3) := by decide +kernel
theorem dX11_becomes_8 : decode cX11_becomes 8 = .ok (.aload_n 0, 1) := by decide +kernel
theorem dX11_becomes_9 : decode cX11_becomes 9 = .ok (.iload_n 3, 1) := by decide +kernel
theorem dX11_becomes_10 : decode cX11_becomes 10 = .ok (.invokevirtual 126, 3) := by decide +kernel
theorem dX11_becomes_13 : decode cX11_becomes 13 = .ok (.ifCond .ne 5, 3) := by decide +kernel
theorem dX11_becomes_16 : decode cX11_becomes 16 = .ok (.iconst (-1), 1) := by decide +kernel
theorem dX11_becomes_17 : decode cX11_becomes 17 = .ok (.ireturn, 1) := by decide +kernel
theorem dX11_becomes_18 : decode cX11_becomes 18 = .ok (.iload_n 1, 1) := by decide +kernel
theorem dX11_becomes_19 : decode cX11_becomes 19 = .ok (.invokestatic 129, 3) := by decide +kernel
theorem dX11_becomes_22 : decode cX11_becomes 22 = .ok (.ifCond .ne 6, 3) := by decide +kernel
theorem dX11_becomes_25 : decode cX11_becomes 25 = .ok (.bipush (-2), 2) := by decide +kernel
theorem dX11_becomes_27 : decode cX11_becomes 27 = .ok (.ireturn, 1) := by decide +kernel
theorem dX11_becomes_28 : decode cX11_becomes 28 = .ok (.iload_n 3, 1) := by decide +kernel
theorem dX11_becomes_29 : decode cX11_becomes 29 = .ok (.aload_n 0, 1) := by decide +kernel
theorem dX11_becomes_30 : decode cX11_becomes 30 = .ok (.getfield 75, 3) := by decide +kernel
theorem dX11_becomes_33 : decode cX11_becomes 33 = .ok (.if_icmp .ne 22, 3) := by decide +kernel
theorem dX11_becomes_36 : decode cX11_becomes 36 = .ok (.aload_n 0, 1) := by decide +kernel
theorem dX11_becomes_37 : decode cX11_becomes 37 = .ok (.getfield 19, 3) := by decide +kernel
theorem dX11_becomes_40 : decode cX11_becomes 40 = .ok (.iload_n 1, 1) := by decide +kernel
theorem dX11_becomes_41 : decode cX11_becomes 41 = .ok (.iload_n 2, 1) := by decide +kernel
theorem dX11_becomes_42 : decode cX11_becomes 42 = .ok (.invokestatic 132, 3) := by decide +kernel
theorem dX11_becomes_45 : decode cX11_becomes 45 = .ok (.aload_n 0, 1) := by decide +kernel
theorem dX11_becomes_46 : decode cX11_becomes 46 = .ok (.getfield 75, 3) := by decide +kernel
theorem dX11_becomes_49 : decode cX11_becomes 49 = .ok (.invokestatic 135, 3) := by decide +kernel
theorem dX11_becomes_52 : decode cX11_becomes 52 = .ok (.goto 15, 3) := by decide +kernel
theorem dX11_becomes_55 : decode cX11_becomes 55 = .ok (.aload_n 0, 1) := by decide +kernel
theorem dX11_becomes_56 : decode cX11_becomes 56 = .ok (.getfield 19, 3) := by decide +kernel
theorem dX11_becomes_59 : decode cX11_becomes 59 = .ok (.iload_n 1, 1) := by decide +kernel
theorem dX11_becomes_60 : decode cX11_becomes 60 = .ok (.iload_n 2, 1) := by decide +kernel
theorem dX11_becomes_61 : decode cX11_becomes 61 = .ok (.invokestatic 132, 3) := by decide +kernel
theorem dX11_becomes_64 : decode cX11_becomes 64 = .ok (.iload_n 3, 1) := by decide +kernel
theorem dX11_becomes_65 : decode cX11_becomes 65 = .ok (.iadd, 1) := by decide +kernel
theorem dX11_becomes_66 : decode cX11_becomes 66 = .ok (.iaload, 1) := by decide +kernel
theorem dX11_becomes_67 : decode cX11_becomes 67 = .ok (.ireturn, 1) := by decide +kernel
theorem dX11_meantBy_0 : decode cX11_meantBy 0 = .ok (.iconst 0, 1) := by decide +kernel
theorem dX11_meantBy_1 : decode cX11_meantBy 1 = .ok (.istore_n 3, 1) := by decide +kernel
theorem dX11_meantBy_2 : decode cX11_meantBy 2 = .ok (.iconst 1, 1) := by decide +kernel
theorem dX11_meantBy_3 : decode cX11_meantBy 3 = .ok (.istore 4, 2) := by decide +kernel
theorem dX11_meantBy_5 : decode cX11_meantBy 5 = .ok (.iload 4, 2) := by decide +kernel
theorem dX11_meantBy_7 : decode cX11_meantBy 7 = .ok (.aload_n 0, 1) := by decide +kernel
theorem dX11_meantBy_8 : decode cX11_meantBy 8 = .ok (.getfield 75, 3) := by decide +kernel
theorem dX11_meantBy_11 : decode cX11_meantBy 11 = .ok (.if_icmp .ge 44, 3) := by decide +kernel
theorem dX11_meantBy_14 : decode cX11_meantBy 14 = .ok (.aload_n 0, 1) := by decide +kernel
theorem dX11_meantBy_15 : decode cX11_meantBy 15 = .ok (.getfield 19, 3) := by decide +kernel
theorem dX11_meantBy_18 : decode cX11_meantBy 18 = .ok (.iload_n 1, 1) := by decide +kernel
theorem dX11_meantBy_19 : decode cX11_meantBy 19 = .ok (.iload_n 2, 1) := by decide +kernel
theorem dX11_meantBy_20 : decode cX11_meantBy 20 = .ok (.invokestatic 132, 3) := by decide +kernel
theorem dX11_meantBy_23 : decode cX11_meantBy 23 = .ok (.iload 4, 2) := by decide +kernel
theorem dX11_meantBy_25 : decode cX11_meantBy 25 = .ok (.iadd, 1) := by decide +kernel
theorem dX11_meantBy_26 : decode cX11_meantBy 26 = .ok (.iaload, 1) := by decide +kernel
theorem dX11_meantBy_27 : decode cX11_meantBy 27 = .ok (.aload_n 0, 1) := by decide +kernel
theorem dX11_meantBy_28 : decode cX11_meantBy 28 = .ok (.getfield 19, 3) := by decide +kernel
theorem dX11_meantBy_31 : decode cX11_meantBy 31 = .ok (.iload_n 1, 1) := by decide +kernel
theorem dX11_meantBy_32 : decode cX11_meantBy 32 = .ok (.iload_n 2, 1) := by decide +kernel
theorem dX11_meantBy_33 : decode cX11_meantBy 33 = .ok (.invokestatic 132, 3) := by decide +kernel
theorem dX11_meantBy_36 : decode cX11_meantBy 36 = .ok (.iload_n 3, 1) := by decide +kernel
theorem dX11_meantBy_37 : decode cX11_meantBy 37 = .ok (.iadd, 1) := by decide +kernel
theorem dX11_meantBy_38 : decode cX11_meantBy 38 = .ok (.iaload, 1) := by decide +kernel
theorem dX11_meantBy_39 : decode cX11_meantBy 39 = .ok (.if_icmp .le 8, 3) := by decide +kernel
theorem dX11_meantBy_42 : decode cX11_meantBy 42 = .ok (.iload 4, 2) := by decide +kernel
theorem dX11_meantBy_44 : decode cX11_meantBy 44 = .ok (.goto 4, 3) := by decide +kernel
theorem dX11_meantBy_47 : decode cX11_meantBy 47 = .ok (.iload_n 3, 1) := by decide +kernel
theorem dX11_meantBy_48 : decode cX11_meantBy 48 = .ok (.istore_n 3, 1) := by decide +kernel
theorem dX11_meantBy_49 : decode cX11_meantBy 49 = .ok (.iinc 4 1, 3) := by decide +kernel
theorem dX11_meantBy_52 : decode cX11_meantBy 52 = .ok (.goto (-47), 3) := by decide +kernel
theorem dX11_meantBy_55 : decode cX11_meantBy 55 = .ok (.iload_n 3, 1) := by decide +kernel
theorem dX11_meantBy_56 : decode cX11_meantBy 56 = .ok (.ireturn, 1) := by decide +kernel
theorem dX11_meant_0 : decode cX11_meant 0 = .ok (.aload_n 0, 1) := by decide +kernel
theorem dX11_meant_1 : decode cX11_meant 1 = .ok (.iload_n 2, 1) := by decide +kernel
theorem dX11_meant_2 : decode cX11_meant 2 = .ok (.invokevirtual 123, 3) := by decide +kernel
theorem dX11_meant_5 : decode cX11_meant 5 = .ok (.ifCond .ne 5, 3) := by decide +kernel
theorem dX11_meant_8 : decode cX11_meant 8 = .ok (.iconst (-1), 1) := by decide +kernel
theorem dX11_meant_9 : decode cX11_meant 9 = .ok (.ireturn, 1) := by decide +kernel
theorem dX11_meant_10 : decode cX11_meant 10 = .ok (.iload_n 1, 1) := by decide +kernel
theorem dX11_meant_11 : decode cX11_meant 11 = .ok (.invokestatic 129, 3) := by decide +kernel
theorem dX11_meant_14 : decode cX11_meant 14 = .ok (.ifCond .eq 12, 3) := by decide +kernel
theorem dX11_meant_17 : decode cX11_meant 17 = .ok (.aload_n 0, 1) := by decide +kernel
theorem dX11_meant_18 : decode cX11_meant 18 = .ok (.iload_n 1, 1) := by decide +kernel
theorem dX11_meant_19 : decode cX11_meant 19 = .ok (.iload_n 2, 1) := by decide +kernel
theorem dX11_meant_20 : decode cX11_meant 20 = .ok (.invokevirtual 139, 3) := by decide +kernel
theorem dX11_meant_23 : decode cX11_meant 23 = .ok (.goto 5, 3) := by decide +kernel
theorem dX11_meant_26 : decode cX11_meant 26 = .ok (.bipush (-2), 2) := by decide +kernel
theorem dX11_meant_28 : decode cX11_meant 28 = .ok (.ireturn, 1) := by decide +kernel
theorem dX11_alike_0 : decode cX11_alike 0 = .ok (.aload_n 0, 1) := by decide +kernel
theorem dX11_alike_1 : decode cX11_alike 1 = .ok (.iload_n 2, 1) := by decide +kernel
theorem dX11_alike_2 : decode cX11_alike 2 = .ok (.invokevirtual 123, 3) := by decide +kernel
theorem dX11_alike_5 : decode cX11_alike 5 = .ok (.ifCond .ne 5, 3) := by decide +kernel
theorem dX11_alike_8 : decode cX11_alike 8 = .ok (.iconst (-1), 1) := by decide +kernel
theorem dX11_alike_9 : decode cX11_alike 9 = .ok (.ireturn, 1) := by decide +kernel
theorem dX11_alike_10 : decode cX11_alike 10 = .ok (.iload_n 1, 1) := by decide +kernel
theorem dX11_alike_11 : decode cX11_alike 11 = .ok (.invokestatic 129, 3) := by decide +kernel
theorem dX11_alike_14 : decode cX11_alike 14 = .ok (.ifCond .ne 6, 3) := by decide +kernel
theorem dX11_alike_17 : decode cX11_alike 17 = .ok (.bipush (-2), 2) := by decide +kernel
theorem dX11_alike_19 : decode cX11_alike 19 = .ok (.ireturn, 1) := by decide +kernel
theorem dX11_alike_20 : decode cX11_alike 20 = .ok (.iconst 0, 1) := by decide +kernel
theorem dX11_alike_21 : decode cX11_alike 21 = .ok (.istore_n 3, 1) := by decide +kernel
theorem dX11_alike_22 : decode cX11_alike 22 = .ok (.iconst 0, 1) := by decide +kernel
theorem dX11_alike_23 : decode cX11_alike 23 = .ok (.istore 4, 2) := by decide +kernel
theorem dX11_alike_25 : decode cX11_alike 25 = .ok (.iload 4, 2) := by decide +kernel
theorem dX11_alike_27 : decode cX11_alike 27 = .ok (.aload_n 0, 1) := by decide +kernel
theorem dX11_alike_28 : decode cX11_alike 28 = .ok (.getfield 75, 3) := by decide +kernel
theorem dX11_alike_31 : decode cX11_alike 31 = .ok (.if_icmp .ge 42, 3) := by decide +kernel
theorem dX11_alike_34 : decode cX11_alike 34 = .ok (.iload_n 3, 1) := by decide +kernel
theorem dX11_alike_35 : decode cX11_alike 35 = .ok (.iload 4, 2) := by decide +kernel
theorem dX11_alike_37 : decode cX11_alike 37 = .ok (.iload_n 2, 1) := by decide +kernel
theorem dX11_alike_38 : decode cX11_alike 38 = .ok (.if_icmp .eq 26, 3) := by decide +kernel
theorem dX11_alike_41 : decode cX11_alike 41 = .ok (.aload_n 0, 1) := by decide +kernel
theorem dX11_alike_42 : decode cX11_alike 42 = .ok (.iload_n 1, 1) := by decide +kernel
theorem dX11_alike_43 : decode cX11_alike 43 = .ok (.iload 4, 2) := by decide +kernel
theorem dX11_alike_45 : decode cX11_alike 45 = .ok (.invokevirtual 139, 3) := by decide +kernel
theorem dX11_alike_48 : decode cX11_alike 48 = .ok (.aload_n 0, 1) := by decide +kernel
theorem dX11_alike_49 : decode cX11_alike 49 = .ok (.iload_n 1, 1) := by decide +kernel
theorem dX11_alike_50 : decode cX11_alike 50 = .ok (.iload_n 2, 1) := by decide +kernel
theorem dX11_alike_51 : decode cX11_alike 51 = .ok (.invokevirtual 139, 3) := by decide +kernel
theorem dX11_alike_54 : decode cX11_alike 54 = .ok (.if_icmp .ne 10, 3) := by decide +kernel
theorem dX11_alike_57 : decode cX11_alike 57 = .ok (.iconst 1, 1) := by decide +kernel
theorem dX11_alike_58 : decode cX11_alike 58 = .ok (.iload 4, 2) := by decide +kernel
theorem dX11_alike_60 : decode cX11_alike 60 = .ok (.ishl, 1) := by decide +kernel
theorem dX11_alike_61 : decode cX11_alike 61 = .ok (.goto 4, 3) := by decide +kernel
theorem dX11_alike_64 : decode cX11_alike 64 = .ok (.iconst 0, 1) := by decide +kernel
theorem dX11_alike_65 : decode cX11_alike 65 = .ok (.ior, 1) := by decide +kernel
theorem dX11_alike_66 : decode cX11_alike 66 = .ok (.istore_n 3, 1) := by decide +kernel
theorem dX11_alike_67 : decode cX11_alike 67 = .ok (.iinc 4 1, 3) := by decide +kernel
theorem dX11_alike_70 : decode cX11_alike 70 = .ok (.goto (-45), 3) := by decide +kernel
theorem dX11_alike_73 : decode cX11_alike 73 = .ok (.iload_n 3, 1) := by decide +kernel
theorem dX11_alike_74 : decode cX11_alike 74 = .ok (.ireturn, 1) := by decide +kernel
theorem dX11_isInterpreter_0 : decode cX11_isInterpreter 0 = .ok (.iload_n 1, 1) := by decide +kernel
theorem dX11_isInterpreter_1 : decode cX11_isInterpreter 1 = .ok (.ifCond .lt 15, 3) := by decide +kernel
theorem dX11_isInterpreter_4 : decode cX11_isInterpreter 4 = .ok (.iload_n 1, 1) := by decide +kernel
theorem dX11_isInterpreter_5 : decode cX11_isInterpreter 5 = .ok (.aload_n 0, 1) := by decide +kernel
theorem dX11_isInterpreter_6 : decode cX11_isInterpreter 6 = .ok (.getfield 142, 3) := by decide +kernel
theorem dX11_isInterpreter_9 : decode cX11_isInterpreter 9 = .ok (.if_icmp .ge 7, 3) := by decide +kernel
theorem dX11_isInterpreter_12 : decode cX11_isInterpreter 12 = .ok (.iconst 1, 1) := by decide +kernel
theorem dX11_isInterpreter_13 : decode cX11_isInterpreter 13 = .ok (.goto 4, 3) := by decide +kernel
theorem dX11_isInterpreter_16 : decode cX11_isInterpreter 16 = .ok (.iconst 0, 1) := by decide +kernel
theorem dX11_isInterpreter_17 : decode cX11_isInterpreter 17 = .ok (.ireturn, 1) := by decide +kernel
theorem dX11_interpreter_0 : decode cX11_interpreter 0 = .ok (.iload_n 1, 1) := by decide +kernel
theorem dX11_interpreter_1 : decode cX11_interpreter 1 = .ok (.iconst 0, 1) := by decide +kernel
theorem dX11_interpreter_2 : decode cX11_interpreter 2 = .ok (.iconst 2, 1) := by decide +kernel
theorem dX11_interpreter_3 : decode cX11_interpreter 3 = .ok (.invokestatic 71, 3) := by decide +kernel
theorem dX11_interpreter_6 : decode cX11_interpreter 6 = .ok (.ifCond .eq 13, 3) := by decide +kernel
theorem dX11_interpreter_9 : decode cX11_interpreter 9 = .ok (.iload_n 2, 1) := by decide +kernel
theorem dX11_interpreter_10 : decode cX11_interpreter 10 = .ok (.iconst 0, 1) := by decide +kernel
theorem dX11_interpreter_11 : decode cX11_interpreter 11 = .ok (.bipush 9, 2) := by decide +kernel
theorem dX11_interpreter_13 : decode cX11_interpreter 13 = .ok (.invokestatic 71, 3) := by decide +kernel
theorem dX11_interpreter_16 : decode cX11_interpreter 16 = .ok (.ifCond .ne 6, 3) := by decide +kernel
theorem dX11_interpreter_19 : decode cX11_interpreter 19 = .ok (.bipush (-2), 2) := by decide +kernel
theorem dX11_interpreter_21 : decode cX11_interpreter 21 = .ok (.ireturn, 1) := by decide +kernel
theorem dX11_interpreter_22 : decode cX11_interpreter 22 = .ok (.aload_n 0, 1) := by decide +kernel
theorem dX11_interpreter_23 : decode cX11_interpreter 23 = .ok (.getfield 142, 3) := by decide +kernel
theorem dX11_interpreter_26 : decode cX11_interpreter 26 = .ok (.iconst 4, 1) := by decide +kernel
theorem dX11_interpreter_27 : decode cX11_interpreter 27 = .ok (.if_icmp .ne 6, 3) := by decide +kernel
theorem dX11_interpreter_30 : decode cX11_interpreter 30 = .ok (.bipush (-4), 2) := by decide +kernel
theorem dX11_interpreter_32 : decode cX11_interpreter 32 = .ok (.ireturn, 1) := by decide +kernel
theorem dX11_interpreter_33 : decode cX11_interpreter 33 = .ok (.aload_n 0, 1) := by decide +kernel
theorem dX11_interpreter_34 : decode cX11_interpreter 34 = .ok (.getfield 25, 3) := by decide +kernel
theorem dX11_interpreter_37 : decode cX11_interpreter 37 = .ok (.aload_n 0, 1) := by decide +kernel
theorem dX11_interpreter_38 : decode cX11_interpreter 38 = .ok (.getfield 142, 3) := by decide +kernel
theorem dX11_interpreter_41 : decode cX11_interpreter 41 = .ok (.iload_n 1, 1) := by decide +kernel
theorem dX11_interpreter_42 : decode cX11_interpreter 42 = .ok (.iastore, 1) := by decide +kernel
theorem dX11_interpreter_43 : decode cX11_interpreter 43 = .ok (.aload_n 0, 1) := by decide +kernel
theorem dX11_interpreter_44 : decode cX11_interpreter 44 = .ok (.getfield 28, 3) := by decide +kernel
theorem dX11_interpreter_47 : decode cX11_interpreter 47 = .ok (.aload_n 0, 1) := by decide +kernel
theorem dX11_interpreter_48 : decode cX11_interpreter 48 = .ok (.getfield 142, 3) := by decide +kernel
theorem dX11_interpreter_51 : decode cX11_interpreter 51 = .ok (.iload_n 2, 1) := by decide +kernel
theorem dX11_interpreter_52 : decode cX11_interpreter 52 = .ok (.iastore, 1) := by decide +kernel
theorem dX11_interpreter_53 : decode cX11_interpreter 53 = .ok (.aload_n 0, 1) := by decide +kernel
theorem dX11_interpreter_54 : decode cX11_interpreter 54 = .ok (.dup, 1) := by decide +kernel
theorem dX11_interpreter_55 : decode cX11_interpreter 55 = .ok (.getfield 142, 3) := by decide +kernel
theorem dX11_interpreter_58 : decode cX11_interpreter 58 = .ok (.iconst 1, 1) := by decide +kernel
theorem dX11_interpreter_59 : decode cX11_interpreter 59 = .ok (.iadd, 1) := by decide +kernel
theorem dX11_interpreter_60 : decode cX11_interpreter 60 = .ok (.putfield 142, 3) := by decide +kernel
theorem dX11_interpreter_63 : decode cX11_interpreter 63 = .ok (.aload_n 0, 1) := by decide +kernel
theorem dX11_interpreter_64 : decode cX11_interpreter 64 = .ok (.getfield 142, 3) := by decide +kernel
theorem dX11_interpreter_67 : decode cX11_interpreter 67 = .ok (.iconst 1, 1) := by decide +kernel
theorem dX11_interpreter_68 : decode cX11_interpreter 68 = .ok (.isub, 1) := by decide +kernel
theorem dX11_interpreter_69 : decode cX11_interpreter 69 = .ok (.ireturn, 1) := by decide +kernel
theorem dX11_ofInterpreter_0 : decode cX11_ofInterpreter 0 = .ok (.aload_n 0, 1) := by decide +kernel
theorem dX11_ofInterpreter_1 : decode cX11_ofInterpreter 1 = .ok (.iload_n 1, 1) := by decide +kernel
theorem dX11_ofInterpreter_2 : decode cX11_ofInterpreter 2 = .ok (.invokevirtual 145, 3) := by decide +kernel
theorem dX11_ofInterpreter_5 : decode cX11_ofInterpreter 5 = .ok (.ifCond .ne 5, 3) := by decide +kernel
theorem dX11_ofInterpreter_8 : decode cX11_ofInterpreter 8 = .ok (.iconst (-1), 1) := by decide +kernel
theorem dX11_ofInterpreter_9 : decode cX11_ofInterpreter 9 = .ok (.ireturn, 1) := by decide +kernel
theorem dX11_ofInterpreter_10 : decode cX11_ofInterpreter 10 = .ok (.iload_n 2, 1) := by decide +kernel
theorem dX11_ofInterpreter_11 : decode cX11_ofInterpreter 11 = .ok (.ifCond .ne 12, 3) := by decide +kernel
theorem dX11_ofInterpreter_14 : decode cX11_ofInterpreter 14 = .ok (.aload_n 0, 1) := by decide +kernel
theorem dX11_ofInterpreter_15 : decode cX11_ofInterpreter 15 = .ok (.getfield 25, 3) := by decide +kernel
theorem dX11_ofInterpreter_18 : decode cX11_ofInterpreter 18 = .ok (.iload_n 1, 1) := by decide +kernel
theorem dX11_ofInterpreter_19 : decode cX11_ofInterpreter 19 = .ok (.iaload, 1) := by decide +kernel
theorem dX11_ofInterpreter_20 : decode cX11_ofInterpreter 20 = .ok (.goto 19, 3) := by decide +kernel
theorem dX11_ofInterpreter_23 : decode cX11_ofInterpreter 23 = .ok (.iload_n 2, 1) := by decide +kernel
theorem dX11_ofInterpreter_24 : decode cX11_ofInterpreter 24 = .ok (.iconst 1, 1) := by decide +kernel
theorem dX11_ofInterpreter_25 : decode cX11_ofInterpreter 25 = .ok (.if_icmp .ne 12, 3) := by decide +kernel
theorem dX11_ofInterpreter_28 : decode cX11_ofInterpreter 28 = .ok (.aload_n 0, 1) := by decide +kernel
theorem dX11_ofInterpreter_29 : decode cX11_ofInterpreter 29 = .ok (.getfield 28, 3) := by decide +kernel
theorem dX11_ofInterpreter_32 : decode cX11_ofInterpreter 32 = .ok (.iload_n 1, 1) := by decide +kernel
theorem dX11_ofInterpreter_33 : decode cX11_ofInterpreter 33 = .ok (.iaload, 1) := by decide +kernel
theorem dX11_ofInterpreter_34 : decode cX11_ofInterpreter 34 = .ok (.goto 5, 3) := by decide +kernel
theorem dX11_ofInterpreter_37 : decode cX11_ofInterpreter 37 = .ok (.bipush (-2), 2) := by decide +kernel
theorem dX11_ofInterpreter_39 : decode cX11_ofInterpreter 39 = .ok (.ireturn, 1) := by decide +kernel
theorem dX11_tire_0 : decode cX11_tire 0 = .ok (.aload_n 0, 1) := by decide +kernel
theorem dX11_tire_1 : decode cX11_tire 1 = .ok (.iload_n 1, 1) := by decide +kernel
theorem dX11_tire_2 : decode cX11_tire 2 = .ok (.invokevirtual 145, 3) := by decide +kernel
theorem dX11_tire_5 : decode cX11_tire 5 = .ok (.ifCond .ne 5, 3) := by decide +kernel
theorem dX11_tire_8 : decode cX11_tire 8 = .ok (.iconst (-1), 1) := by decide +kernel
theorem dX11_tire_9 : decode cX11_tire 9 = .ok (.ireturn, 1) := by decide +kernel
theorem dX11_tire_10 : decode cX11_tire 10 = .ok (.iload_n 2, 1) := by decide +kernel
theorem dX11_tire_11 : decode cX11_tire 11 = .ok (.iconst 0, 1) := by decide +kernel
theorem dX11_tire_12 : decode cX11_tire 12 = .ok (.bipush 9, 2) := by decide +kernel
theorem dX11_tire_14 : decode cX11_tire 14 = .ok (.invokestatic 71, 3) := by decide +kernel
theorem dX11_tire_17 : decode cX11_tire 17 = .ok (.ifCond .ne 6, 3) := by decide +kernel
theorem dX11_tire_20 : decode cX11_tire 20 = .ok (.bipush (-2), 2) := by decide +kernel
theorem dX11_tire_22 : decode cX11_tire 22 = .ok (.ireturn, 1) := by decide +kernel
theorem dX11_tire_23 : decode cX11_tire 23 = .ok (.aload_n 0, 1) := by decide +kernel
theorem dX11_tire_24 : decode cX11_tire 24 = .ok (.getfield 28, 3) := by decide +kernel
theorem dX11_tire_27 : decode cX11_tire 27 = .ok (.iload_n 1, 1) := by decide +kernel
theorem dX11_tire_28 : decode cX11_tire 28 = .ok (.iaload, 1) := by decide +kernel
theorem dX11_tire_29 : decode cX11_tire 29 = .ok (.istore_n 3, 1) := by decide +kernel
theorem dX11_tire_30 : decode cX11_tire 30 = .ok (.aload_n 0, 1) := by decide +kernel
theorem dX11_tire_31 : decode cX11_tire 31 = .ok (.getfield 28, 3) := by decide +kernel
theorem dX11_tire_34 : decode cX11_tire 34 = .ok (.iload_n 1, 1) := by decide +kernel
theorem dX11_tire_35 : decode cX11_tire 35 = .ok (.iload_n 2, 1) := by decide +kernel
theorem dX11_tire_36 : decode cX11_tire 36 = .ok (.iastore, 1) := by decide +kernel
theorem dX11_tire_37 : decode cX11_tire 37 = .ok (.iload_n 3, 1) := by decide +kernel
theorem dX11_tire_38 : decode cX11_tire 38 = .ok (.ireturn, 1) := by decide +kernel
theorem dX11_plainly_0 : decode cX11_plainly 0 = .ok (.iload_n 2, 1) := by decide +kernel
theorem dX11_plainly_1 : decode cX11_plainly 1 = .ok (.iload_n 3, 1) := by decide +kernel
theorem dX11_plainly_2 : decode cX11_plainly 2 = .ok (.invokestatic 132, 3) := by decide +kernel
theorem dX11_plainly_5 : decode cX11_plainly 5 = .ok (.istore 5, 2) := by decide +kernel
theorem dX11_plainly_7 : decode cX11_plainly 7 = .ok (.aload_n 0, 1) := by decide +kernel
theorem dX11_plainly_8 : decode cX11_plainly 8 = .ok (.getfield 19, 3) := by decide +kernel
theorem dX11_plainly_11 : decode cX11_plainly 11 = .ok (.iload 5, 2) := by decide +kernel
theorem dX11_plainly_13 : decode cX11_plainly 13 = .ok (.aload_n 0, 1) := by decide +kernel
theorem dX11_plainly_14 : decode cX11_plainly 14 = .ok (.getfield 75, 3) := by decide +kernel
theorem dX11_plainly_17 : decode cX11_plainly 17 = .ok (.invokestatic 135, 3) := by decide +kernel
theorem dX11_plainly_20 : decode cX11_plainly 20 = .ok (.istore 6, 2) := by decide +kernel
theorem dX11_plainly_22 : decode cX11_plainly 22 = .ok (.iload 4, 2) := by decide +kernel
theorem dX11_plainly_24 : decode cX11_plainly 24 = .ok (.aload_n 0, 1) := by decide +kernel
theorem dX11_plainly_25 : decode cX11_plainly 25 = .ok (.getfield 75, 3) := by decide +kernel
theorem dX11_plainly_28 : decode cX11_plainly 28 = .ok (.if_icmp .ne 15, 3) := by decide +kernel
theorem dX11_plainly_31 : decode cX11_plainly 31 = .ok (.iload_n 1, 1) := by decide +kernel
theorem dX11_plainly_32 : decode cX11_plainly 32 = .ok (.iconst 2, 1) := by decide +kernel
theorem dX11_plainly_33 : decode cX11_plainly 33 = .ok (.if_icmp .ne 7, 3) := by decide +kernel
theorem dX11_plainly_36 : decode cX11_plainly 36 = .ok (.iconst 0, 1) := by decide +kernel
theorem dX11_plainly_37 : decode cX11_plainly 37 = .ok (.goto 5, 3) := by decide +kernel
theorem dX11_plainly_40 : decode cX11_plainly 40 = .ok (.iload 6, 2) := by decide +kernel
theorem dX11_plainly_42 : decode cX11_plainly 42 = .ok (.ireturn, 1) := by decide +kernel
theorem dX11_plainly_43 : decode cX11_plainly 43 = .ok (.aload_n 0, 1) := by decide +kernel
theorem dX11_plainly_44 : decode cX11_plainly 44 = .ok (.iload_n 2, 1) := by decide +kernel
theorem dX11_plainly_45 : decode cX11_plainly 45 = .ok (.iload_n 3, 1) := by decide +kernel
theorem dX11_plainly_46 : decode cX11_plainly 46 = .ok (.invokevirtual 139, 3) := by decide +kernel
theorem dX11_plainly_49 : decode cX11_plainly 49 = .ok (.istore 7, 2) := by decide +kernel
theorem dX11_plainly_51 : decode cX11_plainly 51 = .ok (.iload 4, 2) := by decide +kernel
theorem dX11_plainly_53 : decode cX11_plainly 53 = .ok (.iload 7, 2) := by decide +kernel
theorem dX11_plainly_55 : decode cX11_plainly 55 = .ok (.if_icmp .eq 33, 3) := by decide +kernel
theorem dX11_plainly_58 : decode cX11_plainly 58 = .ok (.iload_n 1, 1) := by decide +kernel
theorem dX11_plainly_59 : decode cX11_plainly 59 = .ok (.ifCond .le 18, 3) := by decide +kernel
theorem dX11_plainly_62 : decode cX11_plainly 62 = .ok (.aload_n 0, 1) := by decide +kernel
theorem dX11_plainly_63 : decode cX11_plainly 63 = .ok (.getfield 19, 3) := by decide +kernel
theorem dX11_plainly_66 : decode cX11_plainly 66 = .ok (.iload 5, 2) := by decide +kernel
theorem dX11_plainly_68 : decode cX11_plainly 68 = .ok (.iload 4, 2) := by decide +kernel
theorem dX11_plainly_70 : decode cX11_plainly 70 = .ok (.iadd, 1) := by decide +kernel
theorem dX11_plainly_71 : decode cX11_plainly 71 = .ok (.iaload, 1) := by decide +kernel
theorem dX11_plainly_72 : decode cX11_plainly 72 = .ok (.iconst 2, 1) := by decide +kernel
theorem dX11_plainly_73 : decode cX11_plainly 73 = .ok (.idiv, 1) := by decide +kernel
theorem dX11_plainly_74 : decode cX11_plainly 74 = .ok (.goto 13, 3) := by decide +kernel
theorem dX11_plainly_77 : decode cX11_plainly 77 = .ok (.aload_n 0, 1) := by decide +kernel
theorem dX11_plainly_78 : decode cX11_plainly 78 = .ok (.getfield 19, 3) := by decide +kernel
theorem dX11_plainly_81 : decode cX11_plainly 81 = .ok (.iload 5, 2) := by decide +kernel
theorem dX11_plainly_83 : decode cX11_plainly 83 = .ok (.iload 4, 2) := by decide +kernel
theorem dX11_plainly_85 : decode cX11_plainly 85 = .ok (.iadd, 1) := by decide +kernel
theorem dX11_plainly_86 : decode cX11_plainly 86 = .ok (.iaload, 1) := by decide +kernel
theorem dX11_plainly_87 : decode cX11_plainly 87 = .ok (.ireturn, 1) := by decide +kernel
theorem dX11_plainly_88 : decode cX11_plainly 88 = .ok (.aload_n 0, 1) := by decide +kernel
theorem dX11_plainly_89 : decode cX11_plainly 89 = .ok (.getfield 19, 3) := by decide +kernel
theorem dX11_plainly_92 : decode cX11_plainly 92 = .ok (.iload 5, 2) := by decide +kernel
theorem dX11_plainly_94 : decode cX11_plainly 94 = .ok (.iload 4, 2) := by decide +kernel
theorem dX11_plainly_96 : decode cX11_plainly 96 = .ok (.iadd, 1) := by decide +kernel
theorem dX11_plainly_97 : decode cX11_plainly 97 = .ok (.iaload, 1) := by decide +kernel
theorem dX11_plainly_98 : decode cX11_plainly 98 = .ok (.istore 8, 2) := by decide +kernel
theorem dX11_plainly_100 : decode cX11_plainly 100 = .ok (.iconst 0, 1) := by decide +kernel
theorem dX11_plainly_101 : decode cX11_plainly 101 = .ok (.istore 9, 2) := by decide +kernel
theorem dX11_plainly_103 : decode cX11_plainly 103 = .ok (.iload 9, 2) := by decide +kernel
theorem dX11_plainly_105 : decode cX11_plainly 105 = .ok (.aload_n 0, 1) := by decide +kernel
theorem dX11_plainly_106 : decode cX11_plainly 106 = .ok (.getfield 75, 3) := by decide +kernel
theorem dX11_plainly_109 : decode cX11_plainly 109 = .ok (.if_icmp .ge 52, 3) := by decide +kernel
theorem dX11_plainly_112 : decode cX11_plainly 112 = .ok (.iload_n 1, 1) := by decide +kernel
theorem dX11_plainly_113 : decode cX11_plainly 113 = .ok (.ifCond .le 48, 3) := by decide +kernel
theorem dX11_plainly_116 : decode cX11_plainly 116 = .ok (.iload 8, 2) := by decide +kernel
theorem dX11_plainly_118 : decode cX11_plainly 118 = .ok (.iload 9, 2) := by decide +kernel
theorem dX11_plainly_120 : decode cX11_plainly 120 = .ok (.iload 7, 2) := by decide +kernel
theorem dX11_plainly_122 : decode cX11_plainly 122 = .ok (.if_icmp .ne 7, 3) := by decide +kernel
theorem dX11_plainly_125 : decode cX11_plainly 125 = .ok (.iconst 0, 1) := by decide +kernel
theorem dX11_plainly_126 : decode cX11_plainly 126 = .ok (.goto 26, 3) := by decide +kernel
theorem dX11_plainly_129 : decode cX11_plainly 129 = .ok (.aload_n 0, 1) := by decide +kernel
theorem dX11_plainly_130 : decode cX11_plainly 130 = .ok (.getfield 19, 3) := by decide +kernel
theorem dX11_plainly_133 : decode cX11_plainly 133 = .ok (.iload 5, 2) := by decide +kernel
theorem dX11_plainly_135 : decode cX11_plainly 135 = .ok (.iload 9, 2) := by decide +kernel
theorem dX11_plainly_137 : decode cX11_plainly 137 = .ok (.iadd, 1) := by decide +kernel
theorem dX11_plainly_138 : decode cX11_plainly 138 = .ok (.iaload, 1) := by decide +kernel
theorem dX11_plainly_139 : decode cX11_plainly 139 = .ok (.aload_n 0, 1) := by decide +kernel
theorem dX11_plainly_140 : decode cX11_plainly 140 = .ok (.getfield 19, 3) := by decide +kernel
theorem dX11_plainly_143 : decode cX11_plainly 143 = .ok (.iload 5, 2) := by decide +kernel
theorem dX11_plainly_145 : decode cX11_plainly 145 = .ok (.iload 9, 2) := by decide +kernel
theorem dX11_plainly_147 : decode cX11_plainly 147 = .ok (.iadd, 1) := by decide +kernel
theorem dX11_plainly_148 : decode cX11_plainly 148 = .ok (.iaload, 1) := by decide +kernel
theorem dX11_plainly_149 : decode cX11_plainly 149 = .ok (.iconst 2, 1) := by decide +kernel
theorem dX11_plainly_150 : decode cX11_plainly 150 = .ok (.idiv, 1) := by decide +kernel
theorem dX11_plainly_151 : decode cX11_plainly 151 = .ok (.isub, 1) := by decide +kernel
theorem dX11_plainly_152 : decode cX11_plainly 152 = .ok (.iadd, 1) := by decide +kernel
theorem dX11_plainly_153 : decode cX11_plainly 153 = .ok (.istore 8, 2) := by decide +kernel
theorem dX11_plainly_155 : decode cX11_plainly 155 = .ok (.iinc 9 1, 3) := by decide +kernel
theorem dX11_plainly_158 : decode cX11_plainly 158 = .ok (.goto (-55), 3) := by decide +kernel
theorem dX11_plainly_161 : decode cX11_plainly 161 = .ok (.iload_n 1, 1) := by decide +kernel
theorem dX11_plainly_162 : decode cX11_plainly 162 = .ok (.iconst 2, 1) := by decide +kernel
theorem dX11_plainly_163 : decode cX11_plainly 163 = .ok (.if_icmp .ne 11, 3) := by decide +kernel
theorem dX11_plainly_166 : decode cX11_plainly 166 = .ok (.iload 8, 2) := by decide +kernel
theorem dX11_plainly_168 : decode cX11_plainly 168 = .ok (.iload 6, 2) := by decide +kernel
theorem dX11_plainly_170 : decode cX11_plainly 170 = .ok (.iadd, 1) := by decide +kernel
theorem dX11_plainly_171 : decode cX11_plainly 171 = .ok (.goto 5, 3) := by decide +kernel
theorem dX11_plainly_174 : decode cX11_plainly 174 = .ok (.iload 8, 2) := by decide +kernel
theorem dX11_plainly_176 : decode cX11_plainly 176 = .ok (.ireturn, 1) := by decide +kernel
theorem dX11_carried_0 : decode cX11_carried 0 = .ok (.aload_n 0, 1) := by decide +kernel
theorem dX11_carried_1 : decode cX11_carried 1 = .ok (.aload_n 0, 1) := by decide +kernel
theorem dX11_carried_2 : decode cX11_carried 2 = .ok (.getfield 25, 3) := by decide +kernel
theorem dX11_carried_5 : decode cX11_carried 5 = .ok (.iload_n 1, 1) := by decide +kernel
theorem dX11_carried_6 : decode cX11_carried 6 = .ok (.iaload, 1) := by decide +kernel
theorem dX11_carried_7 : decode cX11_carried 7 = .ok (.iload_n 2, 1) := by decide +kernel
theorem dX11_carried_8 : decode cX11_carried 8 = .ok (.iload_n 3, 1) := by decide +kernel
theorem dX11_carried_9 : decode cX11_carried 9 = .ok (.iload 4, 2) := by decide +kernel
theorem dX11_carried_11 : decode cX11_carried 11 = .ok (.invokevirtual 148, 3) := by decide +kernel
theorem dX11_carried_14 : decode cX11_carried 14 = .ok (.bipush 12, 2) := by decide +kernel
theorem dX11_carried_16 : decode cX11_carried 16 = .ok (.aload_n 0, 1) := by decide +kernel
theorem dX11_carried_17 : decode cX11_carried 17 = .ok (.getfield 28, 3) := by decide +kernel
theorem dX11_carried_20 : decode cX11_carried 20 = .ok (.iload_n 1, 1) := by decide +kernel
theorem dX11_carried_21 : decode cX11_carried 21 = .ok (.iaload, 1) := by decide +kernel
theorem dX11_carried_22 : decode cX11_carried 22 = .ok (.isub, 1) := by decide +kernel
theorem dX11_carried_23 : decode cX11_carried 23 = .ok (.imul, 1) := by decide +kernel
theorem dX11_carried_24 : decode cX11_carried 24 = .ok (.istore 5, 2) := by decide +kernel
theorem dX11_carried_26 : decode cX11_carried 26 = .ok (.iload 4, 2) := by decide +kernel
theorem dX11_carried_28 : decode cX11_carried 28 = .ok (.aload_n 0, 1) := by decide +kernel
theorem dX11_carried_29 : decode cX11_carried 29 = .ok (.getfield 75, 3) := by decide +kernel
theorem dX11_carried_32 : decode cX11_carried 32 = .ok (.if_icmp .ne 18, 3) := by decide +kernel
theorem dX11_carried_35 : decode cX11_carried 35 = .ok (.iload 5, 2) := by decide +kernel
theorem dX11_carried_37 : decode cX11_carried 37 = .ok (.bipush 12, 2) := by decide +kernel
theorem dX11_carried_39 : decode cX11_carried 39 = .ok (.aload_n 0, 1) := by decide +kernel
theorem dX11_carried_40 : decode cX11_carried 40 = .ok (.getfield 28, 3) := by decide +kernel
theorem dX11_carried_43 : decode cX11_carried 43 = .ok (.iload_n 1, 1) := by decide +kernel
theorem dX11_carried_44 : decode cX11_carried 44 = .ok (.iaload, 1) := by decide +kernel
theorem dX11_carried_45 : decode cX11_carried 45 = .ok (.imul, 1) := by decide +kernel
theorem dX11_carried_46 : decode cX11_carried 46 = .ok (.iadd, 1) := by decide +kernel
theorem dX11_carried_47 : decode cX11_carried 47 = .ok (.goto 5, 3) := by decide +kernel
theorem dX11_carried_50 : decode cX11_carried 50 = .ok (.iload 5, 2) := by decide +kernel
theorem dX11_carried_52 : decode cX11_carried 52 = .ok (.ireturn, 1) := by decide +kernel
theorem dX11_carries_0 : decode cX11_carries 0 = .ok (.aload_n 0, 1) := by decide +kernel
theorem dX11_carries_1 : decode cX11_carries 1 = .ok (.iload_n 1, 1) := by decide +kernel
theorem dX11_carries_2 : decode cX11_carries 2 = .ok (.invokevirtual 145, 3) := by decide +kernel
theorem dX11_carries_5 : decode cX11_carries 5 = .ok (.ifCond .eq 20, 3) := by decide +kernel
theorem dX11_carries_8 : decode cX11_carries 8 = .ok (.aload_n 0, 1) := by decide +kernel
theorem dX11_carries_9 : decode cX11_carries 9 = .ok (.iload_n 3, 1) := by decide +kernel
theorem dX11_carries_10 : decode cX11_carries 10 = .ok (.invokevirtual 123, 3) := by decide +kernel
theorem dX11_carries_13 : decode cX11_carries 13 = .ok (.ifCond .eq 12, 3) := by decide +kernel
theorem dX11_carries_16 : decode cX11_carries 16 = .ok (.aload_n 0, 1) := by decide +kernel
theorem dX11_carries_17 : decode cX11_carries 17 = .ok (.iload 4, 2) := by decide +kernel
theorem dX11_carries_19 : decode cX11_carries 19 = .ok (.invokevirtual 126, 3) := by decide +kernel
theorem dX11_carries_22 : decode cX11_carries 22 = .ok (.ifCond .ne 5, 3) := by decide +kernel
theorem dX11_carries_25 : decode cX11_carries 25 = .ok (.iconst (-1), 1) := by decide +kernel
theorem dX11_carries_26 : decode cX11_carries 26 = .ok (.ireturn, 1) := by decide +kernel
theorem dX11_carries_27 : decode cX11_carries 27 = .ok (.iload_n 2, 1) := by decide +kernel
theorem dX11_carries_28 : decode cX11_carries 28 = .ok (.invokestatic 129, 3) := by decide +kernel
theorem dX11_carries_31 : decode cX11_carries 31 = .ok (.ifCond .eq 15, 3) := by decide +kernel
theorem dX11_carries_34 : decode cX11_carries 34 = .ok (.aload_n 0, 1) := by decide +kernel
theorem dX11_carries_35 : decode cX11_carries 35 = .ok (.iload_n 1, 1) := by decide +kernel
theorem dX11_carries_36 : decode cX11_carries 36 = .ok (.iload_n 2, 1) := by decide +kernel
theorem dX11_carries_37 : decode cX11_carries 37 = .ok (.iload_n 3, 1) := by decide +kernel
theorem dX11_carries_38 : decode cX11_carries 38 = .ok (.iload 4, 2) := by decide +kernel
theorem dX11_carries_40 : decode cX11_carries 40 = .ok (.invokevirtual 151, 3) := by decide +kernel
theorem dX11_carries_43 : decode cX11_carries 43 = .ok (.goto 5, 3) := by decide +kernel
theorem dX11_carries_46 : decode cX11_carries 46 = .ok (.bipush (-2), 2) := by decide +kernel
theorem dX11_carries_48 : decode cX11_carries 48 = .ok (.ireturn, 1) := by decide +kernel
theorem dX11_returns_0 : decode cX11_returns 0 = .ok (.aload_n 0, 1) := by decide +kernel
theorem dX11_returns_1 : decode cX11_returns 1 = .ok (.iload_n 1, 1) := by decide +kernel
theorem dX11_returns_2 : decode cX11_returns 2 = .ok (.invokevirtual 145, 3) := by decide +kernel
theorem dX11_returns_5 : decode cX11_returns 5 = .ok (.ifCond .eq 11, 3) := by decide +kernel
theorem dX11_returns_8 : decode cX11_returns 8 = .ok (.aload_n 0, 1) := by decide +kernel
theorem dX11_returns_9 : decode cX11_returns 9 = .ok (.iload_n 3, 1) := by decide +kernel
theorem dX11_returns_10 : decode cX11_returns 10 = .ok (.invokevirtual 123, 3) := by decide +kernel
theorem dX11_returns_13 : decode cX11_returns 13 = .ok (.ifCond .ne 5, 3) := by decide +kernel
theorem dX11_returns_16 : decode cX11_returns 16 = .ok (.iconst (-1), 1) := by decide +kernel
theorem dX11_returns_17 : decode cX11_returns 17 = .ok (.ireturn, 1) := by decide +kernel
theorem dX11_returns_18 : decode cX11_returns 18 = .ok (.iload_n 2, 1) := by decide +kernel
theorem dX11_returns_19 : decode cX11_returns 19 = .ok (.invokestatic 129, 3) := by decide +kernel
theorem dX11_returns_22 : decode cX11_returns 22 = .ok (.ifCond .ne 6, 3) := by decide +kernel
theorem dX11_returns_25 : decode cX11_returns 25 = .ok (.bipush (-2), 2) := by decide +kernel
theorem dX11_returns_27 : decode cX11_returns 27 = .ok (.ireturn, 1) := by decide +kernel
theorem dX11_returns_28 : decode cX11_returns 28 = .ok (.iconst 0, 1) := by decide +kernel
theorem dX11_returns_29 : decode cX11_returns 29 = .ok (.istore 4, 2) := by decide +kernel
theorem dX11_returns_31 : decode cX11_returns 31 = .ok (.iconst (-1), 1) := by decide +kernel
theorem dX11_returns_32 : decode cX11_returns 32 = .ok (.istore 5, 2) := by decide +kernel
theorem dX11_returns_34 : decode cX11_returns 34 = .ok (.iconst 0, 1) := by decide +kernel
theorem dX11_returns_35 : decode cX11_returns 35 = .ok (.istore 6, 2) := by decide +kernel
theorem dX11_returns_37 : decode cX11_returns 37 = .ok (.iload 6, 2) := by decide +kernel
theorem dX11_returns_39 : decode cX11_returns 39 = .ok (.aload_n 0, 1) := by decide +kernel
theorem dX11_returns_40 : decode cX11_returns 40 = .ok (.getfield 75, 3) := by decide +kernel
theorem dX11_returns_43 : decode cX11_returns 43 = .ok (.if_icmp .ge 72, 3) := by decide +kernel
theorem dX11_returns_46 : decode cX11_returns 46 = .ok (.iconst 0, 1) := by decide +kernel
theorem dX11_returns_47 : decode cX11_returns 47 = .ok (.istore 7, 2) := by decide +kernel
theorem dX11_returns_49 : decode cX11_returns 49 = .ok (.iconst 0, 1) := by decide +kernel
theorem dX11_returns_50 : decode cX11_returns 50 = .ok (.istore 8, 2) := by decide +kernel
theorem dX11_returns_52 : decode cX11_returns 52 = .ok (.iload 8, 2) := by decide +kernel
theorem dX11_returns_54 : decode cX11_returns 54 = .ok (.aload_n 0, 1) := by decide +kernel
theorem dX11_returns_55 : decode cX11_returns 55 = .ok (.getfield 75, 3) := by decide +kernel
theorem dX11_returns_58 : decode cX11_returns 58 = .ok (.if_icmp .ge 36, 3) := by decide +kernel
theorem dX11_returns_61 : decode cX11_returns 61 = .ok (.iload 7, 2) := by decide +kernel
theorem dX11_returns_63 : decode cX11_returns 63 = .ok (.aload_n 0, 1) := by decide +kernel
theorem dX11_returns_64 : decode cX11_returns 64 = .ok (.iload_n 1, 1) := by decide +kernel
theorem dX11_returns_65 : decode cX11_returns 65 = .ok (.iload_n 2, 1) := by decide +kernel
theorem dX11_returns_66 : decode cX11_returns 66 = .ok (.iload_n 3, 1) := by decide +kernel
theorem dX11_returns_67 : decode cX11_returns 67 = .ok (.iload 8, 2) := by decide +kernel
theorem dX11_returns_69 : decode cX11_returns 69 = .ok (.invokevirtual 151, 3) := by decide +kernel
theorem dX11_returns_72 : decode cX11_returns 72 = .ok (.aload_n 0, 1) := by decide +kernel
theorem dX11_returns_73 : decode cX11_returns 73 = .ok (.iload_n 1, 1) := by decide +kernel
theorem dX11_returns_74 : decode cX11_returns 74 = .ok (.iconst 1, 1) := by decide +kernel
theorem dX11_returns_75 : decode cX11_returns 75 = .ok (.iload_n 2, 1) := by decide +kernel
theorem dX11_returns_76 : decode cX11_returns 76 = .ok (.isub, 1) := by decide +kernel
theorem dX11_returns_77 : decode cX11_returns 77 = .ok (.iload 8, 2) := by decide +kernel
theorem dX11_returns_79 : decode cX11_returns 79 = .ok (.iload 6, 2) := by decide +kernel
theorem dX11_returns_81 : decode cX11_returns 81 = .ok (.invokevirtual 151, 3) := by decide +kernel
theorem dX11_returns_84 : decode cX11_returns 84 = .ok (.imul, 1) := by decide +kernel
theorem dX11_returns_85 : decode cX11_returns 85 = .ok (.iadd, 1) := by decide +kernel
theorem dX11_returns_86 : decode cX11_returns 86 = .ok (.istore 7, 2) := by decide +kernel
theorem dX11_returns_88 : decode cX11_returns 88 = .ok (.iinc 8 1, 3) := by decide +kernel
theorem dX11_returns_91 : decode cX11_returns 91 = .ok (.goto (-39), 3) := by decide +kernel
theorem dX11_returns_94 : decode cX11_returns 94 = .ok (.iload 7, 2) := by decide +kernel
theorem dX11_returns_96 : decode cX11_returns 96 = .ok (.iload 5, 2) := by decide +kernel
theorem dX11_returns_98 : decode cX11_returns 98 = .ok (.if_icmp .le 11, 3) := by decide +kernel
theorem dX11_returns_101 : decode cX11_returns 101 = .ok (.iload 7, 2) := by decide +kernel
theorem dX11_returns_103 : decode cX11_returns 103 = .ok (.istore 5, 2) := by decide +kernel
theorem dX11_returns_105 : decode cX11_returns 105 = .ok (.iload 6, 2) := by decide +kernel
theorem dX11_returns_107 : decode cX11_returns 107 = .ok (.istore 4, 2) := by decide +kernel
theorem dX11_returns_109 : decode cX11_returns 109 = .ok (.iinc 6 1, 3) := by decide +kernel
theorem dX11_returns_112 : decode cX11_returns 112 = .ok (.goto (-75), 3) := by decide +kernel
theorem dX11_returns_115 : decode cX11_returns 115 = .ok (.iload 4, 2) := by decide +kernel
theorem dX11_returns_117 : decode cX11_returns 117 = .ok (.ireturn, 1) := by decide +kernel
theorem dX11_hands_0 : decode cX11_hands 0 = .ok (.aload_n 0, 1) := by decide +kernel
theorem dX11_hands_1 : decode cX11_hands 1 = .ok (.iconst 0, 1) := by decide +kernel
theorem dX11_hands_2 : decode cX11_hands 2 = .ok (.putfield 65, 3) := by decide +kernel
theorem dX11_hands_5 : decode cX11_hands 5 = .ok (.aload_n 0, 1) := by decide +kernel
theorem dX11_hands_6 : decode cX11_hands 6 = .ok (.iload_n 2, 1) := by decide +kernel
theorem dX11_hands_7 : decode cX11_hands 7 = .ok (.invokevirtual 123, 3) := by decide +kernel
theorem dX11_hands_10 : decode cX11_hands 10 = .ok (.ifCond .eq 34, 3) := by decide +kernel
theorem dX11_hands_13 : decode cX11_hands 13 = .ok (.aload_n 0, 1) := by decide +kernel
theorem dX11_hands_14 : decode cX11_hands 14 = .ok (.iload_n 3, 1) := by decide +kernel
theorem dX11_hands_15 : decode cX11_hands 15 = .ok (.invokevirtual 126, 3) := by decide +kernel
theorem dX11_hands_18 : decode cX11_hands 18 = .ok (.ifCond .eq 26, 3) := by decide +kernel
theorem dX11_hands_21 : decode cX11_hands 21 = .ok (.iload 4, 2) := by decide +kernel
theorem dX11_hands_23 : decode cX11_hands 23 = .ok (.invokestatic 81, 3) := by decide +kernel
theorem dX11_hands_26 : decode cX11_hands 26 = .ok (.ifCond .eq 18, 3) := by decide +kernel
theorem dX11_hands_29 : decode cX11_hands 29 = .ok (.iload_n 1, 1) := by decide +kernel
theorem dX11_hands_30 : decode cX11_hands 30 = .ok (.invokestatic 129, 3) := by decide +kernel
theorem dX11_hands_33 : decode cX11_hands 33 = .ok (.ifCond .eq 11, 3) := by decide +kernel
theorem dX11_hands_36 : decode cX11_hands 36 = .ok (.iload 5, 2) := by decide +kernel
theorem dX11_hands_38 : decode cX11_hands 38 = .ok (.invokestatic 85, 3) := by decide +kernel
theorem dX11_hands_41 : decode cX11_hands 41 = .ok (.ifCond .ne 7, 3) := by decide +kernel
theorem dX11_hands_44 : decode cX11_hands 44 = .ok (.ldc2_w 69, 3) := by decide +kernel
theorem dX11_hands_47 : decode cX11_hands 47 = .ok (.lreturn, 1) := by decide +kernel
theorem dX11_hands_48 : decode cX11_hands 48 = .ok (.aload_n 0, 1) := by decide +kernel
theorem dX11_hands_49 : decode cX11_hands 49 = .ok (.iload 4, 2) := by decide +kernel
theorem dX11_hands_51 : decode cX11_hands 51 = .ok (.iload 5, 2) := by decide +kernel
theorem dX11_hands_53 : decode cX11_hands 53 = .ok (.iload 6, 2) := by decide +kernel
theorem dX11_hands_55 : decode cX11_hands 55 = .ok (.iload 7, 2) := by decide +kernel
theorem dX11_hands_57 : decode cX11_hands 57 = .ok (.invokevirtual 88, 3) := by decide +kernel
theorem dX11_hands_60 : decode cX11_hands 60 = .ok (.istore 9, 2) := by decide +kernel
theorem dX11_hands_62 : decode cX11_hands 62 = .ok (.iload 9, 2) := by decide +kernel
theorem dX11_hands_64 : decode cX11_hands 64 = .ok (.ifCond .eq 10, 3) := by decide +kernel
theorem dX11_hands_67 : decode cX11_hands 67 = .ok (.aload_n 0, 1) := by decide +kernel
theorem dX11_hands_68 : decode cX11_hands 68 = .ok (.iload 9, 2) := by decide +kernel
theorem dX11_hands_70 : decode cX11_hands 70 = .ok (.invokevirtual 154, 3) := by decide +kernel
theorem dX11_hands_73 : decode cX11_hands 73 = .ok (.lreturn, 1) := by decide +kernel
theorem dX11_hands_74 : decode cX11_hands 74 = .ok (.bipush 120, 2) := by decide +kernel
theorem dX11_hands_76 : decode cX11_hands 76 = .ok (.iload 4, 2) := by decide +kernel
theorem dX11_hands_78 : decode cX11_hands 78 = .ok (.imul, 1) := by decide +kernel
theorem dX11_hands_79 : decode cX11_hands 79 = .ok (.iload 6, 2) := by decide +kernel
theorem dX11_hands_81 : decode cX11_hands 81 = .ok (.iadd, 1) := by decide +kernel
theorem dX11_hands_82 : decode cX11_hands 82 = .ok (.istore 10, 2) := by decide +kernel
theorem dX11_hands_84 : decode cX11_hands 84 = .ok (.iload 7, 2) := by decide +kernel
theorem dX11_hands_86 : decode cX11_hands 86 = .ok (.iconst 1, 1) := by decide +kernel
theorem dX11_hands_87 : decode cX11_hands 87 = .ok (.bipush 8, 2) := by decide +kernel
theorem dX11_hands_89 : decode cX11_hands 89 = .ok (.invokestatic 71, 3) := by decide +kernel
theorem dX11_hands_92 : decode cX11_hands 92 = .ok (.ifCond .ne 7, 3) := by decide +kernel
theorem dX11_hands_95 : decode cX11_hands 95 = .ok (.ldc2_w 69, 3) := by decide +kernel
theorem dX11_hands_98 : decode cX11_hands 98 = .ok (.lreturn, 1) := by decide +kernel
theorem dX11_hands_99 : decode cX11_hands 99 = .ok (.iconst 0, 1) := by decide +kernel
theorem dX11_hands_100 : decode cX11_hands 100 = .ok (.istore 11, 2) := by decide +kernel
theorem dX11_hands_102 : decode cX11_hands 102 = .ok (.iload 11, 2) := by decide +kernel
theorem dX11_hands_104 : decode cX11_hands 104 = .ok (.iload 7, 2) := by decide +kernel
theorem dX11_hands_106 : decode cX11_hands 106 = .ok (.if_icmp .ge 30, 3) := by decide +kernel
theorem dX11_hands_109 : decode cX11_hands 109 = .ok (.aload_n 0, 1) := by decide +kernel
theorem dX11_hands_110 : decode cX11_hands 110 = .ok (.aload_n 0, 1) := by decide +kernel
theorem dX11_hands_111 : decode cX11_hands 111 = .ok (.getfield 16, 3) := by decide +kernel
theorem dX11_hands_114 : decode cX11_hands 114 = .ok (.iload 10, 2) := by decide +kernel
theorem dX11_hands_116 : decode cX11_hands 116 = .ok (.iload 11, 2) := by decide +kernel
theorem dX11_hands_118 : decode cX11_hands 118 = .ok (.iadd, 1) := by decide +kernel
theorem dX11_hands_119 : decode cX11_hands 119 = .ok (.iaload, 1) := by decide +kernel
theorem dX11_hands_120 : decode cX11_hands 120 = .ok (.invokevirtual 145, 3) := by decide +kernel
theorem dX11_hands_123 : decode cX11_hands 123 = .ok (.ifCond .ne 7, 3) := by decide +kernel
theorem dX11_hands_126 : decode cX11_hands 126 = .ok (.ldc2_w 69, 3) := by decide +kernel
theorem dX11_hands_129 : decode cX11_hands 129 = .ok (.lreturn, 1) := by decide +kernel
theorem dX11_hands_130 : decode cX11_hands 130 = .ok (.iinc 11 1, 3) := by decide +kernel
theorem dX11_hands_133 : decode cX11_hands 133 = .ok (.goto (-31), 3) := by decide +kernel
theorem dX11_hands_136 : decode cX11_hands 136 = .ok (.iload 8, 2) := by decide +kernel
theorem dX11_hands_138 : decode cX11_hands 138 = .ok (.invokestatic 158, 3) := by decide +kernel
theorem dX11_hands_141 : decode cX11_hands 141 = .ok (.ifCond .ne 7, 3) := by decide +kernel
theorem dX11_hands_144 : decode cX11_hands 144 = .ok (.ldc2_w 69, 3) := by decide +kernel
theorem dX11_hands_147 : decode cX11_hands 147 = .ok (.lreturn, 1) := by decide +kernel
theorem dX11_hands_148 : decode cX11_hands 148 = .ok (.iconst 0, 1) := by decide +kernel
theorem dX11_hands_149 : decode cX11_hands 149 = .ok (.istore 11, 2) := by decide +kernel
theorem dX11_hands_151 : decode cX11_hands 151 = .ok (.iload 11, 2) := by decide +kernel
theorem dX11_hands_153 : decode cX11_hands 153 = .ok (.aload_n 0, 1) := by decide +kernel
theorem dX11_hands_154 : decode cX11_hands 154 = .ok (.getfield 75, 3) := by decide +kernel
theorem dX11_hands_157 : decode cX11_hands 157 = .ok (.if_icmp .ge 27, 3) := by decide +kernel
theorem dX11_hands_160 : decode cX11_hands 160 = .ok (.aload_n 0, 1) := by decide +kernel
theorem dX11_hands_161 : decode cX11_hands 161 = .ok (.getfield 31, 3) := by decide +kernel
theorem dX11_hands_164 : decode cX11_hands 164 = .ok (.iload 11, 2) := by decide +kernel
theorem dX11_hands_166 : decode cX11_hands 166 = .ok (.iload 11, 2) := by decide +kernel
theorem dX11_hands_168 : decode cX11_hands 168 = .ok (.iload_n 2, 1) := by decide +kernel
theorem dX11_hands_169 : decode cX11_hands 169 = .ok (.if_icmp .ne 7, 3) := by decide +kernel
theorem dX11_hands_172 : decode cX11_hands 172 = .ok (.lconst 1, 1) := by decide +kernel
theorem dX11_hands_173 : decode cX11_hands 173 = .ok (.goto 4, 3) := by decide +kernel
theorem dX11_hands_176 : decode cX11_hands 176 = .ok (.lconst 0, 1) := by decide +kernel
theorem dX11_hands_177 : decode cX11_hands 177 = .ok (.lastore, 1) := by decide +kernel
theorem dX11_hands_178 : decode cX11_hands 178 = .ok (.iinc 11 1, 3) := by decide +kernel
theorem dX11_hands_181 : decode cX11_hands 181 = .ok (.goto (-30), 3) := by decide +kernel
theorem dX11_hands_184 : decode cX11_hands 184 = .ok (.lconst 1, 1) := by decide +kernel
theorem dX11_hands_185 : decode cX11_hands 185 = .ok (.lstore 11, 2) := by decide +kernel
theorem dX11_hands_187 : decode cX11_hands 187 = .ok (.iload_n 1, 1) := by decide +kernel
theorem dX11_hands_188 : decode cX11_hands 188 = .ok (.istore 13, 2) := by decide +kernel
theorem dX11_hands_190 : decode cX11_hands 190 = .ok (.iconst 0, 1) := by decide +kernel
theorem dX11_hands_191 : decode cX11_hands 191 = .ok (.istore 14, 2) := by decide +kernel
theorem dX11_hands_193 : decode cX11_hands 193 = .ok (.iload 14, 2) := by decide +kernel
theorem dX11_hands_195 : decode cX11_hands 195 = .ok (.iload 7, 2) := by decide +kernel
theorem dX11_hands_197 : decode cX11_hands 197 = .ok (.if_icmp .ge 39, 3) := by decide +kernel
theorem dX11_hands_200 : decode cX11_hands 200 = .ok (.aload_n 0, 1) := by decide +kernel
theorem dX11_hands_201 : decode cX11_hands 201 = .ok (.aload_n 0, 1) := by decide +kernel
theorem dX11_hands_202 : decode cX11_hands 202 = .ok (.getfield 16, 3) := by decide +kernel
theorem dX11_hands_205 : decode cX11_hands 205 = .ok (.iload 10, 2) := by decide +kernel
theorem dX11_hands_207 : decode cX11_hands 207 = .ok (.iload 14, 2) := by decide +kernel
theorem dX11_hands_209 : decode cX11_hands 209 = .ok (.iadd, 1) := by decide +kernel
theorem dX11_hands_210 : decode cX11_hands 210 = .ok (.iaload, 1) := by decide +kernel
theorem dX11_hands_211 : decode cX11_hands 211 = .ok (.iload 13, 2) := by decide +kernel
theorem dX11_hands_213 : decode cX11_hands 213 = .ok (.invokevirtual 161, 3) := by decide +kernel
theorem dX11_hands_216 : decode cX11_hands 216 = .ok (.iconst 1, 1) := by decide +kernel
theorem dX11_hands_217 : decode cX11_hands 217 = .ok (.iload 13, 2) := by decide +kernel
theorem dX11_hands_219 : decode cX11_hands 219 = .ok (.isub, 1) := by decide +kernel
theorem dX11_hands_220 : decode cX11_hands 220 = .ok (.istore 13, 2) := by decide +kernel
theorem dX11_hands_222 : decode cX11_hands 222 = .ok (.lload 11, 2) := by decide +kernel
theorem dX11_hands_224 : decode cX11_hands 224 = .ok (.ldc2_w 165, 3) := by decide +kernel
theorem dX11_hands_227 : decode cX11_hands 227 = .ok (.lmul, 1) := by decide +kernel
theorem dX11_hands_228 : decode cX11_hands 228 = .ok (.lstore 11, 2) := by decide +kernel
theorem dX11_hands_230 : decode cX11_hands 230 = .ok (.iinc 14 1, 3) := by decide +kernel
theorem dX11_hands_233 : decode cX11_hands 233 = .ok (.goto (-40), 3) := by decide +kernel
theorem dX11_hands_236 : decode cX11_hands 236 = .ok (.lload 11, 2) := by decide +kernel
theorem dX11_hands_238 : decode cX11_hands 238 = .ok (.lstore 14, 2) := by decide +kernel
theorem dX11_hands_240 : decode cX11_hands 240 = .ok (.iconst 0, 1) := by decide +kernel
theorem dX11_hands_241 : decode cX11_hands 241 = .ok (.istore 16, 2) := by decide +kernel
theorem dX11_hands_243 : decode cX11_hands 243 = .ok (.iload 16, 2) := by decide +kernel
theorem dX11_hands_245 : decode cX11_hands 245 = .ok (.aload_n 0, 1) := by decide +kernel
theorem dX11_hands_246 : decode cX11_hands 246 = .ok (.getfield 75, 3) := by decide +kernel
theorem dX11_hands_249 : decode cX11_hands 249 = .ok (.if_icmp .ge 21, 3) := by decide +kernel
theorem dX11_hands_252 : decode cX11_hands 252 = .ok (.lload 14, 2) := by decide +kernel
theorem dX11_hands_254 : decode cX11_hands 254 = .ok (.aload_n 0, 1) := by decide +kernel
theorem dX11_hands_255 : decode cX11_hands 255 = .ok (.getfield 31, 3) := by decide +kernel
theorem dX11_hands_258 : decode cX11_hands 258 = .ok (.iload 16, 2) := by decide +kernel
theorem dX11_hands_260 : decode cX11_hands 260 = .ok (.laload, 1) := by decide +kernel
theorem dX11_hands_261 : decode cX11_hands 261 = .ok (.lsub, 1) := by decide +kernel
theorem dX11_hands_262 : decode cX11_hands 262 = .ok (.lstore 14, 2) := by decide +kernel
theorem dX11_hands_264 : decode cX11_hands 264 = .ok (.iinc 16 1, 3) := by decide +kernel
theorem dX11_hands_267 : decode cX11_hands 267 = .ok (.goto (-24), 3) := by decide +kernel
theorem dX11_hands_270 : decode cX11_hands 270 = .ok (.iload_n 3, 1) := by decide +kernel
theorem dX11_hands_271 : decode cX11_hands 271 = .ok (.aload_n 0, 1) := by decide +kernel
theorem dX11_hands_272 : decode cX11_hands 272 = .ok (.getfield 75, 3) := by decide +kernel
theorem dX11_hands_275 : decode cX11_hands 275 = .ok (.if_icmp .ne 8, 3) := by decide +kernel
theorem dX11_hands_278 : decode cX11_hands 278 = .ok (.lload 14, 2) := by decide +kernel
theorem dX11_hands_280 : decode cX11_hands 280 = .ok (.goto 9, 3) := by decide +kernel
theorem dX11_hands_283 : decode cX11_hands 283 = .ok (.aload_n 0, 1) := by decide +kernel
theorem dX11_hands_284 : decode cX11_hands 284 = .ok (.getfield 31, 3) := by decide +kernel
theorem dX11_hands_287 : decode cX11_hands 287 = .ok (.iload_n 3, 1) := by decide +kernel
theorem dX11_hands_288 : decode cX11_hands 288 = .ok (.laload, 1) := by decide +kernel
theorem dX11_hands_289 : decode cX11_hands 289 = .ok (.lload 11, 2) := by decide +kernel
theorem dX11_hands_291 : decode cX11_hands 291 = .ok (.iload 8, 2) := by decide +kernel
theorem dX11_hands_293 : decode cX11_hands 293 = .ok (.invokestatic 167, 3) := by decide +kernel
theorem dX11_hands_296 : decode cX11_hands 296 = .ok (.lreturn, 1) := by decide +kernel
theorem dX11_carryOn_0 : decode cX11_carryOn 0 = .ok (.iconst 0, 1) := by decide +kernel
theorem dX11_carryOn_1 : decode cX11_carryOn 1 = .ok (.istore_n 3, 1) := by decide +kernel
theorem dX11_carryOn_2 : decode cX11_carryOn 2 = .ok (.iload_n 3, 1) := by decide +kernel
theorem dX11_carryOn_3 : decode cX11_carryOn 3 = .ok (.aload_n 0, 1) := by decide +kernel
theorem dX11_carryOn_4 : decode cX11_carryOn 4 = .ok (.getfield 75, 3) := by decide +kernel
theorem dX11_carryOn_7 : decode cX11_carryOn 7 = .ok (.if_icmp .ge 16, 3) := by decide +kernel
theorem dX11_carryOn_10 : decode cX11_carryOn 10 = .ok (.aload_n 0, 1) := by decide +kernel
theorem dX11_carryOn_11 : decode cX11_carryOn 11 = .ok (.getfield 35, 3) := by decide +kernel
theorem dX11_carryOn_14 : decode cX11_carryOn 14 = .ok (.iload_n 3, 1) := by decide +kernel
theorem dX11_carryOn_15 : decode cX11_carryOn 15 = .ok (.lconst 0, 1) := by decide +kernel
theorem dX11_carryOn_16 : decode cX11_carryOn 16 = .ok (.lastore, 1) := by decide +kernel
theorem dX11_carryOn_17 : decode cX11_carryOn 17 = .ok (.iinc 3 1, 3) := by decide +kernel
theorem dX11_carryOn_20 : decode cX11_carryOn 20 = .ok (.goto (-18), 3) := by decide +kernel
theorem dX11_carryOn_23 : decode cX11_carryOn 23 = .ok (.iconst 0, 1) := by decide +kernel
theorem dX11_carryOn_24 : decode cX11_carryOn 24 = .ok (.istore_n 3, 1) := by decide +kernel
theorem dX11_carryOn_25 : decode cX11_carryOn 25 = .ok (.iload_n 3, 1) := by decide +kernel
theorem dX11_carryOn_26 : decode cX11_carryOn 26 = .ok (.aload_n 0, 1) := by decide +kernel
theorem dX11_carryOn_27 : decode cX11_carryOn 27 = .ok (.getfield 75, 3) := by decide +kernel
theorem dX11_carryOn_30 : decode cX11_carryOn 30 = .ok (.if_icmp .ge 54, 3) := by decide +kernel
theorem dX11_carryOn_33 : decode cX11_carryOn 33 = .ok (.iconst 0, 1) := by decide +kernel
theorem dX11_carryOn_34 : decode cX11_carryOn 34 = .ok (.istore 4, 2) := by decide +kernel
theorem dX11_carryOn_36 : decode cX11_carryOn 36 = .ok (.iload 4, 2) := by decide +kernel
theorem dX11_carryOn_38 : decode cX11_carryOn 38 = .ok (.aload_n 0, 1) := by decide +kernel
theorem dX11_carryOn_39 : decode cX11_carryOn 39 = .ok (.getfield 75, 3) := by decide +kernel
theorem dX11_carryOn_42 : decode cX11_carryOn 42 = .ok (.if_icmp .ge 36, 3) := by decide +kernel
theorem dX11_carryOn_45 : decode cX11_carryOn 45 = .ok (.aload_n 0, 1) := by decide +kernel
theorem dX11_carryOn_46 : decode cX11_carryOn 46 = .ok (.getfield 35, 3) := by decide +kernel
theorem dX11_carryOn_49 : decode cX11_carryOn 49 = .ok (.iload 4, 2) := by decide +kernel
theorem dX11_carryOn_51 : decode cX11_carryOn 51 = .ok (.dup2, 1) := by decide +kernel
theorem dX11_carryOn_52 : decode cX11_carryOn 52 = .ok (.laload, 1) := by decide +kernel
theorem dX11_carryOn_53 : decode cX11_carryOn 53 = .ok (.aload_n 0, 1) := by decide +kernel
theorem dX11_carryOn_54 : decode cX11_carryOn 54 = .ok (.getfield 31, 3) := by decide +kernel
theorem dX11_carryOn_57 : decode cX11_carryOn 57 = .ok (.iload_n 3, 1) := by decide +kernel
theorem dX11_carryOn_58 : decode cX11_carryOn 58 = .ok (.laload, 1) := by decide +kernel
theorem dX11_carryOn_59 : decode cX11_carryOn 59 = .ok (.aload_n 0, 1) := by decide +kernel
theorem dX11_carryOn_60 : decode cX11_carryOn 60 = .ok (.iload_n 1, 1) := by decide +kernel
theorem dX11_carryOn_61 : decode cX11_carryOn 61 = .ok (.iload_n 2, 1) := by decide +kernel
theorem dX11_carryOn_62 : decode cX11_carryOn 62 = .ok (.iload_n 3, 1) := by decide +kernel
theorem dX11_carryOn_63 : decode cX11_carryOn 63 = .ok (.iload 4, 2) := by decide +kernel
theorem dX11_carryOn_65 : decode cX11_carryOn 65 = .ok (.invokevirtual 151, 3) := by decide +kernel
theorem dX11_carryOn_68 : decode cX11_carryOn 68 = .ok (.i2l, 1) := by decide +kernel
theorem dX11_carryOn_69 : decode cX11_carryOn 69 = .ok (.lmul, 1) := by decide +kernel
theorem dX11_carryOn_70 : decode cX11_carryOn 70 = .ok (.ladd, 1) := by decide +kernel
theorem dX11_carryOn_71 : decode cX11_carryOn 71 = .ok (.lastore, 1) := by decide +kernel
theorem dX11_carryOn_72 : decode cX11_carryOn 72 = .ok (.iinc 4 1, 3) := by decide +kernel
theorem dX11_carryOn_75 : decode cX11_carryOn 75 = .ok (.goto (-39), 3) := by decide +kernel
theorem dX11_carryOn_78 : decode cX11_carryOn 78 = .ok (.iinc 3 1, 3) := by decide +kernel
theorem dX11_carryOn_81 : decode cX11_carryOn 81 = .ok (.goto (-56), 3) := by decide +kernel
theorem dX11_carryOn_84 : decode cX11_carryOn 84 = .ok (.iconst 0, 1) := by decide +kernel
theorem dX11_carryOn_85 : decode cX11_carryOn 85 = .ok (.istore_n 3, 1) := by decide +kernel
theorem dX11_carryOn_86 : decode cX11_carryOn 86 = .ok (.iload_n 3, 1) := by decide +kernel
theorem dX11_carryOn_87 : decode cX11_carryOn 87 = .ok (.aload_n 0, 1) := by decide +kernel
theorem dX11_carryOn_88 : decode cX11_carryOn 88 = .ok (.getfield 75, 3) := by decide +kernel
theorem dX11_carryOn_91 : decode cX11_carryOn 91 = .ok (.if_icmp .ge 21, 3) := by decide +kernel
theorem dX11_carryOn_94 : decode cX11_carryOn 94 = .ok (.aload_n 0, 1) := by decide +kernel
theorem dX11_carryOn_95 : decode cX11_carryOn 95 = .ok (.getfield 31, 3) := by decide +kernel
theorem dX11_carryOn_98 : decode cX11_carryOn 98 = .ok (.iload_n 3, 1) := by decide +kernel
theorem dX11_carryOn_99 : decode cX11_carryOn 99 = .ok (.aload_n 0, 1) := by decide +kernel
theorem dX11_carryOn_100 : decode cX11_carryOn 100 = .ok (.getfield 35, 3) := by decide +kernel
theorem dX11_carryOn_103 : decode cX11_carryOn 103 = .ok (.iload_n 3, 1) := by decide +kernel
theorem dX11_carryOn_104 : decode cX11_carryOn 104 = .ok (.laload, 1) := by decide +kernel
theorem dX11_carryOn_105 : decode cX11_carryOn 105 = .ok (.lastore, 1) := by decide +kernel
theorem dX11_carryOn_106 : decode cX11_carryOn 106 = .ok (.iinc 3 1, 3) := by decide +kernel
theorem dX11_carryOn_109 : decode cX11_carryOn 109 = .ok (.goto (-23), 3) := by decide +kernel
theorem dX11_carryOn_112 : decode cX11_carryOn 112 = .ok (.return_, 1) := by decide +kernel
theorem dX11_witness_0 : decode cX11_witness 0 = .ok (.aload_n 0, 1) := by decide +kernel
theorem dX11_witness_1 : decode cX11_witness 1 = .ok (.iconst 0, 1) := by decide +kernel
theorem dX11_witness_2 : decode cX11_witness 2 = .ok (.putfield 65, 3) := by decide +kernel
theorem dX11_witness_5 : decode cX11_witness 5 = .ok (.iload_n 1, 1) := by decide +kernel
theorem dX11_witness_6 : decode cX11_witness 6 = .ok (.invokestatic 81, 3) := by decide +kernel
theorem dX11_witness_9 : decode cX11_witness 9 = .ok (.ifCond .ne 5, 3) := by decide +kernel
theorem dX11_witness_12 : decode cX11_witness 12 = .ok (.iconst (-1), 1) := by decide +kernel
theorem dX11_witness_13 : decode cX11_witness 13 = .ok (.ireturn, 1) := by decide +kernel
theorem dX11_witness_14 : decode cX11_witness 14 = .ok (.iload_n 2, 1) := by decide +kernel
theorem dX11_witness_15 : decode cX11_witness 15 = .ok (.invokestatic 85, 3) := by decide +kernel
theorem dX11_witness_18 : decode cX11_witness 18 = .ok (.ifCond .ne 6, 3) := by decide +kernel
theorem dX11_witness_21 : decode cX11_witness 21 = .ok (.bipush (-2), 2) := by decide +kernel
theorem dX11_witness_23 : decode cX11_witness 23 = .ok (.ireturn, 1) := by decide +kernel
theorem dX11_witness_24 : decode cX11_witness 24 = .ok (.aload_n 0, 1) := by decide +kernel
theorem dX11_witness_25 : decode cX11_witness 25 = .ok (.getfield 75, 3) := by decide +kernel
theorem dX11_witness_28 : decode cX11_witness 28 = .ok (.ifCond .ne 6, 3) := by decide +kernel
theorem dX11_witness_31 : decode cX11_witness 31 = .ok (.bipush (-3), 2) := by decide +kernel
theorem dX11_witness_33 : decode cX11_witness 33 = .ok (.ireturn, 1) := by decide +kernel
theorem dX11_witness_34 : decode cX11_witness 34 = .ok (.aload_n 0, 1) := by decide +kernel
theorem dX11_witness_35 : decode cX11_witness 35 = .ok (.iload_n 1, 1) := by decide +kernel
theorem dX11_witness_36 : decode cX11_witness 36 = .ok (.iload_n 2, 1) := by decide +kernel
theorem dX11_witness_37 : decode cX11_witness 37 = .ok (.iload_n 3, 1) := by decide +kernel
theorem dX11_witness_38 : decode cX11_witness 38 = .ok (.iload 4, 2) := by decide +kernel
theorem dX11_witness_40 : decode cX11_witness 40 = .ok (.invokevirtual 88, 3) := by decide +kernel
theorem dX11_witness_43 : decode cX11_witness 43 = .ok (.istore 5, 2) := by decide +kernel
theorem dX11_witness_45 : decode cX11_witness 45 = .ok (.iload 5, 2) := by decide +kernel
theorem dX11_witness_47 : decode cX11_witness 47 = .ok (.ifCond .eq 10, 3) := by decide +kernel
theorem dX11_witness_50 : decode cX11_witness 50 = .ok (.aload_n 0, 1) := by decide +kernel
theorem dX11_witness_51 : decode cX11_witness 51 = .ok (.iload 5, 2) := by decide +kernel
theorem dX11_witness_53 : decode cX11_witness 53 = .ok (.invokevirtual 92, 3) := by decide +kernel
theorem dX11_witness_56 : decode cX11_witness 56 = .ok (.ireturn, 1) := by decide +kernel
theorem dX11_witness_57 : decode cX11_witness 57 = .ok (.bipush 120, 2) := by decide +kernel
theorem dX11_witness_59 : decode cX11_witness 59 = .ok (.iload_n 1, 1) := by decide +kernel
theorem dX11_witness_60 : decode cX11_witness 60 = .ok (.imul, 1) := by decide +kernel
theorem dX11_witness_61 : decode cX11_witness 61 = .ok (.iload_n 3, 1) := by decide +kernel
theorem dX11_witness_62 : decode cX11_witness 62 = .ok (.iadd, 1) := by decide +kernel
theorem dX11_witness_63 : decode cX11_witness 63 = .ok (.istore 6, 2) := by decide +kernel
theorem dX11_witness_65 : decode cX11_witness 65 = .ok (.aload_n 0, 1) := by decide +kernel
theorem dX11_witness_66 : decode cX11_witness 66 = .ok (.iload 6, 2) := by decide +kernel
theorem dX11_witness_68 : decode cX11_witness 68 = .ok (.putfield 78, 3) := by decide +kernel
theorem dX11_witness_71 : decode cX11_witness 71 = .ok (.aload_n 0, 1) := by decide +kernel
theorem dX11_witness_72 : decode cX11_witness 72 = .ok (.iload 6, 2) := by decide +kernel
theorem dX11_witness_74 : decode cX11_witness 74 = .ok (.iload 4, 2) := by decide +kernel
theorem dX11_witness_76 : decode cX11_witness 76 = .ok (.iadd, 1) := by decide +kernel
theorem dX11_witness_77 : decode cX11_witness 77 = .ok (.invokevirtual 171, 3) := by decide +kernel
theorem dX11_witness_80 : decode cX11_witness 80 = .ok (.ifCond .ne 14, 3) := by decide +kernel
theorem dX11_witness_83 : decode cX11_witness 83 = .ok (.bipush (-100), 2) := by decide +kernel
theorem dX11_witness_85 : decode cX11_witness 85 = .ok (.aload_n 0, 1) := by decide +kernel
theorem dX11_witness_86 : decode cX11_witness 86 = .ok (.getfield 78, 3) := by decide +kernel
theorem dX11_witness_89 : decode cX11_witness 89 = .ok (.iload 6, 2) := by decide +kernel
theorem dX11_witness_91 : decode cX11_witness 91 = .ok (.isub, 1) := by decide +kernel
theorem dX11_witness_92 : decode cX11_witness 92 = .ok (.isub, 1) := by decide +kernel
theorem dX11_witness_93 : decode cX11_witness 93 = .ok (.ireturn, 1) := by decide +kernel
theorem dX11_witness_94 : decode cX11_witness 94 = .ok (.aload_n 0, 1) := by decide +kernel
theorem dX11_witness_95 : decode cX11_witness 95 = .ok (.iconst 1, 1) := by decide +kernel
theorem dX11_witness_96 : decode cX11_witness 96 = .ok (.putfield 102, 3) := by decide +kernel
theorem dX11_witness_99 : decode cX11_witness 99 = .ok (.aload_n 0, 1) := by decide +kernel
theorem dX11_witness_100 : decode cX11_witness 100 = .ok (.aload_n 0, 1) := by decide +kernel
theorem dX11_witness_101 : decode cX11_witness 101 = .ok (.getfield 174, 3) := by decide +kernel
theorem dX11_witness_104 : decode cX11_witness 104 = .ok (.putfield 106, 3) := by decide +kernel
theorem dX11_witness_107 : decode cX11_witness 107 = .ok (.aload_n 0, 1) := by decide +kernel
theorem dX11_witness_108 : decode cX11_witness 108 = .ok (.iconst 0, 1) := by decide +kernel
theorem dX11_witness_109 : decode cX11_witness 109 = .ok (.putfield 109, 3) := by decide +kernel
theorem dX11_witness_112 : decode cX11_witness 112 = .ok (.iconst 0, 1) := by decide +kernel
theorem dX11_witness_113 : decode cX11_witness 113 = .ok (.istore 7, 2) := by decide +kernel
theorem dX11_witness_115 : decode cX11_witness 115 = .ok (.iload 7, 2) := by decide +kernel
theorem dX11_witness_117 : decode cX11_witness 117 = .ok (.bipush 36, 2) := by decide +kernel
theorem dX11_witness_119 : decode cX11_witness 119 = .ok (.if_icmp .ge 23, 3) := by decide +kernel
theorem dX11_witness_122 : decode cX11_witness 122 = .ok (.aload_n 0, 1) := by decide +kernel
theorem dX11_witness_123 : decode cX11_witness 123 = .ok (.getfield 38, 3) := by decide +kernel
theorem dX11_witness_126 : decode cX11_witness 126 = .ok (.iload 7, 2) := by decide +kernel
theorem dX11_witness_128 : decode cX11_witness 128 = .ok (.aload_n 0, 1) := by decide +kernel
theorem dX11_witness_129 : decode cX11_witness 129 = .ok (.getfield 22, 3) := by decide +kernel
theorem dX11_witness_132 : decode cX11_witness 132 = .ok (.iload 7, 2) := by decide +kernel
theorem dX11_witness_134 : decode cX11_witness 134 = .ok (.iaload, 1) := by decide +kernel
theorem dX11_witness_135 : decode cX11_witness 135 = .ok (.iastore, 1) := by decide +kernel
theorem dX11_witness_136 : decode cX11_witness 136 = .ok (.iinc 7 1, 3) := by decide +kernel
theorem dX11_witness_139 : decode cX11_witness 139 = .ok (.goto (-24), 3) := by decide +kernel
theorem dX11_witness_142 : decode cX11_witness 142 = .ok (.iconst 1, 1) := by decide +kernel
theorem dX11_witness_143 : decode cX11_witness 143 = .ok (.ireturn, 1) := by decide +kernel
theorem dX11_readWitness_0 : decode cX11_readWitness 0 = .ok (.aload_n 0, 1) := by decide +kernel
theorem dX11_readWitness_1 : decode cX11_readWitness 1 = .ok (.bipush 118, 2) := by decide +kernel
theorem dX11_readWitness_3 : decode cX11_readWitness 3 = .ok (.iload_n 1, 1) := by decide +kernel
theorem dX11_readWitness_4 : decode cX11_readWitness 4 = .ok (.invokevirtual 112, 3) := by decide +kernel
theorem dX11_readWitness_7 : decode cX11_readWitness 7 = .ok (.ifCond .ne 5, 3) := by decide +kernel
theorem dX11_readWitness_10 : decode cX11_readWitness 10 = .ok (.iconst 0, 1) := by decide +kernel
theorem dX11_readWitness_11 : decode cX11_readWitness 11 = .ok (.ireturn, 1) := by decide +kernel
theorem dX11_readWitness_12 : decode cX11_readWitness 12 = .ok (.aload_n 0, 1) := by decide +kernel
theorem dX11_readWitness_13 : decode cX11_readWitness 13 = .ok (.dup, 1) := by decide +kernel
theorem dX11_readWitness_14 : decode cX11_readWitness 14 = .ok (.getfield 78, 3) := by decide +kernel
theorem dX11_readWitness_17 : decode cX11_readWitness 17 = .ok (.iconst 1, 1) := by decide +kernel
theorem dX11_readWitness_18 : decode cX11_readWitness 18 = .ok (.iadd, 1) := by decide +kernel
theorem dX11_readWitness_19 : decode cX11_readWitness 19 = .ok (.putfield 78, 3) := by decide +kernel
theorem dX11_readWitness_22 : decode cX11_readWitness 22 = .ok (.aload_n 0, 1) := by decide +kernel
theorem dX11_readWitness_23 : decode cX11_readWitness 23 = .ok (.iconst 0, 1) := by decide +kernel
theorem dX11_readWitness_24 : decode cX11_readWitness 24 = .ok (.aload_n 0, 1) := by decide +kernel
theorem dX11_readWitness_25 : decode cX11_readWitness 25 = .ok (.getfield 75, 3) := by decide +kernel
theorem dX11_readWitness_28 : decode cX11_readWitness 28 = .ok (.iload_n 1, 1) := by decide +kernel
theorem dX11_readWitness_29 : decode cX11_readWitness 29 = .ok (.invokevirtual 120, 3) := by decide +kernel
theorem dX11_readWitness_32 : decode cX11_readWitness 32 = .ok (.ifCond .ne 5, 3) := by decide +kernel
theorem dX11_readWitness_35 : decode cX11_readWitness 35 = .ok (.iconst 0, 1) := by decide +kernel
theorem dX11_readWitness_36 : decode cX11_readWitness 36 = .ok (.ireturn, 1) := by decide +kernel
theorem dX11_readWitness_37 : decode cX11_readWitness 37 = .ok (.aload_n 0, 1) := by decide +kernel
theorem dX11_readWitness_38 : decode cX11_readWitness 38 = .ok (.bipush 59, 2) := by decide +kernel
theorem dX11_readWitness_40 : decode cX11_readWitness 40 = .ok (.iload_n 1, 1) := by decide +kernel
theorem dX11_readWitness_41 : decode cX11_readWitness 41 = .ok (.invokevirtual 112, 3) := by decide +kernel
theorem dX11_readWitness_44 : decode cX11_readWitness 44 = .ok (.ifCond .ne 5, 3) := by decide +kernel
theorem dX11_readWitness_47 : decode cX11_readWitness 47 = .ok (.iconst 0, 1) := by decide +kernel
theorem dX11_readWitness_48 : decode cX11_readWitness 48 = .ok (.ireturn, 1) := by decide +kernel
theorem dX11_readWitness_49 : decode cX11_readWitness 49 = .ok (.aload_n 0, 1) := by decide +kernel
theorem dX11_readWitness_50 : decode cX11_readWitness 50 = .ok (.dup, 1) := by decide +kernel
theorem dX11_readWitness_51 : decode cX11_readWitness 51 = .ok (.getfield 78, 3) := by decide +kernel
theorem dX11_readWitness_54 : decode cX11_readWitness 54 = .ok (.iconst 1, 1) := by decide +kernel
theorem dX11_readWitness_55 : decode cX11_readWitness 55 = .ok (.iadd, 1) := by decide +kernel
theorem dX11_readWitness_56 : decode cX11_readWitness 56 = .ok (.putfield 78, 3) := by decide +kernel
theorem dX11_readWitness_59 : decode cX11_readWitness 59 = .ok (.aload_n 0, 1) := by decide +kernel
theorem dX11_readWitness_60 : decode cX11_readWitness 60 = .ok (.bipush 112, 2) := by decide +kernel
theorem dX11_readWitness_62 : decode cX11_readWitness 62 = .ok (.iload_n 1, 1) := by decide +kernel
theorem dX11_readWitness_63 : decode cX11_readWitness 63 = .ok (.invokevirtual 112, 3) := by decide +kernel
theorem dX11_readWitness_66 : decode cX11_readWitness 66 = .ok (.ifCond .ne 5, 3) := by decide +kernel
theorem dX11_readWitness_69 : decode cX11_readWitness 69 = .ok (.iconst 0, 1) := by decide +kernel
theorem dX11_readWitness_70 : decode cX11_readWitness 70 = .ok (.ireturn, 1) := by decide +kernel
theorem dX11_readWitness_71 : decode cX11_readWitness 71 = .ok (.aload_n 0, 1) := by decide +kernel
theorem dX11_readWitness_72 : decode cX11_readWitness 72 = .ok (.dup, 1) := by decide +kernel
theorem dX11_readWitness_73 : decode cX11_readWitness 73 = .ok (.getfield 78, 3) := by decide +kernel
theorem dX11_readWitness_76 : decode cX11_readWitness 76 = .ok (.iconst 1, 1) := by decide +kernel
theorem dX11_readWitness_77 : decode cX11_readWitness 77 = .ok (.iadd, 1) := by decide +kernel
theorem dX11_readWitness_78 : decode cX11_readWitness 78 = .ok (.putfield 78, 3) := by decide +kernel
theorem dX11_readWitness_81 : decode cX11_readWitness 81 = .ok (.aload_n 0, 1) := by decide +kernel
theorem dX11_readWitness_82 : decode cX11_readWitness 82 = .ok (.aload_n 0, 1) := by decide +kernel
theorem dX11_readWitness_83 : decode cX11_readWitness 83 = .ok (.aload_n 0, 1) := by decide +kernel
theorem dX11_readWitness_84 : decode cX11_readWitness 84 = .ok (.getfield 78, 3) := by decide +kernel
theorem dX11_readWitness_87 : decode cX11_readWitness 87 = .ok (.iload_n 1, 1) := by decide +kernel
theorem dX11_readWitness_88 : decode cX11_readWitness 88 = .ok (.invokevirtual 116, 3) := by decide +kernel
theorem dX11_readWitness_91 : decode cX11_readWitness 91 = .ok (.putfield 174, 3) := by decide +kernel
theorem dX11_readWitness_94 : decode cX11_readWitness 94 = .ok (.aload_n 0, 1) := by decide +kernel
theorem dX11_readWitness_95 : decode cX11_readWitness 95 = .ok (.getfield 174, 3) := by decide +kernel
theorem dX11_readWitness_98 : decode cX11_readWitness 98 = .ok (.bipush (-9), 2) := by decide +kernel
theorem dX11_readWitness_100 : decode cX11_readWitness 100 = .ok (.if_icmp .ne 5, 3) := by decide +kernel
theorem dX11_readWitness_103 : decode cX11_readWitness 103 = .ok (.iconst 0, 1) := by decide +kernel
theorem dX11_readWitness_104 : decode cX11_readWitness 104 = .ok (.ireturn, 1) := by decide +kernel
theorem dX11_readWitness_105 : decode cX11_readWitness 105 = .ok (.aload_n 0, 1) := by decide +kernel
theorem dX11_readWitness_106 : decode cX11_readWitness 106 = .ok (.dup, 1) := by decide +kernel
theorem dX11_readWitness_107 : decode cX11_readWitness 107 = .ok (.getfield 78, 3) := by decide +kernel
theorem dX11_readWitness_110 : decode cX11_readWitness 110 = .ok (.iconst 1, 1) := by decide +kernel
theorem dX11_readWitness_111 : decode cX11_readWitness 111 = .ok (.iadd, 1) := by decide +kernel
theorem dX11_readWitness_112 : decode cX11_readWitness 112 = .ok (.putfield 78, 3) := by decide +kernel
theorem dX11_readWitness_115 : decode cX11_readWitness 115 = .ok (.aload_n 0, 1) := by decide +kernel
theorem dX11_readWitness_116 : decode cX11_readWitness 116 = .ok (.getfield 78, 3) := by decide +kernel
theorem dX11_readWitness_119 : decode cX11_readWitness 119 = .ok (.iload_n 1, 1) := by decide +kernel
theorem dX11_readWitness_120 : decode cX11_readWitness 120 = .ok (.if_icmp .ne 7, 3) := by decide +kernel
theorem dX11_readWitness_123 : decode cX11_readWitness 123 = .ok (.iconst 1, 1) := by decide +kernel
theorem dX11_readWitness_124 : decode cX11_readWitness 124 = .ok (.goto 4, 3) := by decide +kernel
theorem dX11_readWitness_127 : decode cX11_readWitness 127 = .ok (.iconst 0, 1) := by decide +kernel
theorem dX11_readWitness_128 : decode cX11_readWitness 128 = .ok (.ireturn, 1) := by decide +kernel
theorem dX11_answered_0 : decode cX11_answered 0 = .ok (.bipush 12, 2) := by decide +kernel
theorem dX11_answered_2 : decode cX11_answered 2 = .ok (.aload_n 0, 1) := by decide +kernel
theorem dX11_answered_3 : decode cX11_answered 3 = .ok (.getfield 106, 3) := by decide +kernel
theorem dX11_answered_6 : decode cX11_answered 6 = .ok (.isub, 1) := by decide +kernel
theorem dX11_answered_7 : decode cX11_answered 7 = .ok (.istore_n 3, 1) := by decide +kernel
theorem dX11_answered_8 : decode cX11_answered 8 = .ok (.iload_n 2, 1) := by decide +kernel
theorem dX11_answered_9 : decode cX11_answered 9 = .ok (.aload_n 0, 1) := by decide +kernel
theorem dX11_answered_10 : decode cX11_answered 10 = .ok (.getfield 75, 3) := by decide +kernel
theorem dX11_answered_13 : decode cX11_answered 13 = .ok (.if_icmp .ne 21, 3) := by decide +kernel
theorem dX11_answered_16 : decode cX11_answered 16 = .ok (.aload_n 0, 1) := by decide +kernel
theorem dX11_answered_17 : decode cX11_answered 17 = .ok (.getfield 38, 3) := by decide +kernel
theorem dX11_answered_20 : decode cX11_answered 20 = .ok (.bipush 6, 2) := by decide +kernel
theorem dX11_answered_22 : decode cX11_answered 22 = .ok (.iload_n 1, 1) := by decide +kernel
theorem dX11_answered_23 : decode cX11_answered 23 = .ok (.imul, 1) := by decide +kernel
theorem dX11_answered_24 : decode cX11_answered 24 = .ok (.aload_n 0, 1) := by decide +kernel
theorem dX11_answered_25 : decode cX11_answered 25 = .ok (.getfield 75, 3) := by decide +kernel
theorem dX11_answered_28 : decode cX11_answered 28 = .ok (.invokestatic 135, 3) := by decide +kernel
theorem dX11_answered_31 : decode cX11_answered 31 = .ok (.iload_n 3, 1) := by decide +kernel
theorem dX11_answered_32 : decode cX11_answered 32 = .ok (.imul, 1) := by decide +kernel
theorem dX11_answered_33 : decode cX11_answered 33 = .ok (.ireturn, 1) := by decide +kernel
theorem dX11_answered_34 : decode cX11_answered 34 = .ok (.aload_n 0, 1) := by decide +kernel
theorem dX11_answered_35 : decode cX11_answered 35 = .ok (.getfield 38, 3) := by decide +kernel
theorem dX11_answered_38 : decode cX11_answered 38 = .ok (.bipush 6, 2) := by decide +kernel
theorem dX11_answered_40 : decode cX11_answered 40 = .ok (.iload_n 1, 1) := by decide +kernel
theorem dX11_answered_41 : decode cX11_answered 41 = .ok (.imul, 1) := by decide +kernel
theorem dX11_answered_42 : decode cX11_answered 42 = .ok (.iload_n 2, 1) := by decide +kernel
theorem dX11_answered_43 : decode cX11_answered 43 = .ok (.iadd, 1) := by decide +kernel
theorem dX11_answered_44 : decode cX11_answered 44 = .ok (.iaload, 1) := by decide +kernel
theorem dX11_answered_45 : decode cX11_answered 45 = .ok (.iload_n 3, 1) := by decide +kernel
theorem dX11_answered_46 : decode cX11_answered 46 = .ok (.imul, 1) := by decide +kernel
theorem dX11_answered_47 : decode cX11_answered 47 = .ok (.istore 4, 2) := by decide +kernel
theorem dX11_answered_49 : decode cX11_answered 49 = .ok (.iload_n 2, 1) := by decide +kernel
theorem dX11_answered_50 : decode cX11_answered 50 = .ok (.ifCond .ne 16, 3) := by decide +kernel
theorem dX11_answered_53 : decode cX11_answered 53 = .ok (.iload 4, 2) := by decide +kernel
theorem dX11_answered_55 : decode cX11_answered 55 = .ok (.bipush 12, 2) := by decide +kernel
theorem dX11_answered_57 : decode cX11_answered 57 = .ok (.aload_n 0, 1) := by decide +kernel
theorem dX11_answered_58 : decode cX11_answered 58 = .ok (.getfield 106, 3) := by decide +kernel
theorem dX11_answered_61 : decode cX11_answered 61 = .ok (.imul, 1) := by decide +kernel
theorem dX11_answered_62 : decode cX11_answered 62 = .ok (.iadd, 1) := by decide +kernel
theorem dX11_answered_63 : decode cX11_answered 63 = .ok (.goto 5, 3) := by decide +kernel
theorem dX11_answered_66 : decode cX11_answered 66 = .ok (.iload 4, 2) := by decide +kernel
theorem dX11_answered_68 : decode cX11_answered 68 = .ok (.ireturn, 1) := by decide +kernel
theorem dX11_answers_0 : decode cX11_answers 0 = .ok (.aload_n 0, 1) := by decide +kernel
theorem dX11_answers_1 : decode cX11_answers 1 = .ok (.iload_n 1, 1) := by decide +kernel
theorem dX11_answers_2 : decode cX11_answers 2 = .ok (.invokevirtual 123, 3) := by decide +kernel
theorem dX11_answers_5 : decode cX11_answers 5 = .ok (.ifCond .eq 11, 3) := by decide +kernel
theorem dX11_answers_8 : decode cX11_answers 8 = .ok (.aload_n 0, 1) := by decide +kernel
theorem dX11_answers_9 : decode cX11_answers 9 = .ok (.iload_n 2, 1) := by decide +kernel
theorem dX11_answers_10 : decode cX11_answers 10 = .ok (.invokevirtual 126, 3) := by decide +kernel
theorem dX11_answers_13 : decode cX11_answers 13 = .ok (.ifCond .ne 5, 3) := by decide +kernel
theorem dX11_answers_16 : decode cX11_answers 16 = .ok (.iconst (-1), 1) := by decide +kernel
theorem dX11_answers_17 : decode cX11_answers 17 = .ok (.ireturn, 1) := by decide +kernel
theorem dX11_answers_18 : decode cX11_answers 18 = .ok (.aload_n 0, 1) := by decide +kernel
theorem dX11_answers_19 : decode cX11_answers 19 = .ok (.getfield 102, 3) := by decide +kernel
theorem dX11_answers_22 : decode cX11_answers 22 = .ok (.ifCond .eq 12, 3) := by decide +kernel
theorem dX11_answers_25 : decode cX11_answers 25 = .ok (.aload_n 0, 1) := by decide +kernel
theorem dX11_answers_26 : decode cX11_answers 26 = .ok (.iload_n 1, 1) := by decide +kernel
theorem dX11_answers_27 : decode cX11_answers 27 = .ok (.iload_n 2, 1) := by decide +kernel
theorem dX11_answers_28 : decode cX11_answers 28 = .ok (.invokevirtual 177, 3) := by decide +kernel
theorem dX11_answers_31 : decode cX11_answers 31 = .ok (.goto 5, 3) := by decide +kernel
theorem dX11_answers_34 : decode cX11_answers 34 = .ok (.bipush (-3), 2) := by decide +kernel
theorem dX11_answers_36 : decode cX11_answers 36 = .ok (.ireturn, 1) := by decide +kernel
theorem dX11_times_0 : decode cX11_times 0 = .ok (.iconst 0, 1) := by decide +kernel
theorem dX11_times_1 : decode cX11_times 1 = .ok (.istore 6, 2) := by decide +kernel
theorem dX11_times_3 : decode cX11_times 3 = .ok (.iconst 0, 1) := by decide +kernel
theorem dX11_times_4 : decode cX11_times 4 = .ok (.istore 7, 2) := by decide +kernel
theorem dX11_times_6 : decode cX11_times 6 = .ok (.iload 7, 2) := by decide +kernel
theorem dX11_times_8 : decode cX11_times 8 = .ok (.aload_n 0, 1) := by decide +kernel
theorem dX11_times_9 : decode cX11_times 9 = .ok (.getfield 75, 3) := by decide +kernel
theorem dX11_times_12 : decode cX11_times 12 = .ok (.if_icmp .ge 97, 3) := by decide +kernel
theorem dX11_times_15 : decode cX11_times 15 = .ok (.iload 4, 2) := by decide +kernel
theorem dX11_times_17 : decode cX11_times 17 = .ok (.iload 7, 2) := by decide +kernel
theorem dX11_times_19 : decode cX11_times 19 = .ok (.invokestatic 180, 3) := by decide +kernel
theorem dX11_times_22 : decode cX11_times 22 = .ok (.ifCond .eq 15, 3) := by decide +kernel
theorem dX11_times_25 : decode cX11_times 25 = .ok (.aload_n 0, 1) := by decide +kernel
theorem dX11_times_26 : decode cX11_times 26 = .ok (.iload_n 1, 1) := by decide +kernel
theorem dX11_times_27 : decode cX11_times 27 = .ok (.iconst 0, 1) := by decide +kernel
theorem dX11_times_28 : decode cX11_times 28 = .ok (.iload_n 2, 1) := by decide +kernel
theorem dX11_times_29 : decode cX11_times 29 = .ok (.iload 7, 2) := by decide +kernel
theorem dX11_times_31 : decode cX11_times 31 = .ok (.invokevirtual 151, 3) := by decide +kernel
theorem dX11_times_34 : decode cX11_times 34 = .ok (.goto 4, 3) := by decide +kernel
theorem dX11_times_37 : decode cX11_times 37 = .ok (.iconst 0, 1) := by decide +kernel
theorem dX11_times_38 : decode cX11_times 38 = .ok (.istore 8, 2) := by decide +kernel
theorem dX11_times_40 : decode cX11_times 40 = .ok (.iconst 0, 1) := by decide +kernel
theorem dX11_times_41 : decode cX11_times 41 = .ok (.istore 9, 2) := by decide +kernel
theorem dX11_times_43 : decode cX11_times 43 = .ok (.iload 9, 2) := by decide +kernel
theorem dX11_times_45 : decode cX11_times 45 = .ok (.aload_n 0, 1) := by decide +kernel
theorem dX11_times_46 : decode cX11_times 46 = .ok (.getfield 75, 3) := by decide +kernel
theorem dX11_times_49 : decode cX11_times 49 = .ok (.if_icmp .ge 54, 3) := by decide +kernel
theorem dX11_times_52 : decode cX11_times 52 = .ok (.iload 8, 2) := by decide +kernel
theorem dX11_times_54 : decode cX11_times 54 = .ok (.ifCond .le 49, 3) := by decide +kernel
theorem dX11_times_57 : decode cX11_times 57 = .ok (.iload 6, 2) := by decide +kernel
theorem dX11_times_59 : decode cX11_times 59 = .ok (.iload 5, 2) := by decide +kernel
theorem dX11_times_61 : decode cX11_times 61 = .ok (.iload 9, 2) := by decide +kernel
theorem dX11_times_63 : decode cX11_times 63 = .ok (.invokestatic 180, 3) := by decide +kernel
theorem dX11_times_66 : decode cX11_times 66 = .ok (.ifCond .eq 27, 3) := by decide +kernel
theorem dX11_times_69 : decode cX11_times 69 = .ok (.iload 8, 2) := by decide +kernel
theorem dX11_times_71 : decode cX11_times 71 = .ok (.aload_n 0, 1) := by decide +kernel
theorem dX11_times_72 : decode cX11_times 72 = .ok (.iload 7, 2) := by decide +kernel
theorem dX11_times_74 : decode cX11_times 74 = .ok (.iload 9, 2) := by decide +kernel
theorem dX11_times_76 : decode cX11_times 76 = .ok (.invokevirtual 177, 3) := by decide +kernel
theorem dX11_times_79 : decode cX11_times 79 = .ok (.imul, 1) := by decide +kernel
theorem dX11_times_80 : decode cX11_times 80 = .ok (.aload_n 0, 1) := by decide +kernel
theorem dX11_times_81 : decode cX11_times 81 = .ok (.iload_n 1, 1) := by decide +kernel
theorem dX11_times_82 : decode cX11_times 82 = .ok (.iconst 1, 1) := by decide +kernel
theorem dX11_times_83 : decode cX11_times 83 = .ok (.iload 9, 2) := by decide +kernel
theorem dX11_times_85 : decode cX11_times 85 = .ok (.iload_n 3, 1) := by decide +kernel
theorem dX11_times_86 : decode cX11_times 86 = .ok (.invokevirtual 151, 3) := by decide +kernel
theorem dX11_times_89 : decode cX11_times 89 = .ok (.imul, 1) := by decide +kernel
theorem dX11_times_90 : decode cX11_times 90 = .ok (.goto 4, 3) := by decide +kernel
theorem dX11_times_93 : decode cX11_times 93 = .ok (.iconst 0, 1) := by decide +kernel
theorem dX11_times_94 : decode cX11_times 94 = .ok (.iadd, 1) := by decide +kernel
theorem dX11_times_95 : decode cX11_times 95 = .ok (.istore 6, 2) := by decide +kernel
theorem dX11_times_97 : decode cX11_times 97 = .ok (.iinc 9 1, 3) := by decide +kernel
theorem dX11_times_100 : decode cX11_times 100 = .ok (.goto (-57), 3) := by decide +kernel
theorem dX11_times_103 : decode cX11_times 103 = .ok (.iinc 7 1, 3) := by decide +kernel
theorem dX11_times_106 : decode cX11_times 106 = .ok (.goto (-100), 3) := by decide +kernel
theorem dX11_times_109 : decode cX11_times 109 = .ok (.iload 6, 2) := by decide +kernel
theorem dX11_times_111 : decode cX11_times 111 = .ok (.ireturn, 1) := by decide +kernel
theorem dX11_allWords_0 : decode cX11_allWords 0 = .ok (.iconst 1, 1) := by decide +kernel
theorem dX11_allWords_1 : decode cX11_allWords 1 = .ok (.aload_n 0, 1) := by decide +kernel
theorem dX11_allWords_2 : decode cX11_allWords 2 = .ok (.getfield 75, 3) := by decide +kernel
theorem dX11_allWords_5 : decode cX11_allWords 5 = .ok (.ishl, 1) := by decide +kernel
theorem dX11_allWords_6 : decode cX11_allWords 6 = .ok (.iconst 1, 1) := by decide +kernel
theorem dX11_allWords_7 : decode cX11_allWords 7 = .ok (.isub, 1) := by decide +kernel
theorem dX11_allWords_8 : decode cX11_allWords 8 = .ok (.ireturn, 1) := by decide +kernel
theorem dX11_heard_0 : decode cX11_heard 0 = .ok (.aload_n 0, 1) := by decide +kernel
theorem dX11_heard_1 : decode cX11_heard 1 = .ok (.iload_n 1, 1) := by decide +kernel
theorem dX11_heard_2 : decode cX11_heard 2 = .ok (.invokevirtual 145, 3) := by decide +kernel
theorem dX11_heard_5 : decode cX11_heard 5 = .ok (.ifCond .eq 34, 3) := by decide +kernel
theorem dX11_heard_8 : decode cX11_heard 8 = .ok (.aload_n 0, 1) := by decide +kernel
theorem dX11_heard_9 : decode cX11_heard 9 = .ok (.iload_n 2, 1) := by decide +kernel
theorem dX11_heard_10 : decode cX11_heard 10 = .ok (.invokevirtual 123, 3) := by decide +kernel
theorem dX11_heard_13 : decode cX11_heard 13 = .ok (.ifCond .eq 26, 3) := by decide +kernel
theorem dX11_heard_16 : decode cX11_heard 16 = .ok (.aload_n 0, 1) := by decide +kernel
theorem dX11_heard_17 : decode cX11_heard 17 = .ok (.iload_n 3, 1) := by decide +kernel
theorem dX11_heard_18 : decode cX11_heard 18 = .ok (.invokevirtual 126, 3) := by decide +kernel
theorem dX11_heard_21 : decode cX11_heard 21 = .ok (.ifCond .eq 18, 3) := by decide +kernel
theorem dX11_heard_24 : decode cX11_heard 24 = .ok (.iload 4, 2) := by decide +kernel
theorem dX11_heard_26 : decode cX11_heard 26 = .ok (.invokestatic 158, 3) := by decide +kernel
theorem dX11_heard_29 : decode cX11_heard 29 = .ok (.ifCond .eq 10, 3) := by decide +kernel
theorem dX11_heard_32 : decode cX11_heard 32 = .ok (.aload_n 0, 1) := by decide +kernel
theorem dX11_heard_33 : decode cX11_heard 33 = .ok (.getfield 102, 3) := by decide +kernel
theorem dX11_heard_36 : decode cX11_heard 36 = .ok (.ifCond .ne 7, 3) := by decide +kernel
theorem dX11_heard_39 : decode cX11_heard 39 = .ok (.ldc2_w 69, 3) := by decide +kernel
theorem dX11_heard_42 : decode cX11_heard 42 = .ok (.lreturn, 1) := by decide +kernel
theorem dX11_heard_43 : decode cX11_heard 43 = .ok (.ldc 183, 2) := by decide +kernel
theorem dX11_heard_45 : decode cX11_heard 45 = .ok (.istore 5, 2) := by decide +kernel
theorem dX11_heard_47 : decode cX11_heard 47 = .ok (.iconst 0, 1) := by decide +kernel
theorem dX11_heard_48 : decode cX11_heard 48 = .ok (.istore 6, 2) := by decide +kernel
theorem dX11_heard_50 : decode cX11_heard 50 = .ok (.iload 6, 2) := by decide +kernel
theorem dX11_heard_52 : decode cX11_heard 52 = .ok (.aload_n 0, 1) := by decide +kernel
theorem dX11_heard_53 : decode cX11_heard 53 = .ok (.getfield 75, 3) := by decide +kernel
theorem dX11_heard_56 : decode cX11_heard 56 = .ok (.if_icmp .ge 30, 3) := by decide +kernel
theorem dX11_heard_59 : decode cX11_heard 59 = .ok (.iload 5, 2) := by decide +kernel
theorem dX11_heard_61 : decode cX11_heard 61 = .ok (.aload_n 0, 1) := by decide +kernel
theorem dX11_heard_62 : decode cX11_heard 62 = .ok (.iload_n 1, 1) := by decide +kernel
theorem dX11_heard_63 : decode cX11_heard 63 = .ok (.iload_n 2, 1) := by decide +kernel
theorem dX11_heard_64 : decode cX11_heard 64 = .ok (.iload 6, 2) := by decide +kernel
theorem dX11_heard_66 : decode cX11_heard 66 = .ok (.aload_n 0, 1) := by decide +kernel
theorem dX11_heard_67 : decode cX11_heard 67 = .ok (.invokevirtual 184, 3) := by decide +kernel
theorem dX11_heard_70 : decode cX11_heard 70 = .ok (.aload_n 0, 1) := by decide +kernel
theorem dX11_heard_71 : decode cX11_heard 71 = .ok (.invokevirtual 184, 3) := by decide +kernel
theorem dX11_heard_74 : decode cX11_heard 74 = .ok (.invokevirtual 188, 3) := by decide +kernel
theorem dX11_heard_77 : decode cX11_heard 77 = .ok (.isub, 1) := by decide +kernel
theorem dX11_heard_78 : decode cX11_heard 78 = .ok (.istore 5, 2) := by decide +kernel
theorem dX11_heard_80 : decode cX11_heard 80 = .ok (.iinc 6 1, 3) := by decide +kernel
theorem dX11_heard_83 : decode cX11_heard 83 = .ok (.goto (-33), 3) := by decide +kernel
theorem dX11_heard_86 : decode cX11_heard 86 = .ok (.iload_n 3, 1) := by decide +kernel
theorem dX11_heard_87 : decode cX11_heard 87 = .ok (.aload_n 0, 1) := by decide +kernel
theorem dX11_heard_88 : decode cX11_heard 88 = .ok (.getfield 75, 3) := by decide +kernel
theorem dX11_heard_91 : decode cX11_heard 91 = .ok (.if_icmp .ne 9, 3) := by decide +kernel
theorem dX11_heard_94 : decode cX11_heard 94 = .ok (.iload 5, 2) := by decide +kernel
theorem dX11_heard_96 : decode cX11_heard 96 = .ok (.i2l, 1) := by decide +kernel
theorem dX11_heard_97 : decode cX11_heard 97 = .ok (.goto 19, 3) := by decide +kernel
theorem dX11_heard_100 : decode cX11_heard 100 = .ok (.aload_n 0, 1) := by decide +kernel
theorem dX11_heard_101 : decode cX11_heard 101 = .ok (.iload_n 1, 1) := by decide +kernel
theorem dX11_heard_102 : decode cX11_heard 102 = .ok (.iload_n 2, 1) := by decide +kernel
theorem dX11_heard_103 : decode cX11_heard 103 = .ok (.iload_n 3, 1) := by decide +kernel
theorem dX11_heard_104 : decode cX11_heard 104 = .ok (.aload_n 0, 1) := by decide +kernel
theorem dX11_heard_105 : decode cX11_heard 105 = .ok (.invokevirtual 184, 3) := by decide +kernel
theorem dX11_heard_108 : decode cX11_heard 108 = .ok (.aload_n 0, 1) := by decide +kernel
theorem dX11_heard_109 : decode cX11_heard 109 = .ok (.invokevirtual 184, 3) := by decide +kernel
theorem dX11_heard_112 : decode cX11_heard 112 = .ok (.invokevirtual 188, 3) := by decide +kernel
theorem dX11_heard_115 : decode cX11_heard 115 = .ok (.i2l, 1) := by decide +kernel
theorem dX11_heard_116 : decode cX11_heard 116 = .ok (.ldc2_w 192, 3) := by decide +kernel
theorem dX11_heard_119 : decode cX11_heard 119 = .ok (.iload 4, 2) := by decide +kernel
theorem dX11_heard_121 : decode cX11_heard 121 = .ok (.invokestatic 167, 3) := by decide +kernel
theorem dX11_heard_124 : decode cX11_heard 124 = .ok (.lreturn, 1) := by decide +kernel
theorem dX11_isAsked_0 : decode cX11_isAsked 0 = .ok (.aload_n 0, 1) := by decide +kernel
theorem dX11_isAsked_1 : decode cX11_isAsked 1 = .ok (.iload_n 1, 1) := by decide +kernel
theorem dX11_isAsked_2 : decode cX11_isAsked 2 = .ok (.invokevirtual 145, 3) := by decide +kernel
theorem dX11_isAsked_5 : decode cX11_isAsked 5 = .ok (.ifCond .eq 23, 3) := by decide +kernel
theorem dX11_isAsked_8 : decode cX11_isAsked 8 = .ok (.aload_n 0, 1) := by decide +kernel
theorem dX11_isAsked_9 : decode cX11_isAsked 9 = .ok (.iload_n 2, 1) := by decide +kernel
theorem dX11_isAsked_10 : decode cX11_isAsked 10 = .ok (.invokevirtual 123, 3) := by decide +kernel
theorem dX11_isAsked_13 : decode cX11_isAsked 13 = .ok (.ifCond .eq 15, 3) := by decide +kernel
theorem dX11_isAsked_16 : decode cX11_isAsked 16 = .ok (.aload_n 0, 1) := by decide +kernel
theorem dX11_isAsked_17 : decode cX11_isAsked 17 = .ok (.iload_n 3, 1) := by decide +kernel
theorem dX11_isAsked_18 : decode cX11_isAsked 18 = .ok (.invokevirtual 123, 3) := by decide +kernel
theorem dX11_isAsked_21 : decode cX11_isAsked 21 = .ok (.ifCond .eq 7, 3) := by decide +kernel
theorem dX11_isAsked_24 : decode cX11_isAsked 24 = .ok (.iconst 1, 1) := by decide +kernel
theorem dX11_isAsked_25 : decode cX11_isAsked 25 = .ok (.goto 4, 3) := by decide +kernel
theorem dX11_isAsked_28 : decode cX11_isAsked 28 = .ok (.iconst 0, 1) := by decide +kernel
theorem dX11_isAsked_29 : decode cX11_isAsked 29 = .ok (.ireturn, 1) := by decide +kernel
theorem dX11_reached_0 : decode cX11_reached 0 = .ok (.aload_n 0, 1) := by decide +kernel
theorem dX11_reached_1 : decode cX11_reached 1 = .ok (.iload_n 1, 1) := by decide +kernel
theorem dX11_reached_2 : decode cX11_reached 2 = .ok (.iload_n 2, 1) := by decide +kernel
theorem dX11_reached_3 : decode cX11_reached 3 = .ok (.iload_n 3, 1) := by decide +kernel
theorem dX11_reached_4 : decode cX11_reached 4 = .ok (.invokevirtual 194, 3) := by decide +kernel
theorem dX11_reached_7 : decode cX11_reached 7 = .ok (.ifCond .eq 18, 3) := by decide +kernel
theorem dX11_reached_10 : decode cX11_reached 10 = .ok (.iload 4, 2) := by decide +kernel
theorem dX11_reached_12 : decode cX11_reached 12 = .ok (.invokestatic 158, 3) := by decide +kernel
theorem dX11_reached_15 : decode cX11_reached 15 = .ok (.ifCond .eq 10, 3) := by decide +kernel
theorem dX11_reached_18 : decode cX11_reached 18 = .ok (.aload_n 0, 1) := by decide +kernel
theorem dX11_reached_19 : decode cX11_reached 19 = .ok (.getfield 102, 3) := by decide +kernel
theorem dX11_reached_22 : decode cX11_reached 22 = .ok (.ifCond .ne 7, 3) := by decide +kernel
theorem dX11_reached_25 : decode cX11_reached 25 = .ok (.ldc2_w 69, 3) := by decide +kernel
theorem dX11_reached_28 : decode cX11_reached 28 = .ok (.lreturn, 1) := by decide +kernel
theorem dX11_reached_29 : decode cX11_reached 29 = .ok (.aload_n 0, 1) := by decide +kernel
theorem dX11_reached_30 : decode cX11_reached 30 = .ok (.iload_n 1, 1) := by decide +kernel
theorem dX11_reached_31 : decode cX11_reached 31 = .ok (.iload_n 2, 1) := by decide +kernel
theorem dX11_reached_32 : decode cX11_reached 32 = .ok (.iload_n 3, 1) := by decide +kernel
theorem dX11_reached_33 : decode cX11_reached 33 = .ok (.aload_n 0, 1) := by decide +kernel
theorem dX11_reached_34 : decode cX11_reached 34 = .ok (.invokevirtual 184, 3) := by decide +kernel
theorem dX11_reached_37 : decode cX11_reached 37 = .ok (.aload_n 0, 1) := by decide +kernel
theorem dX11_reached_38 : decode cX11_reached 38 = .ok (.invokevirtual 184, 3) := by decide +kernel
theorem dX11_reached_41 : decode cX11_reached 41 = .ok (.invokevirtual 188, 3) := by decide +kernel
theorem dX11_reached_44 : decode cX11_reached 44 = .ok (.istore 5, 2) := by decide +kernel
theorem dX11_reached_46 : decode cX11_reached 46 = .ok (.iload 5, 2) := by decide +kernel
theorem dX11_reached_48 : decode cX11_reached 48 = .ok (.ifCond .ne 9, 3) := by decide +kernel
theorem dX11_reached_51 : decode cX11_reached 51 = .ok (.ldc2_w 69, 3) := by decide +kernel
theorem dX11_reached_54 : decode cX11_reached 54 = .ok (.goto 31, 3) := by decide +kernel
theorem dX11_reached_57 : decode cX11_reached 57 = .ok (.aload_n 0, 1) := by decide +kernel
theorem dX11_reached_58 : decode cX11_reached 58 = .ok (.iload_n 1, 1) := by decide +kernel
theorem dX11_reached_59 : decode cX11_reached 59 = .ok (.iload_n 2, 1) := by decide +kernel
theorem dX11_reached_60 : decode cX11_reached 60 = .ok (.iload_n 3, 1) := by decide +kernel
theorem dX11_reached_61 : decode cX11_reached 61 = .ok (.iconst 1, 1) := by decide +kernel
theorem dX11_reached_62 : decode cX11_reached 62 = .ok (.aload_n 0, 1) := by decide +kernel
theorem dX11_reached_63 : decode cX11_reached 63 = .ok (.iconst 0, 1) := by decide +kernel
theorem dX11_reached_64 : decode cX11_reached 64 = .ok (.iload_n 2, 1) := by decide +kernel
theorem dX11_reached_65 : decode cX11_reached 65 = .ok (.invokevirtual 139, 3) := by decide +kernel
theorem dX11_reached_68 : decode cX11_reached 68 = .ok (.ishl, 1) := by decide +kernel
theorem dX11_reached_69 : decode cX11_reached 69 = .ok (.aload_n 0, 1) := by decide +kernel
theorem dX11_reached_70 : decode cX11_reached 70 = .ok (.invokevirtual 184, 3) := by decide +kernel
theorem dX11_reached_73 : decode cX11_reached 73 = .ok (.invokevirtual 188, 3) := by decide +kernel
theorem dX11_reached_76 : decode cX11_reached 76 = .ok (.i2l, 1) := by decide +kernel
theorem dX11_reached_77 : decode cX11_reached 77 = .ok (.iload 5, 2) := by decide +kernel
theorem dX11_reached_79 : decode cX11_reached 79 = .ok (.i2l, 1) := by decide +kernel
theorem dX11_reached_80 : decode cX11_reached 80 = .ok (.iload 4, 2) := by decide +kernel
theorem dX11_reached_82 : decode cX11_reached 82 = .ok (.invokestatic 167, 3) := by decide +kernel
theorem dX11_reached_85 : decode cX11_reached 85 = .ok (.lreturn, 1) := by decide +kernel
theorem dX11_saidBy_0 : decode cX11_saidBy 0 = .ok (.iconst 0, 1) := by decide +kernel
theorem dX11_saidBy_1 : decode cX11_saidBy 1 = .ok (.istore_n 2, 1) := by decide +kernel
theorem dX11_saidBy_2 : decode cX11_saidBy 2 = .ok (.iconst 0, 1) := by decide +kernel
theorem dX11_saidBy_3 : decode cX11_saidBy 3 = .ok (.istore_n 3, 1) := by decide +kernel
theorem dX11_saidBy_4 : decode cX11_saidBy 4 = .ok (.iload_n 3, 1) := by decide +kernel
theorem dX11_saidBy_5 : decode cX11_saidBy 5 = .ok (.aload_n 0, 1) := by decide +kernel
theorem dX11_saidBy_6 : decode cX11_saidBy 6 = .ok (.getfield 75, 3) := by decide +kernel
theorem dX11_saidBy_9 : decode cX11_saidBy 9 = .ok (.if_icmp .ge 29, 3) := by decide +kernel
theorem dX11_saidBy_12 : decode cX11_saidBy 12 = .ok (.iload_n 2, 1) := by decide +kernel
theorem dX11_saidBy_13 : decode cX11_saidBy 13 = .ok (.aload_n 0, 1) := by decide +kernel
theorem dX11_saidBy_14 : decode cX11_saidBy 14 = .ok (.iconst 1, 1) := by decide +kernel
theorem dX11_saidBy_15 : decode cX11_saidBy 15 = .ok (.iload_n 3, 1) := by decide +kernel
theorem dX11_saidBy_16 : decode cX11_saidBy 16 = .ok (.invokevirtual 139, 3) := by decide +kernel
theorem dX11_saidBy_19 : decode cX11_saidBy 19 = .ok (.iload_n 1, 1) := by decide +kernel
theorem dX11_saidBy_20 : decode cX11_saidBy 20 = .ok (.if_icmp .ne 9, 3) := by decide +kernel
theorem dX11_saidBy_23 : decode cX11_saidBy 23 = .ok (.iconst 1, 1) := by decide +kernel
theorem dX11_saidBy_24 : decode cX11_saidBy 24 = .ok (.iload_n 3, 1) := by decide +kernel
theorem dX11_saidBy_25 : decode cX11_saidBy 25 = .ok (.ishl, 1) := by decide +kernel
theorem dX11_saidBy_26 : decode cX11_saidBy 26 = .ok (.goto 4, 3) := by decide +kernel
theorem dX11_saidBy_29 : decode cX11_saidBy 29 = .ok (.iconst 0, 1) := by decide +kernel
theorem dX11_saidBy_30 : decode cX11_saidBy 30 = .ok (.ior, 1) := by decide +kernel
theorem dX11_saidBy_31 : decode cX11_saidBy 31 = .ok (.istore_n 2, 1) := by decide +kernel
theorem dX11_saidBy_32 : decode cX11_saidBy 32 = .ok (.iinc 3 1, 3) := by decide +kernel
theorem dX11_saidBy_35 : decode cX11_saidBy 35 = .ok (.goto (-31), 3) := by decide +kernel
theorem dX11_saidBy_38 : decode cX11_saidBy 38 = .ok (.iload_n 2, 1) := by decide +kernel
theorem dX11_saidBy_39 : decode cX11_saidBy 39 = .ok (.ireturn, 1) := by decide +kernel
theorem dX11_said_0 : decode cX11_said 0 = .ok (.aload_n 0, 1) := by decide +kernel
theorem dX11_said_1 : decode cX11_said 1 = .ok (.iload_n 1, 1) := by decide +kernel
theorem dX11_said_2 : decode cX11_said 2 = .ok (.iload_n 2, 1) := by decide +kernel
theorem dX11_said_3 : decode cX11_said 3 = .ok (.iload_n 3, 1) := by decide +kernel
theorem dX11_said_4 : decode cX11_said 4 = .ok (.invokevirtual 194, 3) := by decide +kernel
theorem dX11_said_7 : decode cX11_said 7 = .ok (.ifCond .eq 18, 3) := by decide +kernel
theorem dX11_said_10 : decode cX11_said 10 = .ok (.iload 4, 2) := by decide +kernel
theorem dX11_said_12 : decode cX11_said 12 = .ok (.invokestatic 158, 3) := by decide +kernel
theorem dX11_said_15 : decode cX11_said 15 = .ok (.ifCond .eq 10, 3) := by decide +kernel
theorem dX11_said_18 : decode cX11_said 18 = .ok (.aload_n 0, 1) := by decide +kernel
theorem dX11_said_19 : decode cX11_said 19 = .ok (.getfield 102, 3) := by decide +kernel
theorem dX11_said_22 : decode cX11_said 22 = .ok (.ifCond .ne 7, 3) := by decide +kernel
theorem dX11_said_25 : decode cX11_said 25 = .ok (.ldc2_w 69, 3) := by decide +kernel
theorem dX11_said_28 : decode cX11_said 28 = .ok (.lreturn, 1) := by decide +kernel
theorem dX11_said_29 : decode cX11_said 29 = .ok (.aload_n 0, 1) := by decide +kernel
theorem dX11_said_30 : decode cX11_said 30 = .ok (.iload_n 1, 1) := by decide +kernel
theorem dX11_said_31 : decode cX11_said 31 = .ok (.iload_n 2, 1) := by decide +kernel
theorem dX11_said_32 : decode cX11_said 32 = .ok (.iload_n 3, 1) := by decide +kernel
theorem dX11_said_33 : decode cX11_said 33 = .ok (.aload_n 0, 1) := by decide +kernel
theorem dX11_said_34 : decode cX11_said 34 = .ok (.invokevirtual 184, 3) := by decide +kernel
theorem dX11_said_37 : decode cX11_said 37 = .ok (.aload_n 0, 1) := by decide +kernel
theorem dX11_said_38 : decode cX11_said 38 = .ok (.invokevirtual 184, 3) := by decide +kernel
theorem dX11_said_41 : decode cX11_said 41 = .ok (.invokevirtual 188, 3) := by decide +kernel
theorem dX11_said_44 : decode cX11_said 44 = .ok (.istore 5, 2) := by decide +kernel
theorem dX11_said_46 : decode cX11_said 46 = .ok (.iload 5, 2) := by decide +kernel
theorem dX11_said_48 : decode cX11_said 48 = .ok (.ifCond .ne 9, 3) := by decide +kernel
theorem dX11_said_51 : decode cX11_said 51 = .ok (.ldc2_w 69, 3) := by decide +kernel
theorem dX11_said_54 : decode cX11_said 54 = .ok (.goto 28, 3) := by decide +kernel
theorem dX11_said_57 : decode cX11_said 57 = .ok (.aload_n 0, 1) := by decide +kernel
theorem dX11_said_58 : decode cX11_said 58 = .ok (.iload_n 1, 1) := by decide +kernel
theorem dX11_said_59 : decode cX11_said 59 = .ok (.iload_n 2, 1) := by decide +kernel
theorem dX11_said_60 : decode cX11_said 60 = .ok (.iload_n 3, 1) := by decide +kernel
theorem dX11_said_61 : decode cX11_said 61 = .ok (.aload_n 0, 1) := by decide +kernel
theorem dX11_said_62 : decode cX11_said 62 = .ok (.invokevirtual 184, 3) := by decide +kernel
theorem dX11_said_65 : decode cX11_said 65 = .ok (.aload_n 0, 1) := by decide +kernel
theorem dX11_said_66 : decode cX11_said 66 = .ok (.iload_n 3, 1) := by decide +kernel
theorem dX11_said_67 : decode cX11_said 67 = .ok (.invokevirtual 197, 3) := by decide +kernel
theorem dX11_said_70 : decode cX11_said 70 = .ok (.invokevirtual 188, 3) := by decide +kernel
theorem dX11_said_73 : decode cX11_said 73 = .ok (.i2l, 1) := by decide +kernel
theorem dX11_said_74 : decode cX11_said 74 = .ok (.iload 5, 2) := by decide +kernel
theorem dX11_said_76 : decode cX11_said 76 = .ok (.i2l, 1) := by decide +kernel
theorem dX11_said_77 : decode cX11_said 77 = .ok (.iload 4, 2) := by decide +kernel
theorem dX11_said_79 : decode cX11_said 79 = .ok (.invokestatic 167, 3) := by decide +kernel
theorem dX11_said_82 : decode cX11_said 82 = .ok (.lreturn, 1) := by decide +kernel
theorem dX11_overOf_0 : decode cX11_overOf 0 = .ok (.iconst 0, 1) := by decide +kernel
theorem dX11_overOf_1 : decode cX11_overOf 1 = .ok (.istore_n 3, 1) := by decide +kernel
theorem dX11_overOf_2 : decode cX11_overOf 2 = .ok (.iconst 0, 1) := by decide +kernel
theorem dX11_overOf_3 : decode cX11_overOf 3 = .ok (.istore 4, 2) := by decide +kernel
theorem dX11_overOf_5 : decode cX11_overOf 5 = .ok (.iload 4, 2) := by decide +kernel
theorem dX11_overOf_7 : decode cX11_overOf 7 = .ok (.aload_n 0, 1) := by decide +kernel
theorem dX11_overOf_8 : decode cX11_overOf 8 = .ok (.getfield 75, 3) := by decide +kernel
theorem dX11_overOf_11 : decode cX11_overOf 11 = .ok (.if_icmp .ge 37, 3) := by decide +kernel
theorem dX11_overOf_14 : decode cX11_overOf 14 = .ok (.iload_n 3, 1) := by decide +kernel
theorem dX11_overOf_15 : decode cX11_overOf 15 = .ok (.aload_n 0, 1) := by decide +kernel
theorem dX11_overOf_16 : decode cX11_overOf 16 = .ok (.iload_n 1, 1) := by decide +kernel
theorem dX11_overOf_17 : decode cX11_overOf 17 = .ok (.iload_n 2, 1) := by decide +kernel
theorem dX11_overOf_18 : decode cX11_overOf 18 = .ok (.aload_n 0, 1) := by decide +kernel
theorem dX11_overOf_19 : decode cX11_overOf 19 = .ok (.iconst 1, 1) := by decide +kernel
theorem dX11_overOf_20 : decode cX11_overOf 20 = .ok (.iload 4, 2) := by decide +kernel
theorem dX11_overOf_22 : decode cX11_overOf 22 = .ok (.invokevirtual 139, 3) := by decide +kernel
theorem dX11_overOf_25 : decode cX11_overOf 25 = .ok (.iconst 1, 1) := by decide +kernel
theorem dX11_overOf_26 : decode cX11_overOf 26 = .ok (.aload_n 0, 1) := by decide +kernel
theorem dX11_overOf_27 : decode cX11_overOf 27 = .ok (.iconst 0, 1) := by decide +kernel
theorem dX11_overOf_28 : decode cX11_overOf 28 = .ok (.iload_n 2, 1) := by decide +kernel
theorem dX11_overOf_29 : decode cX11_overOf 29 = .ok (.invokevirtual 139, 3) := by decide +kernel
theorem dX11_overOf_32 : decode cX11_overOf 32 = .ok (.ishl, 1) := by decide +kernel
theorem dX11_overOf_33 : decode cX11_overOf 33 = .ok (.iconst 1, 1) := by decide +kernel
theorem dX11_overOf_34 : decode cX11_overOf 34 = .ok (.iload 4, 2) := by decide +kernel
theorem dX11_overOf_36 : decode cX11_overOf 36 = .ok (.ishl, 1) := by decide +kernel
theorem dX11_overOf_37 : decode cX11_overOf 37 = .ok (.invokevirtual 188, 3) := by decide +kernel
theorem dX11_overOf_40 : decode cX11_overOf 40 = .ok (.iadd, 1) := by decide +kernel
theorem dX11_overOf_41 : decode cX11_overOf 41 = .ok (.istore_n 3, 1) := by decide +kernel
theorem dX11_overOf_42 : decode cX11_overOf 42 = .ok (.iinc 4 1, 3) := by decide +kernel
theorem dX11_overOf_45 : decode cX11_overOf 45 = .ok (.goto (-40), 3) := by decide +kernel
theorem dX11_overOf_48 : decode cX11_overOf 48 = .ok (.iload_n 3, 1) := by decide +kernel
theorem dX11_overOf_49 : decode cX11_overOf 49 = .ok (.ireturn, 1) := by decide +kernel
theorem dX11_over_0 : decode cX11_over 0 = .ok (.aload_n 0, 1) := by decide +kernel
theorem dX11_over_1 : decode cX11_over 1 = .ok (.iload_n 1, 1) := by decide +kernel
theorem dX11_over_2 : decode cX11_over 2 = .ok (.invokevirtual 145, 3) := by decide +kernel
theorem dX11_over_5 : decode cX11_over 5 = .ok (.ifCond .eq 25, 3) := by decide +kernel
theorem dX11_over_8 : decode cX11_over 8 = .ok (.aload_n 0, 1) := by decide +kernel
theorem dX11_over_9 : decode cX11_over 9 = .ok (.iload_n 2, 1) := by decide +kernel
theorem dX11_over_10 : decode cX11_over 10 = .ok (.invokevirtual 123, 3) := by decide +kernel
theorem dX11_over_13 : decode cX11_over 13 = .ok (.ifCond .eq 17, 3) := by decide +kernel
theorem dX11_over_16 : decode cX11_over 16 = .ok (.iload_n 3, 1) := by decide +kernel
theorem dX11_over_17 : decode cX11_over 17 = .ok (.invokestatic 158, 3) := by decide +kernel
theorem dX11_over_20 : decode cX11_over 20 = .ok (.ifCond .eq 10, 3) := by decide +kernel
theorem dX11_over_23 : decode cX11_over 23 = .ok (.aload_n 0, 1) := by decide +kernel
theorem dX11_over_24 : decode cX11_over 24 = .ok (.getfield 102, 3) := by decide +kernel
theorem dX11_over_27 : decode cX11_over 27 = .ok (.ifCond .ne 7, 3) := by decide +kernel
theorem dX11_over_30 : decode cX11_over 30 = .ok (.ldc2_w 69, 3) := by decide +kernel
theorem dX11_over_33 : decode cX11_over 33 = .ok (.lreturn, 1) := by decide +kernel
theorem dX11_over_34 : decode cX11_over 34 = .ok (.aload_n 0, 1) := by decide +kernel
theorem dX11_over_35 : decode cX11_over 35 = .ok (.iload_n 1, 1) := by decide +kernel
theorem dX11_over_36 : decode cX11_over 36 = .ok (.iload_n 2, 1) := by decide +kernel
theorem dX11_over_37 : decode cX11_over 37 = .ok (.invokevirtual 200, 3) := by decide +kernel
theorem dX11_over_40 : decode cX11_over 40 = .ok (.i2l, 1) := by decide +kernel
theorem dX11_over_41 : decode cX11_over 41 = .ok (.ldc2_w 192, 3) := by decide +kernel
theorem dX11_over_44 : decode cX11_over 44 = .ok (.iload_n 3, 1) := by decide +kernel
theorem dX11_over_45 : decode cX11_over 45 = .ok (.invokestatic 167, 3) := by decide +kernel
theorem dX11_over_48 : decode cX11_over 48 = .ok (.lreturn, 1) := by decide +kernel
theorem dX11_ask_0 : decode cX11_ask 0 = .ok (.aload_n 0, 1) := by decide +kernel
theorem dX11_ask_1 : decode cX11_ask 1 = .ok (.iload_n 1, 1) := by decide +kernel
theorem dX11_ask_2 : decode cX11_ask 2 = .ok (.invokevirtual 145, 3) := by decide +kernel
theorem dX11_ask_5 : decode cX11_ask 5 = .ok (.ifCond .ne 5, 3) := by decide +kernel
theorem dX11_ask_8 : decode cX11_ask 8 = .ok (.iconst (-1), 1) := by decide +kernel
theorem dX11_ask_9 : decode cX11_ask 9 = .ok (.ireturn, 1) := by decide +kernel
theorem dX11_ask_10 : decode cX11_ask 10 = .ok (.iload_n 2, 1) := by decide +kernel
theorem dX11_ask_11 : decode cX11_ask 11 = .ok (.ifCond .lt 13, 3) := by decide +kernel
theorem dX11_ask_14 : decode cX11_ask 14 = .ok (.iload_n 2, 1) := by decide +kernel
theorem dX11_ask_15 : decode cX11_ask 15 = .ok (.iconst 1, 1) := by decide +kernel
theorem dX11_ask_16 : decode cX11_ask 16 = .ok (.aload_n 0, 1) := by decide +kernel
theorem dX11_ask_17 : decode cX11_ask 17 = .ok (.getfield 75, 3) := by decide +kernel
theorem dX11_ask_20 : decode cX11_ask 20 = .ok (.ishl, 1) := by decide +kernel
theorem dX11_ask_21 : decode cX11_ask 21 = .ok (.if_icmp .lt 6, 3) := by decide +kernel
theorem dX11_ask_24 : decode cX11_ask 24 = .ok (.bipush (-2), 2) := by decide +kernel
theorem dX11_ask_26 : decode cX11_ask 26 = .ok (.ireturn, 1) := by decide +kernel
theorem dX11_ask_27 : decode cX11_ask 27 = .ok (.aload_n 0, 1) := by decide +kernel
theorem dX11_ask_28 : decode cX11_ask 28 = .ok (.getfield 102, 3) := by decide +kernel
theorem dX11_ask_31 : decode cX11_ask 31 = .ok (.ifCond .ne 6, 3) := by decide +kernel
theorem dX11_ask_34 : decode cX11_ask 34 = .ok (.bipush (-3), 2) := by decide +kernel
theorem dX11_ask_36 : decode cX11_ask 36 = .ok (.ireturn, 1) := by decide +kernel
theorem dX11_ask_37 : decode cX11_ask 37 = .ok (.bipush (-9), 2) := by decide +kernel
theorem dX11_ask_39 : decode cX11_ask 39 = .ok (.istore_n 3, 1) := by decide +kernel
theorem dX11_ask_40 : decode cX11_ask 40 = .ok (.iconst (-1), 1) := by decide +kernel
theorem dX11_ask_41 : decode cX11_ask 41 = .ok (.istore 4, 2) := by decide +kernel
theorem dX11_ask_43 : decode cX11_ask 43 = .ok (.iconst 0, 1) := by decide +kernel
theorem dX11_ask_44 : decode cX11_ask 44 = .ok (.istore 5, 2) := by decide +kernel
theorem dX11_ask_46 : decode cX11_ask 46 = .ok (.iload 5, 2) := by decide +kernel
theorem dX11_ask_48 : decode cX11_ask 48 = .ok (.aload_n 0, 1) := by decide +kernel
theorem dX11_ask_49 : decode cX11_ask 49 = .ok (.getfield 75, 3) := by decide +kernel
theorem dX11_ask_52 : decode cX11_ask 52 = .ok (.if_icmp .ge 42, 3) := by decide +kernel
theorem dX11_ask_55 : decode cX11_ask 55 = .ok (.iload_n 2, 1) := by decide +kernel
theorem dX11_ask_56 : decode cX11_ask 56 = .ok (.iload 5, 2) := by decide +kernel
theorem dX11_ask_58 : decode cX11_ask 58 = .ok (.invokestatic 180, 3) := by decide +kernel
theorem dX11_ask_61 : decode cX11_ask 61 = .ok (.ifCond .eq 27, 3) := by decide +kernel
theorem dX11_ask_64 : decode cX11_ask 64 = .ok (.aload_n 0, 1) := by decide +kernel
theorem dX11_ask_65 : decode cX11_ask 65 = .ok (.iload_n 1, 1) := by decide +kernel
theorem dX11_ask_66 : decode cX11_ask 66 = .ok (.iload 5, 2) := by decide +kernel
theorem dX11_ask_68 : decode cX11_ask 68 = .ok (.invokevirtual 200, 3) := by decide +kernel
theorem dX11_ask_71 : decode cX11_ask 71 = .ok (.iload 4, 2) := by decide +kernel
theorem dX11_ask_73 : decode cX11_ask 73 = .ok (.if_icmp .le 15, 3) := by decide +kernel
theorem dX11_ask_76 : decode cX11_ask 76 = .ok (.aload_n 0, 1) := by decide +kernel
theorem dX11_ask_77 : decode cX11_ask 77 = .ok (.iload_n 1, 1) := by decide +kernel
theorem dX11_ask_78 : decode cX11_ask 78 = .ok (.iload 5, 2) := by decide +kernel
theorem dX11_ask_80 : decode cX11_ask 80 = .ok (.invokevirtual 200, 3) := by decide +kernel
theorem dX11_ask_83 : decode cX11_ask 83 = .ok (.istore 4, 2) := by decide +kernel
theorem dX11_ask_85 : decode cX11_ask 85 = .ok (.iload 5, 2) := by decide +kernel
theorem dX11_ask_87 : decode cX11_ask 87 = .ok (.istore_n 3, 1) := by decide +kernel
theorem dX11_ask_88 : decode cX11_ask 88 = .ok (.iinc 5 1, 3) := by decide +kernel
theorem dX11_ask_91 : decode cX11_ask 91 = .ok (.goto (-45), 3) := by decide +kernel
theorem dX11_ask_94 : decode cX11_ask 94 = .ok (.iload_n 3, 1) := by decide +kernel
theorem dX11_ask_95 : decode cX11_ask 95 = .ok (.ireturn, 1) := by decide +kernel
theorem dX11_turn_0 : decode cX11_turn 0 = .ok (.aload_n 0, 1) := by decide +kernel
theorem dX11_turn_1 : decode cX11_turn 1 = .ok (.iload_n 1, 1) := by decide +kernel
theorem dX11_turn_2 : decode cX11_turn 2 = .ok (.iload_n 2, 1) := by decide +kernel
theorem dX11_turn_3 : decode cX11_turn 3 = .ok (.iload_n 3, 1) := by decide +kernel
theorem dX11_turn_4 : decode cX11_turn 4 = .ok (.invokevirtual 194, 3) := by decide +kernel
theorem dX11_turn_7 : decode cX11_turn 7 = .ok (.ifCond .ne 5, 3) := by decide +kernel
theorem dX11_turn_10 : decode cX11_turn 10 = .ok (.iconst (-1), 1) := by decide +kernel
theorem dX11_turn_11 : decode cX11_turn 11 = .ok (.ireturn, 1) := by decide +kernel
theorem dX11_turn_12 : decode cX11_turn 12 = .ok (.iload 4, 2) := by decide +kernel
theorem dX11_turn_14 : decode cX11_turn 14 = .ok (.iconst 0, 1) := by decide +kernel
theorem dX11_turn_15 : decode cX11_turn 15 = .ok (.bipush 9, 2) := by decide +kernel
theorem dX11_turn_17 : decode cX11_turn 17 = .ok (.invokestatic 71, 3) := by decide +kernel
theorem dX11_turn_20 : decode cX11_turn 20 = .ok (.ifCond .eq 14, 3) := by decide +kernel
theorem dX11_turn_23 : decode cX11_turn 23 = .ok (.iload 5, 2) := by decide +kernel
theorem dX11_turn_25 : decode cX11_turn 25 = .ok (.iconst 1, 1) := by decide +kernel
theorem dX11_turn_26 : decode cX11_turn 26 = .ok (.bipush 9, 2) := by decide +kernel
theorem dX11_turn_28 : decode cX11_turn 28 = .ok (.invokestatic 71, 3) := by decide +kernel
theorem dX11_turn_31 : decode cX11_turn 31 = .ok (.ifCond .ne 6, 3) := by decide +kernel
theorem dX11_turn_34 : decode cX11_turn 34 = .ok (.bipush (-2), 2) := by decide +kernel
theorem dX11_turn_36 : decode cX11_turn 36 = .ok (.ireturn, 1) := by decide +kernel
theorem dX11_turn_37 : decode cX11_turn 37 = .ok (.aload_n 0, 1) := by decide +kernel
theorem dX11_turn_38 : decode cX11_turn 38 = .ok (.getfield 102, 3) := by decide +kernel
theorem dX11_turn_41 : decode cX11_turn 41 = .ok (.ifCond .ne 6, 3) := by decide +kernel
theorem dX11_turn_44 : decode cX11_turn 44 = .ok (.bipush (-3), 2) := by decide +kernel
theorem dX11_turn_46 : decode cX11_turn 46 = .ok (.ireturn, 1) := by decide +kernel
theorem dX11_turn_47 : decode cX11_turn 47 = .ok (.aload_n 0, 1) := by decide +kernel
theorem dX11_turn_48 : decode cX11_turn 48 = .ok (.getfield 109, 3) := by decide +kernel
theorem dX11_turn_51 : decode cX11_turn 51 = .ok (.bipush 6, 2) := by decide +kernel
theorem dX11_turn_53 : decode cX11_turn 53 = .ok (.if_icmp .ne 6, 3) := by decide +kernel
theorem dX11_turn_56 : decode cX11_turn 56 = .ok (.bipush (-4), 2) := by decide +kernel
theorem dX11_turn_58 : decode cX11_turn 58 = .ok (.ireturn, 1) := by decide +kernel
theorem dX11_turn_59 : decode cX11_turn 59 = .ok (.aload_n 0, 1) := by decide +kernel
theorem dX11_turn_60 : decode cX11_turn 60 = .ok (.getfield 41, 3) := by decide +kernel
theorem dX11_turn_63 : decode cX11_turn 63 = .ok (.aload_n 0, 1) := by decide +kernel
theorem dX11_turn_64 : decode cX11_turn 64 = .ok (.getfield 109, 3) := by decide +kernel
theorem dX11_turn_67 : decode cX11_turn 67 = .ok (.iload_n 1, 1) := by decide +kernel
theorem dX11_turn_68 : decode cX11_turn 68 = .ok (.iastore, 1) := by decide +kernel
theorem dX11_turn_69 : decode cX11_turn 69 = .ok (.aload_n 0, 1) := by decide +kernel
theorem dX11_turn_70 : decode cX11_turn 70 = .ok (.getfield 44, 3) := by decide +kernel
theorem dX11_turn_73 : decode cX11_turn 73 = .ok (.aload_n 0, 1) := by decide +kernel
theorem dX11_turn_74 : decode cX11_turn 74 = .ok (.getfield 109, 3) := by decide +kernel
theorem dX11_turn_77 : decode cX11_turn 77 = .ok (.iload_n 2, 1) := by decide +kernel
theorem dX11_turn_78 : decode cX11_turn 78 = .ok (.iastore, 1) := by decide +kernel
theorem dX11_turn_79 : decode cX11_turn 79 = .ok (.aload_n 0, 1) := by decide +kernel
theorem dX11_turn_80 : decode cX11_turn 80 = .ok (.getfield 47, 3) := by decide +kernel
theorem dX11_turn_83 : decode cX11_turn 83 = .ok (.aload_n 0, 1) := by decide +kernel
theorem dX11_turn_84 : decode cX11_turn 84 = .ok (.getfield 109, 3) := by decide +kernel
theorem dX11_turn_87 : decode cX11_turn 87 = .ok (.iload_n 3, 1) := by decide +kernel
theorem dX11_turn_88 : decode cX11_turn 88 = .ok (.iastore, 1) := by decide +kernel
theorem dX11_turn_89 : decode cX11_turn 89 = .ok (.aload_n 0, 1) := by decide +kernel
theorem dX11_turn_90 : decode cX11_turn 90 = .ok (.getfield 50, 3) := by decide +kernel
theorem dX11_turn_93 : decode cX11_turn 93 = .ok (.aload_n 0, 1) := by decide +kernel
theorem dX11_turn_94 : decode cX11_turn 94 = .ok (.getfield 109, 3) := by decide +kernel
theorem dX11_turn_97 : decode cX11_turn 97 = .ok (.iload 4, 2) := by decide +kernel
theorem dX11_turn_99 : decode cX11_turn 99 = .ok (.iastore, 1) := by decide +kernel
theorem dX11_turn_100 : decode cX11_turn 100 = .ok (.aload_n 0, 1) := by decide +kernel
theorem dX11_turn_101 : decode cX11_turn 101 = .ok (.getfield 53, 3) := by decide +kernel
theorem dX11_turn_104 : decode cX11_turn 104 = .ok (.aload_n 0, 1) := by decide +kernel
theorem dX11_turn_105 : decode cX11_turn 105 = .ok (.getfield 109, 3) := by decide +kernel
theorem dX11_turn_108 : decode cX11_turn 108 = .ok (.iload 5, 2) := by decide +kernel
theorem dX11_turn_110 : decode cX11_turn 110 = .ok (.iastore, 1) := by decide +kernel
theorem dX11_turn_111 : decode cX11_turn 111 = .ok (.aload_n 0, 1) := by decide +kernel
theorem dX11_turn_112 : decode cX11_turn 112 = .ok (.dup, 1) := by decide +kernel
theorem dX11_turn_113 : decode cX11_turn 113 = .ok (.getfield 109, 3) := by decide +kernel
theorem dX11_turn_116 : decode cX11_turn 116 = .ok (.iconst 1, 1) := by decide +kernel
theorem dX11_turn_117 : decode cX11_turn 117 = .ok (.iadd, 1) := by decide +kernel
theorem dX11_turn_118 : decode cX11_turn 118 = .ok (.putfield 109, 3) := by decide +kernel
theorem dX11_turn_121 : decode cX11_turn 121 = .ok (.aload_n 0, 1) := by decide +kernel
theorem dX11_turn_122 : decode cX11_turn 122 = .ok (.getfield 109, 3) := by decide +kernel
theorem dX11_turn_125 : decode cX11_turn 125 = .ok (.iconst 1, 1) := by decide +kernel
theorem dX11_turn_126 : decode cX11_turn 126 = .ok (.isub, 1) := by decide +kernel
theorem dX11_turn_127 : decode cX11_turn 127 = .ok (.ireturn, 1) := by decide +kernel
theorem dX11_truthOf_0 : decode cX11_truthOf 0 = .ok (.aload_n 0, 1) := by decide +kernel
theorem dX11_truthOf_1 : decode cX11_truthOf 1 = .ok (.aload_n 0, 1) := by decide +kernel
theorem dX11_truthOf_2 : decode cX11_truthOf 2 = .ok (.getfield 41, 3) := by decide +kernel
theorem dX11_truthOf_5 : decode cX11_truthOf 5 = .ok (.iload_n 1, 1) := by decide +kernel
theorem dX11_truthOf_6 : decode cX11_truthOf 6 = .ok (.iaload, 1) := by decide +kernel
theorem dX11_truthOf_7 : decode cX11_truthOf 7 = .ok (.aload_n 0, 1) := by decide +kernel
theorem dX11_truthOf_8 : decode cX11_truthOf 8 = .ok (.getfield 44, 3) := by decide +kernel
theorem dX11_truthOf_11 : decode cX11_truthOf 11 = .ok (.iload_n 1, 1) := by decide +kernel
theorem dX11_truthOf_12 : decode cX11_truthOf 12 = .ok (.iaload, 1) := by decide +kernel
theorem dX11_truthOf_13 : decode cX11_truthOf 13 = .ok (.aload_n 0, 1) := by decide +kernel
theorem dX11_truthOf_14 : decode cX11_truthOf 14 = .ok (.getfield 47, 3) := by decide +kernel
theorem dX11_truthOf_17 : decode cX11_truthOf 17 = .ok (.iload_n 1, 1) := by decide +kernel
theorem dX11_truthOf_18 : decode cX11_truthOf 18 = .ok (.iaload, 1) := by decide +kernel
theorem dX11_truthOf_19 : decode cX11_truthOf 19 = .ok (.aload_n 0, 1) := by decide +kernel
theorem dX11_truthOf_20 : decode cX11_truthOf 20 = .ok (.invokevirtual 184, 3) := by decide +kernel
theorem dX11_truthOf_23 : decode cX11_truthOf 23 = .ok (.aload_n 0, 1) := by decide +kernel
theorem dX11_truthOf_24 : decode cX11_truthOf 24 = .ok (.invokevirtual 184, 3) := by decide +kernel
theorem dX11_truthOf_27 : decode cX11_truthOf 27 = .ok (.invokevirtual 188, 3) := by decide +kernel
theorem dX11_truthOf_30 : decode cX11_truthOf 30 = .ok (.istore_n 2, 1) := by decide +kernel
theorem dX11_truthOf_31 : decode cX11_truthOf 31 = .ok (.iload_n 2, 1) := by decide +kernel
theorem dX11_truthOf_32 : decode cX11_truthOf 32 = .ok (.ifCond .ne 5, 3) := by decide +kernel
theorem dX11_truthOf_35 : decode cX11_truthOf 35 = .ok (.iconst 0, 1) := by decide +kernel
theorem dX11_truthOf_36 : decode cX11_truthOf 36 = .ok (.ireturn, 1) := by decide +kernel
theorem dX11_truthOf_37 : decode cX11_truthOf 37 = .ok (.aload_n 0, 1) := by decide +kernel
theorem dX11_truthOf_38 : decode cX11_truthOf 38 = .ok (.aload_n 0, 1) := by decide +kernel
theorem dX11_truthOf_39 : decode cX11_truthOf 39 = .ok (.getfield 41, 3) := by decide +kernel
theorem dX11_truthOf_42 : decode cX11_truthOf 42 = .ok (.iload_n 1, 1) := by decide +kernel
theorem dX11_truthOf_43 : decode cX11_truthOf 43 = .ok (.iaload, 1) := by decide +kernel
theorem dX11_truthOf_44 : decode cX11_truthOf 44 = .ok (.aload_n 0, 1) := by decide +kernel
theorem dX11_truthOf_45 : decode cX11_truthOf 45 = .ok (.getfield 44, 3) := by decide +kernel
theorem dX11_truthOf_48 : decode cX11_truthOf 48 = .ok (.iload_n 1, 1) := by decide +kernel
theorem dX11_truthOf_49 : decode cX11_truthOf 49 = .ok (.iaload, 1) := by decide +kernel
theorem dX11_truthOf_50 : decode cX11_truthOf 50 = .ok (.aload_n 0, 1) := by decide +kernel
theorem dX11_truthOf_51 : decode cX11_truthOf 51 = .ok (.getfield 47, 3) := by decide +kernel
theorem dX11_truthOf_54 : decode cX11_truthOf 54 = .ok (.iload_n 1, 1) := by decide +kernel
theorem dX11_truthOf_55 : decode cX11_truthOf 55 = .ok (.iaload, 1) := by decide +kernel
theorem dX11_truthOf_56 : decode cX11_truthOf 56 = .ok (.aload_n 0, 1) := by decide +kernel
theorem dX11_truthOf_57 : decode cX11_truthOf 57 = .ok (.invokevirtual 184, 3) := by decide +kernel
theorem dX11_truthOf_60 : decode cX11_truthOf 60 = .ok (.aload_n 0, 1) := by decide +kernel
theorem dX11_truthOf_61 : decode cX11_truthOf 61 = .ok (.aload_n 0, 1) := by decide +kernel
theorem dX11_truthOf_62 : decode cX11_truthOf 62 = .ok (.getfield 47, 3) := by decide +kernel
theorem dX11_truthOf_65 : decode cX11_truthOf 65 = .ok (.iload_n 1, 1) := by decide +kernel
theorem dX11_truthOf_66 : decode cX11_truthOf 66 = .ok (.iaload, 1) := by decide +kernel
theorem dX11_truthOf_67 : decode cX11_truthOf 67 = .ok (.invokevirtual 197, 3) := by decide +kernel
theorem dX11_truthOf_70 : decode cX11_truthOf 70 = .ok (.invokevirtual 188, 3) := by decide +kernel
theorem dX11_truthOf_73 : decode cX11_truthOf 73 = .ok (.i2l, 1) := by decide +kernel
theorem dX11_truthOf_74 : decode cX11_truthOf 74 = .ok (.lstore_n 3, 1) := by decide +kernel
theorem dX11_truthOf_75 : decode cX11_truthOf 75 = .ok (.ldc2_w 203, 3) := by decide +kernel
theorem dX11_truthOf_78 : decode cX11_truthOf 78 = .ok (.lload_n 3, 1) := by decide +kernel
theorem dX11_truthOf_79 : decode cX11_truthOf 79 = .ok (.lmul, 1) := by decide +kernel
theorem dX11_truthOf_80 : decode cX11_truthOf 80 = .ok (.iload_n 2, 1) := by decide +kernel
theorem dX11_truthOf_81 : decode cX11_truthOf 81 = .ok (.i2l, 1) := by decide +kernel
theorem dX11_truthOf_82 : decode cX11_truthOf 82 = .ok (.ldiv, 1) := by decide +kernel
theorem dX11_truthOf_83 : decode cX11_truthOf 83 = .ok (.l2i, 1) := by decide +kernel
theorem dX11_truthOf_84 : decode cX11_truthOf 84 = .ok (.ireturn, 1) := by decide +kernel
theorem dX11_ofTurn_0 : decode cX11_ofTurn 0 = .ok (.iload_n 1, 1) := by decide +kernel
theorem dX11_ofTurn_1 : decode cX11_ofTurn 1 = .ok (.ifCond .lt 11, 3) := by decide +kernel
theorem dX11_ofTurn_4 : decode cX11_ofTurn 4 = .ok (.iload_n 1, 1) := by decide +kernel
theorem dX11_ofTurn_5 : decode cX11_ofTurn 5 = .ok (.aload_n 0, 1) := by decide +kernel
theorem dX11_ofTurn_6 : decode cX11_ofTurn 6 = .ok (.getfield 109, 3) := by decide +kernel
theorem dX11_ofTurn_9 : decode cX11_ofTurn 9 = .ok (.if_icmp .lt 5, 3) := by decide +kernel
theorem dX11_ofTurn_12 : decode cX11_ofTurn 12 = .ok (.iconst (-1), 1) := by decide +kernel
theorem dX11_ofTurn_13 : decode cX11_ofTurn 13 = .ok (.ireturn, 1) := by decide +kernel
theorem dX11_ofTurn_14 : decode cX11_ofTurn 14 = .ok (.iload_n 2, 1) := by decide +kernel
theorem dX11_ofTurn_15 : decode cX11_ofTurn 15 = .ok (.tableswitch 78 0 5 #[37, 44, 51, 58, 65, 72], 37) := by decide +kernel
theorem dX11_ofTurn_52 : decode cX11_ofTurn 52 = .ok (.aload_n 0, 1) := by decide +kernel
theorem dX11_ofTurn_53 : decode cX11_ofTurn 53 = .ok (.getfield 41, 3) := by decide +kernel
theorem dX11_ofTurn_56 : decode cX11_ofTurn 56 = .ok (.iload_n 1, 1) := by decide +kernel
theorem dX11_ofTurn_57 : decode cX11_ofTurn 57 = .ok (.iaload, 1) := by decide +kernel
theorem dX11_ofTurn_58 : decode cX11_ofTurn 58 = .ok (.ireturn, 1) := by decide +kernel
theorem dX11_ofTurn_59 : decode cX11_ofTurn 59 = .ok (.aload_n 0, 1) := by decide +kernel
theorem dX11_ofTurn_60 : decode cX11_ofTurn 60 = .ok (.getfield 44, 3) := by decide +kernel
theorem dX11_ofTurn_63 : decode cX11_ofTurn 63 = .ok (.iload_n 1, 1) := by decide +kernel
theorem dX11_ofTurn_64 : decode cX11_ofTurn 64 = .ok (.iaload, 1) := by decide +kernel
theorem dX11_ofTurn_65 : decode cX11_ofTurn 65 = .ok (.ireturn, 1) := by decide +kernel
theorem dX11_ofTurn_66 : decode cX11_ofTurn 66 = .ok (.aload_n 0, 1) := by decide +kernel
theorem dX11_ofTurn_67 : decode cX11_ofTurn 67 = .ok (.getfield 47, 3) := by decide +kernel
theorem dX11_ofTurn_70 : decode cX11_ofTurn 70 = .ok (.iload_n 1, 1) := by decide +kernel
theorem dX11_ofTurn_71 : decode cX11_ofTurn 71 = .ok (.iaload, 1) := by decide +kernel
theorem dX11_ofTurn_72 : decode cX11_ofTurn 72 = .ok (.ireturn, 1) := by decide +kernel
theorem dX11_ofTurn_73 : decode cX11_ofTurn 73 = .ok (.aload_n 0, 1) := by decide +kernel
theorem dX11_ofTurn_74 : decode cX11_ofTurn 74 = .ok (.getfield 50, 3) := by decide +kernel
theorem dX11_ofTurn_77 : decode cX11_ofTurn 77 = .ok (.iload_n 1, 1) := by decide +kernel
theorem dX11_ofTurn_78 : decode cX11_ofTurn 78 = .ok (.iaload, 1) := by decide +kernel
theorem dX11_ofTurn_79 : decode cX11_ofTurn 79 = .ok (.ireturn, 1) := by decide +kernel
theorem dX11_ofTurn_80 : decode cX11_ofTurn 80 = .ok (.aload_n 0, 1) := by decide +kernel
theorem dX11_ofTurn_81 : decode cX11_ofTurn 81 = .ok (.getfield 53, 3) := by decide +kernel
theorem dX11_ofTurn_84 : decode cX11_ofTurn 84 = .ok (.iload_n 1, 1) := by decide +kernel
theorem dX11_ofTurn_85 : decode cX11_ofTurn 85 = .ok (.iaload, 1) := by decide +kernel
theorem dX11_ofTurn_86 : decode cX11_ofTurn 86 = .ok (.ireturn, 1) := by decide +kernel
theorem dX11_ofTurn_87 : decode cX11_ofTurn 87 = .ok (.aload_n 0, 1) := by decide +kernel
theorem dX11_ofTurn_88 : decode cX11_ofTurn 88 = .ok (.iload_n 1, 1) := by decide +kernel
theorem dX11_ofTurn_89 : decode cX11_ofTurn 89 = .ok (.invokevirtual 205, 3) := by decide +kernel
theorem dX11_ofTurn_92 : decode cX11_ofTurn 92 = .ok (.ireturn, 1) := by decide +kernel
theorem dX11_ofTurn_93 : decode cX11_ofTurn 93 = .ok (.bipush (-2), 2) := by decide +kernel
theorem dX11_ofTurn_95 : decode cX11_ofTurn 95 = .ok (.ireturn, 1) := by decide +kernel
theorem dX11_back_0 : decode cX11_back 0 = .ok (.iload_n 1, 1) := by decide +kernel
theorem dX11_back_1 : decode cX11_back 1 = .ok (.iconst 0, 1) := by decide +kernel
theorem dX11_back_2 : decode cX11_back 2 = .ok (.aload_n 0, 1) := by decide +kernel
theorem dX11_back_3 : decode cX11_back 3 = .ok (.getfield 109, 3) := by decide +kernel
theorem dX11_back_6 : decode cX11_back 6 = .ok (.invokestatic 71, 3) := by decide +kernel
theorem dX11_back_9 : decode cX11_back 9 = .ok (.ifCond .ne 6, 3) := by decide +kernel
theorem dX11_back_12 : decode cX11_back 12 = .ok (.bipush (-2), 2) := by decide +kernel
theorem dX11_back_14 : decode cX11_back 14 = .ok (.ireturn, 1) := by decide +kernel
theorem dX11_back_15 : decode cX11_back 15 = .ok (.aload_n 0, 1) := by decide +kernel
theorem dX11_back_16 : decode cX11_back 16 = .ok (.dup, 1) := by decide +kernel
theorem dX11_back_17 : decode cX11_back 17 = .ok (.getfield 109, 3) := by decide +kernel
theorem dX11_back_20 : decode cX11_back 20 = .ok (.iload_n 1, 1) := by decide +kernel
theorem dX11_back_21 : decode cX11_back 21 = .ok (.isub, 1) := by decide +kernel
theorem dX11_back_22 : decode cX11_back 22 = .ok (.putfield 109, 3) := by decide +kernel
theorem dX11_back_25 : decode cX11_back 25 = .ok (.aload_n 0, 1) := by decide +kernel
theorem dX11_back_26 : decode cX11_back 26 = .ok (.getfield 109, 3) := by decide +kernel
theorem dX11_back_29 : decode cX11_back 29 = .ok (.ireturn, 1) := by decide +kernel
theorem dX11_wrong_0 : decode cX11_wrong 0 = .ok (.iload_n 1, 1) := by decide +kernel
theorem dX11_wrong_1 : decode cX11_wrong 1 = .ok (.iconst 0, 1) := by decide +kernel
theorem dX11_wrong_2 : decode cX11_wrong 2 = .ok (.bipush 7, 2) := by decide +kernel
theorem dX11_wrong_4 : decode cX11_wrong 4 = .ok (.invokestatic 71, 3) := by decide +kernel
theorem dX11_wrong_7 : decode cX11_wrong 7 = .ok (.ifCond .eq 10, 3) := by decide +kernel
theorem dX11_wrong_10 : decode cX11_wrong 10 = .ok (.iload_n 2, 1) := by decide +kernel
theorem dX11_wrong_11 : decode cX11_wrong 11 = .ok (.invokestatic 158, 3) := by decide +kernel
theorem dX11_wrong_14 : decode cX11_wrong 14 = .ok (.ifCond .ne 7, 3) := by decide +kernel
theorem dX11_wrong_17 : decode cX11_wrong 17 = .ok (.ldc2_w 69, 3) := by decide +kernel
theorem dX11_wrong_20 : decode cX11_wrong 20 = .ok (.lreturn, 1) := by decide +kernel
theorem dX11_wrong_21 : decode cX11_wrong 21 = .ok (.aload_n 0, 1) := by decide +kernel
theorem dX11_wrong_22 : decode cX11_wrong 22 = .ok (.getfield 56, 3) := by decide +kernel
theorem dX11_wrong_25 : decode cX11_wrong 25 = .ok (.iconst 0, 1) := by decide +kernel
theorem dX11_wrong_26 : decode cX11_wrong 26 = .ok (.lconst 1, 1) := by decide +kernel
theorem dX11_wrong_27 : decode cX11_wrong 27 = .ok (.lastore, 1) := by decide +kernel
theorem dX11_wrong_28 : decode cX11_wrong 28 = .ok (.iconst 1, 1) := by decide +kernel
theorem dX11_wrong_29 : decode cX11_wrong 29 = .ok (.istore_n 3, 1) := by decide +kernel
theorem dX11_wrong_30 : decode cX11_wrong 30 = .ok (.iload_n 3, 1) := by decide +kernel
theorem dX11_wrong_31 : decode cX11_wrong 31 = .ok (.bipush 8, 2) := by decide +kernel
theorem dX11_wrong_33 : decode cX11_wrong 33 = .ok (.if_icmp .ge 16, 3) := by decide +kernel
theorem dX11_wrong_36 : decode cX11_wrong 36 = .ok (.aload_n 0, 1) := by decide +kernel
theorem dX11_wrong_37 : decode cX11_wrong 37 = .ok (.getfield 56, 3) := by decide +kernel
theorem dX11_wrong_40 : decode cX11_wrong 40 = .ok (.iload_n 3, 1) := by decide +kernel
theorem dX11_wrong_41 : decode cX11_wrong 41 = .ok (.lconst 0, 1) := by decide +kernel
theorem dX11_wrong_42 : decode cX11_wrong 42 = .ok (.lastore, 1) := by decide +kernel
theorem dX11_wrong_43 : decode cX11_wrong 43 = .ok (.iinc 3 1, 3) := by decide +kernel
theorem dX11_wrong_46 : decode cX11_wrong 46 = .ok (.goto (-16), 3) := by decide +kernel
theorem dX11_wrong_49 : decode cX11_wrong 49 = .ok (.lconst 1, 1) := by decide +kernel
theorem dX11_wrong_50 : decode cX11_wrong 50 = .ok (.lstore_n 3, 1) := by decide +kernel
theorem dX11_wrong_51 : decode cX11_wrong 51 = .ok (.iconst 0, 1) := by decide +kernel
theorem dX11_wrong_52 : decode cX11_wrong 52 = .ok (.istore 5, 2) := by decide +kernel
theorem dX11_wrong_54 : decode cX11_wrong 54 = .ok (.iload 5, 2) := by decide +kernel
theorem dX11_wrong_56 : decode cX11_wrong 56 = .ok (.aload_n 0, 1) := by decide +kernel
theorem dX11_wrong_57 : decode cX11_wrong 57 = .ok (.getfield 109, 3) := by decide +kernel
theorem dX11_wrong_60 : decode cX11_wrong 60 = .ok (.if_icmp .ge 92, 3) := by decide +kernel
theorem dX11_wrong_63 : decode cX11_wrong 63 = .ok (.aload_n 0, 1) := by decide +kernel
theorem dX11_wrong_64 : decode cX11_wrong 64 = .ok (.getfield 47, 3) := by decide +kernel
theorem dX11_wrong_67 : decode cX11_wrong 67 = .ok (.iload 5, 2) := by decide +kernel
theorem dX11_wrong_69 : decode cX11_wrong 69 = .ok (.iaload, 1) := by decide +kernel
theorem dX11_wrong_70 : decode cX11_wrong 70 = .ok (.ifCond .ne 76, 3) := by decide +kernel
theorem dX11_wrong_73 : decode cX11_wrong 73 = .ok (.aload_n 0, 1) := by decide +kernel
theorem dX11_wrong_74 : decode cX11_wrong 74 = .ok (.iload 5, 2) := by decide +kernel
theorem dX11_wrong_76 : decode cX11_wrong 76 = .ok (.invokevirtual 205, 3) := by decide +kernel
theorem dX11_wrong_79 : decode cX11_wrong 79 = .ok (.i2l, 1) := by decide +kernel
theorem dX11_wrong_80 : decode cX11_wrong 80 = .ok (.lstore 6, 2) := by decide +kernel
theorem dX11_wrong_82 : decode cX11_wrong 82 = .ok (.bipush 7, 2) := by decide +kernel
theorem dX11_wrong_84 : decode cX11_wrong 84 = .ok (.istore 8, 2) := by decide +kernel
theorem dX11_wrong_86 : decode cX11_wrong 86 = .ok (.iload 8, 2) := by decide +kernel
theorem dX11_wrong_88 : decode cX11_wrong 88 = .ok (.ifCond .lt 52, 3) := by decide +kernel
theorem dX11_wrong_91 : decode cX11_wrong 91 = .ok (.aload_n 0, 1) := by decide +kernel
theorem dX11_wrong_92 : decode cX11_wrong 92 = .ok (.getfield 56, 3) := by decide +kernel
theorem dX11_wrong_95 : decode cX11_wrong 95 = .ok (.iload 8, 2) := by decide +kernel
theorem dX11_wrong_97 : decode cX11_wrong 97 = .ok (.aload_n 0, 1) := by decide +kernel
theorem dX11_wrong_98 : decode cX11_wrong 98 = .ok (.getfield 56, 3) := by decide +kernel
theorem dX11_wrong_101 : decode cX11_wrong 101 = .ok (.iload 8, 2) := by decide +kernel
theorem dX11_wrong_103 : decode cX11_wrong 103 = .ok (.laload, 1) := by decide +kernel
theorem dX11_wrong_104 : decode cX11_wrong 104 = .ok (.ldc2_w 203, 3) := by decide +kernel
theorem dX11_wrong_107 : decode cX11_wrong 107 = .ok (.lload 6, 2) := by decide +kernel
theorem dX11_wrong_109 : decode cX11_wrong 109 = .ok (.lsub, 1) := by decide +kernel
theorem dX11_wrong_110 : decode cX11_wrong 110 = .ok (.lmul, 1) := by decide +kernel
theorem dX11_wrong_111 : decode cX11_wrong 111 = .ok (.iload 8, 2) := by decide +kernel
theorem dX11_wrong_113 : decode cX11_wrong 113 = .ok (.ifCond .le 18, 3) := by decide +kernel
theorem dX11_wrong_116 : decode cX11_wrong 116 = .ok (.aload_n 0, 1) := by decide +kernel
theorem dX11_wrong_117 : decode cX11_wrong 117 = .ok (.getfield 56, 3) := by decide +kernel
theorem dX11_wrong_120 : decode cX11_wrong 120 = .ok (.iload 8, 2) := by decide +kernel
theorem dX11_wrong_122 : decode cX11_wrong 122 = .ok (.iconst 1, 1) := by decide +kernel
theorem dX11_wrong_123 : decode cX11_wrong 123 = .ok (.isub, 1) := by decide +kernel
theorem dX11_wrong_124 : decode cX11_wrong 124 = .ok (.laload, 1) := by decide +kernel
theorem dX11_wrong_125 : decode cX11_wrong 125 = .ok (.lload 6, 2) := by decide +kernel
theorem dX11_wrong_127 : decode cX11_wrong 127 = .ok (.lmul, 1) := by decide +kernel
theorem dX11_wrong_128 : decode cX11_wrong 128 = .ok (.goto 4, 3) := by decide +kernel
theorem dX11_wrong_131 : decode cX11_wrong 131 = .ok (.lconst 0, 1) := by decide +kernel
theorem dX11_wrong_132 : decode cX11_wrong 132 = .ok (.ladd, 1) := by decide +kernel
theorem dX11_wrong_133 : decode cX11_wrong 133 = .ok (.lastore, 1) := by decide +kernel
theorem dX11_wrong_134 : decode cX11_wrong 134 = .ok (.iinc 8 (-1), 3) := by decide +kernel
theorem dX11_wrong_137 : decode cX11_wrong 137 = .ok (.goto (-51), 3) := by decide +kernel
theorem dX11_wrong_140 : decode cX11_wrong 140 = .ok (.lload_n 3, 1) := by decide +kernel
theorem dX11_wrong_141 : decode cX11_wrong 141 = .ok (.ldc2_w 203, 3) := by decide +kernel
theorem dX11_wrong_144 : decode cX11_wrong 144 = .ok (.lmul, 1) := by decide +kernel
theorem dX11_wrong_145 : decode cX11_wrong 145 = .ok (.lstore_n 3, 1) := by decide +kernel
theorem dX11_wrong_146 : decode cX11_wrong 146 = .ok (.iinc 5 1, 3) := by decide +kernel
theorem dX11_wrong_149 : decode cX11_wrong 149 = .ok (.goto (-95), 3) := by decide +kernel
theorem dX11_wrong_152 : decode cX11_wrong 152 = .ok (.lconst 0, 1) := by decide +kernel
theorem dX11_wrong_153 : decode cX11_wrong 153 = .ok (.lstore 5, 2) := by decide +kernel
theorem dX11_wrong_155 : decode cX11_wrong 155 = .ok (.iconst 0, 1) := by decide +kernel
theorem dX11_wrong_156 : decode cX11_wrong 156 = .ok (.istore 7, 2) := by decide +kernel
theorem dX11_wrong_158 : decode cX11_wrong 158 = .ok (.iload 7, 2) := by decide +kernel
theorem dX11_wrong_160 : decode cX11_wrong 160 = .ok (.iload_n 1, 1) := by decide +kernel
theorem dX11_wrong_161 : decode cX11_wrong 161 = .ok (.if_icmp .ge 21, 3) := by decide +kernel
theorem dX11_wrong_164 : decode cX11_wrong 164 = .ok (.lload 5, 2) := by decide +kernel
theorem dX11_wrong_166 : decode cX11_wrong 166 = .ok (.aload_n 0, 1) := by decide +kernel
theorem dX11_wrong_167 : decode cX11_wrong 167 = .ok (.getfield 56, 3) := by decide +kernel
theorem dX11_wrong_170 : decode cX11_wrong 170 = .ok (.iload 7, 2) := by decide +kernel
theorem dX11_wrong_172 : decode cX11_wrong 172 = .ok (.laload, 1) := by decide +kernel
theorem dX11_wrong_173 : decode cX11_wrong 173 = .ok (.ladd, 1) := by decide +kernel
theorem dX11_wrong_174 : decode cX11_wrong 174 = .ok (.lstore 5, 2) := by decide +kernel
theorem dX11_wrong_176 : decode cX11_wrong 176 = .ok (.iinc 7 1, 3) := by decide +kernel
theorem dX11_wrong_179 : decode cX11_wrong 179 = .ok (.goto (-21), 3) := by decide +kernel
theorem dX11_wrong_182 : decode cX11_wrong 182 = .ok (.lload 5, 2) := by decide +kernel
theorem dX11_wrong_184 : decode cX11_wrong 184 = .ok (.lload_n 3, 1) := by decide +kernel
theorem dX11_wrong_185 : decode cX11_wrong 185 = .ok (.iload_n 2, 1) := by decide +kernel
theorem dX11_wrong_186 : decode cX11_wrong 186 = .ok (.invokestatic 167, 3) := by decide +kernel
theorem dX11_wrong_189 : decode cX11_wrong 189 = .ok (.lreturn, 1) := by decide +kernel
theorem dX11_again_0 : decode cX11_again 0 = .ok (.iload_n 1, 1) := by decide +kernel
theorem dX11_again_1 : decode cX11_again 1 = .ok (.iconst 0, 1) := by decide +kernel
theorem dX11_again_2 : decode cX11_again 2 = .ok (.bipush 60, 2) := by decide +kernel
theorem dX11_again_4 : decode cX11_again 4 = .ok (.invokestatic 71, 3) := by decide +kernel
theorem dX11_again_7 : decode cX11_again 7 = .ok (.ifCond .ne 6, 3) := by decide +kernel
theorem dX11_again_10 : decode cX11_again 10 = .ok (.bipush (-2), 2) := by decide +kernel
theorem dX11_again_12 : decode cX11_again 12 = .ok (.ireturn, 1) := by decide +kernel
theorem dX11_again_13 : decode cX11_again 13 = .ok (.iconst 0, 1) := by decide +kernel
theorem dX11_again_14 : decode cX11_again 14 = .ok (.istore_n 2, 1) := by decide +kernel
theorem dX11_again_15 : decode cX11_again 15 = .ok (.iconst 0, 1) := by decide +kernel
theorem dX11_again_16 : decode cX11_again 16 = .ok (.istore_n 3, 1) := by decide +kernel
theorem dX11_again_17 : decode cX11_again 17 = .ok (.iconst 0, 1) := by decide +kernel
theorem dX11_again_18 : decode cX11_again 18 = .ok (.istore 4, 2) := by decide +kernel
theorem dX11_again_20 : decode cX11_again 20 = .ok (.iconst 1, 1) := by decide +kernel
theorem dX11_again_21 : decode cX11_again 21 = .ok (.istore 5, 2) := by decide +kernel
theorem dX11_again_23 : decode cX11_again 23 = .ok (.iload 5, 2) := by decide +kernel
theorem dX11_again_25 : decode cX11_again 25 = .ok (.iconst 1, 1) := by decide +kernel
theorem dX11_again_26 : decode cX11_again 26 = .ok (.aload_n 0, 1) := by decide +kernel
theorem dX11_again_27 : decode cX11_again 27 = .ok (.getfield 109, 3) := by decide +kernel
theorem dX11_again_30 : decode cX11_again 30 = .ok (.ishl, 1) := by decide +kernel
theorem dX11_again_31 : decode cX11_again 31 = .ok (.if_icmp .ge 113, 3) := by decide +kernel
theorem dX11_again_34 : decode cX11_again 34 = .ok (.iconst 0, 1) := by decide +kernel
theorem dX11_again_35 : decode cX11_again 35 = .ok (.istore 6, 2) := by decide +kernel
theorem dX11_again_37 : decode cX11_again 37 = .ok (.iconst 0, 1) := by decide +kernel
theorem dX11_again_38 : decode cX11_again 38 = .ok (.istore 7, 2) := by decide +kernel
theorem dX11_again_40 : decode cX11_again 40 = .ok (.iconst 0, 1) := by decide +kernel
theorem dX11_again_41 : decode cX11_again 41 = .ok (.istore 8, 2) := by decide +kernel
theorem dX11_again_43 : decode cX11_again 43 = .ok (.iload 8, 2) := by decide +kernel
theorem dX11_again_45 : decode cX11_again 45 = .ok (.aload_n 0, 1) := by decide +kernel
theorem dX11_again_46 : decode cX11_again 46 = .ok (.getfield 109, 3) := by decide +kernel
theorem dX11_again_49 : decode cX11_again 49 = .ok (.if_icmp .ge 54, 3) := by decide +kernel
theorem dX11_again_52 : decode cX11_again 52 = .ok (.iload 5, 2) := by decide +kernel
theorem dX11_again_54 : decode cX11_again 54 = .ok (.iload 8, 2) := by decide +kernel
theorem dX11_again_56 : decode cX11_again 56 = .ok (.invokestatic 180, 3) := by decide +kernel
theorem dX11_again_59 : decode cX11_again 59 = .ok (.ifCond .eq 38, 3) := by decide +kernel
theorem dX11_again_62 : decode cX11_again 62 = .ok (.iload 6, 2) := by decide +kernel
theorem dX11_again_64 : decode cX11_again 64 = .ok (.aload_n 0, 1) := by decide +kernel
theorem dX11_again_65 : decode cX11_again 65 = .ok (.getfield 50, 3) := by decide +kernel
theorem dX11_again_68 : decode cX11_again 68 = .ok (.iload 8, 2) := by decide +kernel
theorem dX11_again_70 : decode cX11_again 70 = .ok (.iaload, 1) := by decide +kernel
theorem dX11_again_71 : decode cX11_again 71 = .ok (.sipush 1000, 3) := by decide +kernel
theorem dX11_again_74 : decode cX11_again 74 = .ok (.aload_n 0, 1) := by decide +kernel
theorem dX11_again_75 : decode cX11_again 75 = .ok (.iload 8, 2) := by decide +kernel
theorem dX11_again_77 : decode cX11_again 77 = .ok (.invokevirtual 205, 3) := by decide +kernel
theorem dX11_again_80 : decode cX11_again 80 = .ok (.isub, 1) := by decide +kernel
theorem dX11_again_81 : decode cX11_again 81 = .ok (.imul, 1) := by decide +kernel
theorem dX11_again_82 : decode cX11_again 82 = .ok (.iadd, 1) := by decide +kernel
theorem dX11_again_83 : decode cX11_again 83 = .ok (.istore 6, 2) := by decide +kernel
theorem dX11_again_85 : decode cX11_again 85 = .ok (.iload 7, 2) := by decide +kernel
theorem dX11_again_87 : decode cX11_again 87 = .ok (.aload_n 0, 1) := by decide +kernel
theorem dX11_again_88 : decode cX11_again 88 = .ok (.getfield 53, 3) := by decide +kernel
theorem dX11_again_91 : decode cX11_again 91 = .ok (.iload 8, 2) := by decide +kernel
theorem dX11_again_93 : decode cX11_again 93 = .ok (.iaload, 1) := by decide +kernel
theorem dX11_again_94 : decode cX11_again 94 = .ok (.iadd, 1) := by decide +kernel
theorem dX11_again_95 : decode cX11_again 95 = .ok (.istore 7, 2) := by decide +kernel
theorem dX11_again_97 : decode cX11_again 97 = .ok (.iinc 8 1, 3) := by decide +kernel
theorem dX11_again_100 : decode cX11_again 100 = .ok (.goto (-57), 3) := by decide +kernel
theorem dX11_again_103 : decode cX11_again 103 = .ok (.iload 7, 2) := by decide +kernel
theorem dX11_again_105 : decode cX11_again 105 = .ok (.iload_n 1, 1) := by decide +kernel
theorem dX11_again_106 : decode cX11_again 106 = .ok (.if_icmp .gt 32, 3) := by decide +kernel
theorem dX11_again_109 : decode cX11_again 109 = .ok (.iload 6, 2) := by decide +kernel
theorem dX11_again_111 : decode cX11_again 111 = .ok (.iload_n 3, 1) := by decide +kernel
theorem dX11_again_112 : decode cX11_again 112 = .ok (.if_icmp .gt 16, 3) := by decide +kernel
theorem dX11_again_115 : decode cX11_again 115 = .ok (.iload 6, 2) := by decide +kernel
theorem dX11_again_117 : decode cX11_again 117 = .ok (.iload_n 3, 1) := by decide +kernel
theorem dX11_again_118 : decode cX11_again 118 = .ok (.if_icmp .ne 20, 3) := by decide +kernel
theorem dX11_again_121 : decode cX11_again 121 = .ok (.iload 7, 2) := by decide +kernel
theorem dX11_again_123 : decode cX11_again 123 = .ok (.iload 4, 2) := by decide +kernel
theorem dX11_again_125 : decode cX11_again 125 = .ok (.if_icmp .ge 13, 3) := by decide +kernel
theorem dX11_again_128 : decode cX11_again 128 = .ok (.iload 5, 2) := by decide +kernel
theorem dX11_again_130 : decode cX11_again 130 = .ok (.istore_n 2, 1) := by decide +kernel
theorem dX11_again_131 : decode cX11_again 131 = .ok (.iload 6, 2) := by decide +kernel
theorem dX11_again_133 : decode cX11_again 133 = .ok (.istore_n 3, 1) := by decide +kernel
theorem dX11_again_134 : decode cX11_again 134 = .ok (.iload 7, 2) := by decide +kernel
theorem dX11_again_136 : decode cX11_again 136 = .ok (.istore 4, 2) := by decide +kernel
theorem dX11_again_138 : decode cX11_again 138 = .ok (.iinc 5 1, 3) := by decide +kernel
theorem dX11_again_141 : decode cX11_again 141 = .ok (.goto (-118), 3) := by decide +kernel
theorem dX11_again_144 : decode cX11_again 144 = .ok (.iload_n 2, 1) := by decide +kernel
theorem dX11_again_145 : decode cX11_again 145 = .ok (.ireturn, 1) := by decide +kernel
theorem dX11_spot_0 : decode cX11_spot 0 = .ok (.iload_n 0, 1) := by decide +kernel
theorem dX11_spot_1 : decode cX11_spot 1 = .ok (.bipush 10, 2) := by decide +kernel
theorem dX11_spot_3 : decode cX11_spot 3 = .ok (.imul, 1) := by decide +kernel
theorem dX11_spot_4 : decode cX11_spot 4 = .ok (.iload_n 1, 1) := by decide +kernel
theorem dX11_spot_5 : decode cX11_spot 5 = .ok (.iadd, 1) := by decide +kernel
theorem dX11_spot_6 : decode cX11_spot 6 = .ok (.bipush 10, 2) := by decide +kernel
theorem dX11_spot_8 : decode cX11_spot 8 = .ok (.imul, 1) := by decide +kernel
theorem dX11_spot_9 : decode cX11_spot 9 = .ok (.iload_n 2, 1) := by decide +kernel
theorem dX11_spot_10 : decode cX11_spot 10 = .ok (.iadd, 1) := by decide +kernel
theorem dX11_spot_11 : decode cX11_spot 11 = .ok (.iconst 3, 1) := by decide +kernel
theorem dX11_spot_12 : decode cX11_spot 12 = .ok (.imul, 1) := by decide +kernel
theorem dX11_spot_13 : decode cX11_spot 13 = .ok (.iload_n 3, 1) := by decide +kernel
theorem dX11_spot_14 : decode cX11_spot 14 = .ok (.iadd, 1) := by decide +kernel
theorem dX11_spot_15 : decode cX11_spot 15 = .ok (.ireturn, 1) := by decide +kernel
theorem dX11_more_0 : decode cX11_more 0 = .ok (.iload_n 0, 1) := by decide +kernel
theorem dX11_more_1 : decode cX11_more 1 = .ok (.bipush 9, 2) := by decide +kernel
theorem dX11_more_3 : decode cX11_more 3 = .ok (.if_icmp .ge 9, 3) := by decide +kernel
theorem dX11_more_6 : decode cX11_more 6 = .ok (.iload_n 0, 1) := by decide +kernel
theorem dX11_more_7 : decode cX11_more 7 = .ok (.iconst 1, 1) := by decide +kernel
theorem dX11_more_8 : decode cX11_more 8 = .ok (.iadd, 1) := by decide +kernel
theorem dX11_more_9 : decode cX11_more 9 = .ok (.goto 5, 3) := by decide +kernel
theorem dX11_more_12 : decode cX11_more 12 = .ok (.bipush 9, 2) := by decide +kernel
theorem dX11_more_14 : decode cX11_more 14 = .ok (.ireturn, 1) := by decide +kernel
theorem dX11_less_0 : decode cX11_less 0 = .ok (.iload_n 0, 1) := by decide +kernel
theorem dX11_less_1 : decode cX11_less 1 = .ok (.ifCond .le 9, 3) := by decide +kernel
theorem dX11_less_4 : decode cX11_less 4 = .ok (.iload_n 0, 1) := by decide +kernel
theorem dX11_less_5 : decode cX11_less 5 = .ok (.iconst 1, 1) := by decide +kernel
theorem dX11_less_6 : decode cX11_less 6 = .ok (.isub, 1) := by decide +kernel
theorem dX11_less_7 : decode cX11_less 7 = .ok (.goto 4, 3) := by decide +kernel
theorem dX11_less_10 : decode cX11_less 10 = .ok (.iconst 0, 1) := by decide +kernel
theorem dX11_less_11 : decode cX11_less 11 = .ok (.ireturn, 1) := by decide +kernel
theorem dX11_costBy_0 : decode cX11_costBy 0 = .ok (.iload 5, 2) := by decide +kernel
theorem dX11_costBy_2 : decode cX11_costBy 2 = .ok (.ifCond .ne 7, 3) := by decide +kernel
theorem dX11_costBy_5 : decode cX11_costBy 5 = .ok (.iload_n 2, 1) := by decide +kernel
theorem dX11_costBy_6 : decode cX11_costBy 6 = .ok (.goto 4, 3) := by decide +kernel
theorem dX11_costBy_9 : decode cX11_costBy 9 = .ok (.iload_n 3, 1) := by decide +kernel
theorem dX11_costBy_10 : decode cX11_costBy 10 = .ok (.istore 7, 2) := by decide +kernel
theorem dX11_costBy_12 : decode cX11_costBy 12 = .ok (.iload 7, 2) := by decide +kernel
theorem dX11_costBy_14 : decode cX11_costBy 14 = .ok (.iload 4, 2) := by decide +kernel
theorem dX11_costBy_16 : decode cX11_costBy 16 = .ok (.iconst 2, 1) := by decide +kernel
theorem dX11_costBy_17 : decode cX11_costBy 17 = .ok (.if_icmp .eq 15, 3) := by decide +kernel
theorem dX11_costBy_20 : decode cX11_costBy 20 = .ok (.iload 4, 2) := by decide +kernel
theorem dX11_costBy_22 : decode cX11_costBy 22 = .ok (.iload 5, 2) := by decide +kernel
theorem dX11_costBy_24 : decode cX11_costBy 24 = .ok (.if_icmp .eq 8, 3) := by decide +kernel
theorem dX11_costBy_27 : decode cX11_costBy 27 = .ok (.iload 6, 2) := by decide +kernel
theorem dX11_costBy_29 : decode cX11_costBy 29 = .ok (.goto 4, 3) := by decide +kernel
theorem dX11_costBy_32 : decode cX11_costBy 32 = .ok (.iconst 0, 1) := by decide +kernel
theorem dX11_costBy_33 : decode cX11_costBy 33 = .ok (.iadd, 1) := by decide +kernel
theorem dX11_costBy_34 : decode cX11_costBy 34 = .ok (.istore 7, 2) := by decide +kernel
theorem dX11_costBy_36 : decode cX11_costBy 36 = .ok (.iload 5, 2) := by decide +kernel
theorem dX11_costBy_38 : decode cX11_costBy 38 = .ok (.ifCond .ne 10, 3) := by decide +kernel
theorem dX11_costBy_41 : decode cX11_costBy 41 = .ok (.iload_n 2, 1) := by decide +kernel
theorem dX11_costBy_42 : decode cX11_costBy 42 = .ok (.invokestatic 208, 3) := by decide +kernel
theorem dX11_costBy_45 : decode cX11_costBy 45 = .ok (.goto 7, 3) := by decide +kernel
theorem dX11_costBy_48 : decode cX11_costBy 48 = .ok (.iload_n 2, 1) := by decide +kernel
theorem dX11_costBy_49 : decode cX11_costBy 49 = .ok (.invokestatic 211, 3) := by decide +kernel
theorem dX11_costBy_52 : decode cX11_costBy 52 = .ok (.istore 8, 2) := by decide +kernel
theorem dX11_costBy_54 : decode cX11_costBy 54 = .ok (.iload 5, 2) := by decide +kernel
theorem dX11_costBy_56 : decode cX11_costBy 56 = .ok (.iconst 1, 1) := by decide +kernel
theorem dX11_costBy_57 : decode cX11_costBy 57 = .ok (.if_icmp .ne 10, 3) := by decide +kernel
theorem dX11_costBy_60 : decode cX11_costBy 60 = .ok (.iload_n 3, 1) := by decide +kernel
theorem dX11_costBy_61 : decode cX11_costBy 61 = .ok (.invokestatic 208, 3) := by decide +kernel
theorem dX11_costBy_64 : decode cX11_costBy 64 = .ok (.goto 7, 3) := by decide +kernel
theorem dX11_costBy_67 : decode cX11_costBy 67 = .ok (.iload_n 3, 1) := by decide +kernel
theorem dX11_costBy_68 : decode cX11_costBy 68 = .ok (.invokestatic 211, 3) := by decide +kernel
theorem dX11_costBy_71 : decode cX11_costBy 71 = .ok (.istore 9, 2) := by decide +kernel
theorem dX11_costBy_73 : decode cX11_costBy 73 = .ok (.iload 7, 2) := by decide +kernel
theorem dX11_costBy_75 : decode cX11_costBy 75 = .ok (.aload_n 0, 1) := by decide +kernel
theorem dX11_costBy_76 : decode cX11_costBy 76 = .ok (.getfield 59, 3) := by decide +kernel
theorem dX11_costBy_79 : decode cX11_costBy 79 = .ok (.iload_n 1, 1) := by decide +kernel
theorem dX11_costBy_80 : decode cX11_costBy 80 = .ok (.iconst 1, 1) := by decide +kernel
theorem dX11_costBy_81 : decode cX11_costBy 81 = .ok (.iadd, 1) := by decide +kernel
theorem dX11_costBy_82 : decode cX11_costBy 82 = .ok (.iload 8, 2) := by decide +kernel
theorem dX11_costBy_84 : decode cX11_costBy 84 = .ok (.iload 9, 2) := by decide +kernel
theorem dX11_costBy_86 : decode cX11_costBy 86 = .ok (.iload 5, 2) := by decide +kernel
theorem dX11_costBy_88 : decode cX11_costBy 88 = .ok (.invokestatic 214, 3) := by decide +kernel
theorem dX11_costBy_91 : decode cX11_costBy 91 = .ok (.iaload, 1) := by decide +kernel
theorem dX11_costBy_92 : decode cX11_costBy 92 = .ok (.iadd, 1) := by decide +kernel
theorem dX11_costBy_93 : decode cX11_costBy 93 = .ok (.ireturn, 1) := by decide +kernel
theorem dX11_layLeast_0 : decode cX11_layLeast 0 = .ok (.iconst 0, 1) := by decide +kernel
theorem dX11_layLeast_1 : decode cX11_layLeast 1 = .ok (.istore_n 3, 1) := by decide +kernel
theorem dX11_layLeast_2 : decode cX11_layLeast 2 = .ok (.iload_n 3, 1) := by decide +kernel
theorem dX11_layLeast_3 : decode cX11_layLeast 3 = .ok (.sipush 300, 3) := by decide +kernel
theorem dX11_layLeast_6 : decode cX11_layLeast 6 = .ok (.if_icmp .ge 24, 3) := by decide +kernel
theorem dX11_layLeast_9 : decode cX11_layLeast 9 = .ok (.aload_n 0, 1) := by decide +kernel
theorem dX11_layLeast_10 : decode cX11_layLeast 10 = .ok (.getfield 59, 3) := by decide +kernel
theorem dX11_layLeast_13 : decode cX11_layLeast 13 = .ok (.iload_n 1, 1) := by decide +kernel
theorem dX11_layLeast_14 : decode cX11_layLeast 14 = .ok (.iconst 0, 1) := by decide +kernel
theorem dX11_layLeast_15 : decode cX11_layLeast 15 = .ok (.iconst 0, 1) := by decide +kernel
theorem dX11_layLeast_16 : decode cX11_layLeast 16 = .ok (.iconst 0, 1) := by decide +kernel
theorem dX11_layLeast_17 : decode cX11_layLeast 17 = .ok (.invokestatic 214, 3) := by decide +kernel
theorem dX11_layLeast_20 : decode cX11_layLeast 20 = .ok (.iload_n 3, 1) := by decide +kernel
theorem dX11_layLeast_21 : decode cX11_layLeast 21 = .ok (.iadd, 1) := by decide +kernel
theorem dX11_layLeast_22 : decode cX11_layLeast 22 = .ok (.iconst 0, 1) := by decide +kernel
theorem dX11_layLeast_23 : decode cX11_layLeast 23 = .ok (.iastore, 1) := by decide +kernel
theorem dX11_layLeast_24 : decode cX11_layLeast 24 = .ok (.iinc 3 1, 3) := by decide +kernel
theorem dX11_layLeast_27 : decode cX11_layLeast 27 = .ok (.goto (-25), 3) := by decide +kernel
theorem dX11_layLeast_30 : decode cX11_layLeast 30 = .ok (.iload_n 1, 1) := by decide +kernel
theorem dX11_layLeast_31 : decode cX11_layLeast 31 = .ok (.iconst 1, 1) := by decide +kernel
theorem dX11_layLeast_32 : decode cX11_layLeast 32 = .ok (.isub, 1) := by decide +kernel
theorem dX11_layLeast_33 : decode cX11_layLeast 33 = .ok (.istore_n 3, 1) := by decide +kernel
theorem dX11_layLeast_34 : decode cX11_layLeast 34 = .ok (.iload_n 3, 1) := by decide +kernel
theorem dX11_layLeast_35 : decode cX11_layLeast 35 = .ok (.ifCond .lt 115, 3) := by decide +kernel
theorem dX11_layLeast_38 : decode cX11_layLeast 38 = .ok (.iconst 0, 1) := by decide +kernel
theorem dX11_layLeast_39 : decode cX11_layLeast 39 = .ok (.istore 4, 2) := by decide +kernel
theorem dX11_layLeast_41 : decode cX11_layLeast 41 = .ok (.iload 4, 2) := by decide +kernel
theorem dX11_layLeast_43 : decode cX11_layLeast 43 = .ok (.bipush 10, 2) := by decide +kernel
theorem dX11_layLeast_45 : decode cX11_layLeast 45 = .ok (.if_icmp .ge 99, 3) := by decide +kernel
theorem dX11_layLeast_48 : decode cX11_layLeast 48 = .ok (.iconst 0, 1) := by decide +kernel
theorem dX11_layLeast_49 : decode cX11_layLeast 49 = .ok (.istore 5, 2) := by decide +kernel
theorem dX11_layLeast_51 : decode cX11_layLeast 51 = .ok (.iload 5, 2) := by decide +kernel
theorem dX11_layLeast_53 : decode cX11_layLeast 53 = .ok (.bipush 10, 2) := by decide +kernel
theorem dX11_layLeast_55 : decode cX11_layLeast 55 = .ok (.if_icmp .ge 83, 3) := by decide +kernel
theorem dX11_layLeast_58 : decode cX11_layLeast 58 = .ok (.iconst 0, 1) := by decide +kernel
theorem dX11_layLeast_59 : decode cX11_layLeast 59 = .ok (.istore 6, 2) := by decide +kernel
theorem dX11_layLeast_61 : decode cX11_layLeast 61 = .ok (.iload 6, 2) := by decide +kernel
theorem dX11_layLeast_63 : decode cX11_layLeast 63 = .ok (.iconst 3, 1) := by decide +kernel
theorem dX11_layLeast_64 : decode cX11_layLeast 64 = .ok (.if_icmp .ge 68, 3) := by decide +kernel
theorem dX11_layLeast_67 : decode cX11_layLeast 67 = .ok (.aload_n 0, 1) := by decide +kernel
theorem dX11_layLeast_68 : decode cX11_layLeast 68 = .ok (.iload_n 3, 1) := by decide +kernel
theorem dX11_layLeast_69 : decode cX11_layLeast 69 = .ok (.iload 4, 2) := by decide +kernel
theorem dX11_layLeast_71 : decode cX11_layLeast 71 = .ok (.iload 5, 2) := by decide +kernel
theorem dX11_layLeast_73 : decode cX11_layLeast 73 = .ok (.iload 6, 2) := by decide +kernel
theorem dX11_layLeast_75 : decode cX11_layLeast 75 = .ok (.iconst 0, 1) := by decide +kernel
theorem dX11_layLeast_76 : decode cX11_layLeast 76 = .ok (.iload_n 2, 1) := by decide +kernel
theorem dX11_layLeast_77 : decode cX11_layLeast 77 = .ok (.invokevirtual 217, 3) := by decide +kernel
theorem dX11_layLeast_80 : decode cX11_layLeast 80 = .ok (.istore 7, 2) := by decide +kernel
theorem dX11_layLeast_82 : decode cX11_layLeast 82 = .ok (.aload_n 0, 1) := by decide +kernel
theorem dX11_layLeast_83 : decode cX11_layLeast 83 = .ok (.iload_n 3, 1) := by decide +kernel
theorem dX11_layLeast_84 : decode cX11_layLeast 84 = .ok (.iload 4, 2) := by decide +kernel
theorem dX11_layLeast_86 : decode cX11_layLeast 86 = .ok (.iload 5, 2) := by decide +kernel
theorem dX11_layLeast_88 : decode cX11_layLeast 88 = .ok (.iload 6, 2) := by decide +kernel
theorem dX11_layLeast_90 : decode cX11_layLeast 90 = .ok (.iconst 1, 1) := by decide +kernel
theorem dX11_layLeast_91 : decode cX11_layLeast 91 = .ok (.iload_n 2, 1) := by decide +kernel
theorem dX11_layLeast_92 : decode cX11_layLeast 92 = .ok (.invokevirtual 217, 3) := by decide +kernel
theorem dX11_layLeast_95 : decode cX11_layLeast 95 = .ok (.istore 8, 2) := by decide +kernel
theorem dX11_layLeast_97 : decode cX11_layLeast 97 = .ok (.aload_n 0, 1) := by decide +kernel
theorem dX11_layLeast_98 : decode cX11_layLeast 98 = .ok (.getfield 59, 3) := by decide +kernel
theorem dX11_layLeast_101 : decode cX11_layLeast 101 = .ok (.iload_n 3, 1) := by decide +kernel
theorem dX11_layLeast_102 : decode cX11_layLeast 102 = .ok (.iload 4, 2) := by decide +kernel
theorem dX11_layLeast_104 : decode cX11_layLeast 104 = .ok (.iload 5, 2) := by decide +kernel
theorem dX11_layLeast_106 : decode cX11_layLeast 106 = .ok (.iload 6, 2) := by decide +kernel
theorem dX11_layLeast_108 : decode cX11_layLeast 108 = .ok (.invokestatic 214, 3) := by decide +kernel
theorem dX11_layLeast_111 : decode cX11_layLeast 111 = .ok (.iload 7, 2) := by decide +kernel
theorem dX11_layLeast_113 : decode cX11_layLeast 113 = .ok (.iload 8, 2) := by decide +kernel
theorem dX11_layLeast_115 : decode cX11_layLeast 115 = .ok (.if_icmp .ge 8, 3) := by decide +kernel
theorem dX11_layLeast_118 : decode cX11_layLeast 118 = .ok (.iload 7, 2) := by decide +kernel
theorem dX11_layLeast_120 : decode cX11_layLeast 120 = .ok (.goto 5, 3) := by decide +kernel
theorem dX11_layLeast_123 : decode cX11_layLeast 123 = .ok (.iload 8, 2) := by decide +kernel
theorem dX11_layLeast_125 : decode cX11_layLeast 125 = .ok (.iastore, 1) := by decide +kernel
theorem dX11_layLeast_126 : decode cX11_layLeast 126 = .ok (.iinc 6 1, 3) := by decide +kernel
theorem dX11_layLeast_129 : decode cX11_layLeast 129 = .ok (.goto (-68), 3) := by decide +kernel
theorem dX11_layLeast_132 : decode cX11_layLeast 132 = .ok (.iinc 5 1, 3) := by decide +kernel
theorem dX11_layLeast_135 : decode cX11_layLeast 135 = .ok (.goto (-84), 3) := by decide +kernel
theorem dX11_layLeast_138 : decode cX11_layLeast 138 = .ok (.iinc 4 1, 3) := by decide +kernel
theorem dX11_layLeast_141 : decode cX11_layLeast 141 = .ok (.goto (-100), 3) := by decide +kernel
theorem dX11_layLeast_144 : decode cX11_layLeast 144 = .ok (.iinc 3 (-1), 3) := by decide +kernel
theorem dX11_layLeast_147 : decode cX11_layLeast 147 = .ok (.goto (-113), 3) := by decide +kernel
theorem dX11_layLeast_150 : decode cX11_layLeast 150 = .ok (.return_, 1) := by decide +kernel
theorem dX11_shifts_0 : decode cX11_shifts 0 = .ok (.aload_n 0, 1) := by decide +kernel
theorem dX11_shifts_1 : decode cX11_shifts 1 = .ok (.iload_n 1, 1) := by decide +kernel
theorem dX11_shifts_2 : decode cX11_shifts 2 = .ok (.invokevirtual 145, 3) := by decide +kernel
theorem dX11_shifts_5 : decode cX11_shifts 5 = .ok (.ifCond .eq 16, 3) := by decide +kernel
theorem dX11_shifts_8 : decode cX11_shifts 8 = .ok (.aload_n 0, 1) := by decide +kernel
theorem dX11_shifts_9 : decode cX11_shifts 9 = .ok (.iload_n 2, 1) := by decide +kernel
theorem dX11_shifts_10 : decode cX11_shifts 10 = .ok (.invokevirtual 145, 3) := by decide +kernel
theorem dX11_shifts_13 : decode cX11_shifts 13 = .ok (.ifCond .eq 8, 3) := by decide +kernel
theorem dX11_shifts_16 : decode cX11_shifts 16 = .ok (.iload_n 1, 1) := by decide +kernel
theorem dX11_shifts_17 : decode cX11_shifts 17 = .ok (.iload_n 2, 1) := by decide +kernel
theorem dX11_shifts_18 : decode cX11_shifts 18 = .ok (.if_icmp .ne 5, 3) := by decide +kernel
theorem dX11_shifts_21 : decode cX11_shifts 21 = .ok (.iconst (-1), 1) := by decide +kernel
theorem dX11_shifts_22 : decode cX11_shifts 22 = .ok (.ireturn, 1) := by decide +kernel
theorem dX11_shifts_23 : decode cX11_shifts 23 = .ok (.iload_n 3, 1) := by decide +kernel
theorem dX11_shifts_24 : decode cX11_shifts 24 = .ok (.iconst 1, 1) := by decide +kernel
theorem dX11_shifts_25 : decode cX11_shifts 25 = .ok (.bipush 40, 2) := by decide +kernel
theorem dX11_shifts_27 : decode cX11_shifts 27 = .ok (.invokestatic 71, 3) := by decide +kernel
theorem dX11_shifts_30 : decode cX11_shifts 30 = .ok (.ifCond .eq 14, 3) := by decide +kernel
theorem dX11_shifts_33 : decode cX11_shifts 33 = .ok (.iload 4, 2) := by decide +kernel
theorem dX11_shifts_35 : decode cX11_shifts 35 = .ok (.iconst 0, 1) := by decide +kernel
theorem dX11_shifts_36 : decode cX11_shifts 36 = .ok (.bipush 9, 2) := by decide +kernel
theorem dX11_shifts_38 : decode cX11_shifts 38 = .ok (.invokestatic 71, 3) := by decide +kernel
theorem dX11_shifts_41 : decode cX11_shifts 41 = .ok (.ifCond .ne 6, 3) := by decide +kernel
theorem dX11_shifts_44 : decode cX11_shifts 44 = .ok (.bipush (-2), 2) := by decide +kernel
theorem dX11_shifts_46 : decode cX11_shifts 46 = .ok (.ireturn, 1) := by decide +kernel
theorem dX11_shifts_47 : decode cX11_shifts 47 = .ok (.iload 5, 2) := by decide +kernel
theorem dX11_shifts_49 : decode cX11_shifts 49 = .ok (.iconst (-1), 1) := by decide +kernel
theorem dX11_shifts_50 : decode cX11_shifts 50 = .ok (.iload_n 3, 1) := by decide +kernel
theorem dX11_shifts_51 : decode cX11_shifts 51 = .ok (.iconst 1, 1) := by decide +kernel
theorem dX11_shifts_52 : decode cX11_shifts 52 = .ok (.isub, 1) := by decide +kernel
theorem dX11_shifts_53 : decode cX11_shifts 53 = .ok (.invokestatic 71, 3) := by decide +kernel
theorem dX11_shifts_56 : decode cX11_shifts 56 = .ok (.ifCond .ne 5, 3) := by decide +kernel
theorem dX11_shifts_59 : decode cX11_shifts 59 = .ok (.iconst (-1), 1) := by decide +kernel
theorem dX11_shifts_60 : decode cX11_shifts 60 = .ok (.ireturn, 1) := by decide +kernel
theorem dX11_shifts_61 : decode cX11_shifts 61 = .ok (.aload_n 0, 1) := by decide +kernel
theorem dX11_shifts_62 : decode cX11_shifts 62 = .ok (.iload_n 3, 1) := by decide +kernel
theorem dX11_shifts_63 : decode cX11_shifts 63 = .ok (.iload 4, 2) := by decide +kernel
theorem dX11_shifts_65 : decode cX11_shifts 65 = .ok (.invokevirtual 221, 3) := by decide +kernel
theorem dX11_shifts_68 : decode cX11_shifts 68 = .ok (.aload_n 0, 1) := by decide +kernel
theorem dX11_shifts_69 : decode cX11_shifts 69 = .ok (.getfield 28, 3) := by decide +kernel
theorem dX11_shifts_72 : decode cX11_shifts 72 = .ok (.iload_n 1, 1) := by decide +kernel
theorem dX11_shifts_73 : decode cX11_shifts 73 = .ok (.iaload, 1) := by decide +kernel
theorem dX11_shifts_74 : decode cX11_shifts 74 = .ok (.istore 6, 2) := by decide +kernel
theorem dX11_shifts_76 : decode cX11_shifts 76 = .ok (.aload_n 0, 1) := by decide +kernel
theorem dX11_shifts_77 : decode cX11_shifts 77 = .ok (.getfield 28, 3) := by decide +kernel
theorem dX11_shifts_80 : decode cX11_shifts 80 = .ok (.iload_n 2, 1) := by decide +kernel
theorem dX11_shifts_81 : decode cX11_shifts 81 = .ok (.iaload, 1) := by decide +kernel
theorem dX11_shifts_82 : decode cX11_shifts 82 = .ok (.istore 7, 2) := by decide +kernel
theorem dX11_shifts_84 : decode cX11_shifts 84 = .ok (.iconst 2, 1) := by decide +kernel
theorem dX11_shifts_85 : decode cX11_shifts 85 = .ok (.istore 8, 2) := by decide +kernel
theorem dX11_shifts_87 : decode cX11_shifts 87 = .ok (.iload 5, 2) := by decide +kernel
theorem dX11_shifts_89 : decode cX11_shifts 89 = .ok (.iconst (-1), 1) := by decide +kernel
theorem dX11_shifts_90 : decode cX11_shifts 90 = .ok (.if_icmp .ne 19, 3) := by decide +kernel
theorem dX11_shifts_93 : decode cX11_shifts 93 = .ok (.aload_n 0, 1) := by decide +kernel
theorem dX11_shifts_94 : decode cX11_shifts 94 = .ok (.getfield 59, 3) := by decide +kernel
theorem dX11_shifts_97 : decode cX11_shifts 97 = .ok (.iconst 0, 1) := by decide +kernel
theorem dX11_shifts_98 : decode cX11_shifts 98 = .ok (.iload 6, 2) := by decide +kernel
theorem dX11_shifts_100 : decode cX11_shifts 100 = .ok (.iload 7, 2) := by decide +kernel
theorem dX11_shifts_102 : decode cX11_shifts 102 = .ok (.iload 8, 2) := by decide +kernel
theorem dX11_shifts_104 : decode cX11_shifts 104 = .ok (.invokestatic 214, 3) := by decide +kernel
theorem dX11_shifts_107 : decode cX11_shifts 107 = .ok (.iaload, 1) := by decide +kernel
theorem dX11_shifts_108 : decode cX11_shifts 108 = .ok (.ireturn, 1) := by decide +kernel
theorem dX11_shifts_109 : decode cX11_shifts 109 = .ok (.iconst 0, 1) := by decide +kernel
theorem dX11_shifts_110 : decode cX11_shifts 110 = .ok (.istore 9, 2) := by decide +kernel
theorem dX11_shifts_112 : decode cX11_shifts 112 = .ok (.iload 9, 2) := by decide +kernel
theorem dX11_shifts_114 : decode cX11_shifts 114 = .ok (.iload 5, 2) := by decide +kernel
theorem dX11_shifts_116 : decode cX11_shifts 116 = .ok (.if_icmp .gt 95, 3) := by decide +kernel
theorem dX11_shifts_119 : decode cX11_shifts 119 = .ok (.aload_n 0, 1) := by decide +kernel
theorem dX11_shifts_120 : decode cX11_shifts 120 = .ok (.iload 9, 2) := by decide +kernel
theorem dX11_shifts_122 : decode cX11_shifts 122 = .ok (.iload 6, 2) := by decide +kernel
theorem dX11_shifts_124 : decode cX11_shifts 124 = .ok (.iload 7, 2) := by decide +kernel
theorem dX11_shifts_126 : decode cX11_shifts 126 = .ok (.iload 8, 2) := by decide +kernel
theorem dX11_shifts_128 : decode cX11_shifts 128 = .ok (.iconst 0, 1) := by decide +kernel
theorem dX11_shifts_129 : decode cX11_shifts 129 = .ok (.iload 4, 2) := by decide +kernel
theorem dX11_shifts_131 : decode cX11_shifts 131 = .ok (.invokevirtual 217, 3) := by decide +kernel
theorem dX11_shifts_134 : decode cX11_shifts 134 = .ok (.aload_n 0, 1) := by decide +kernel
theorem dX11_shifts_135 : decode cX11_shifts 135 = .ok (.getfield 59, 3) := by decide +kernel
theorem dX11_shifts_138 : decode cX11_shifts 138 = .ok (.iload 9, 2) := by decide +kernel
theorem dX11_shifts_140 : decode cX11_shifts 140 = .ok (.iload 6, 2) := by decide +kernel
theorem dX11_shifts_142 : decode cX11_shifts 142 = .ok (.iload 7, 2) := by decide +kernel
theorem dX11_shifts_144 : decode cX11_shifts 144 = .ok (.iload 8, 2) := by decide +kernel
theorem dX11_shifts_146 : decode cX11_shifts 146 = .ok (.invokestatic 214, 3) := by decide +kernel
theorem dX11_shifts_149 : decode cX11_shifts 149 = .ok (.iaload, 1) := by decide +kernel
theorem dX11_shifts_150 : decode cX11_shifts 150 = .ok (.if_icmp .ne 7, 3) := by decide +kernel
theorem dX11_shifts_153 : decode cX11_shifts 153 = .ok (.iconst 0, 1) := by decide +kernel
theorem dX11_shifts_154 : decode cX11_shifts 154 = .ok (.goto 4, 3) := by decide +kernel
theorem dX11_shifts_157 : decode cX11_shifts 157 = .ok (.iconst 1, 1) := by decide +kernel
theorem dX11_shifts_158 : decode cX11_shifts 158 = .ok (.istore 10, 2) := by decide +kernel
theorem dX11_shifts_160 : decode cX11_shifts 160 = .ok (.iload 10, 2) := by decide +kernel
theorem dX11_shifts_162 : decode cX11_shifts 162 = .ok (.ifCond .ne 11, 3) := by decide +kernel
theorem dX11_shifts_165 : decode cX11_shifts 165 = .ok (.iload 6, 2) := by decide +kernel
theorem dX11_shifts_167 : decode cX11_shifts 167 = .ok (.invokestatic 208, 3) := by decide +kernel
theorem dX11_shifts_170 : decode cX11_shifts 170 = .ok (.goto 8, 3) := by decide +kernel
theorem dX11_shifts_173 : decode cX11_shifts 173 = .ok (.iload 6, 2) := by decide +kernel
theorem dX11_shifts_175 : decode cX11_shifts 175 = .ok (.invokestatic 211, 3) := by decide +kernel
theorem dX11_shifts_178 : decode cX11_shifts 178 = .ok (.istore 6, 2) := by decide +kernel
theorem dX11_shifts_180 : decode cX11_shifts 180 = .ok (.iload 10, 2) := by decide +kernel
theorem dX11_shifts_182 : decode cX11_shifts 182 = .ok (.iconst 1, 1) := by decide +kernel
theorem dX11_shifts_183 : decode cX11_shifts 183 = .ok (.if_icmp .ne 11, 3) := by decide +kernel
theorem dX11_shifts_186 : decode cX11_shifts 186 = .ok (.iload 7, 2) := by decide +kernel
theorem dX11_shifts_188 : decode cX11_shifts 188 = .ok (.invokestatic 208, 3) := by decide +kernel
theorem dX11_shifts_191 : decode cX11_shifts 191 = .ok (.goto 8, 3) := by decide +kernel
theorem dX11_shifts_194 : decode cX11_shifts 194 = .ok (.iload 7, 2) := by decide +kernel
theorem dX11_shifts_196 : decode cX11_shifts 196 = .ok (.invokestatic 211, 3) := by decide +kernel
theorem dX11_shifts_199 : decode cX11_shifts 199 = .ok (.istore 7, 2) := by decide +kernel
theorem dX11_shifts_201 : decode cX11_shifts 201 = .ok (.iload 10, 2) := by decide +kernel
theorem dX11_shifts_203 : decode cX11_shifts 203 = .ok (.istore 8, 2) := by decide +kernel
theorem dX11_shifts_205 : decode cX11_shifts 205 = .ok (.iinc 9 1, 3) := by decide +kernel
theorem dX11_shifts_208 : decode cX11_shifts 208 = .ok (.goto (-96), 3) := by decide +kernel
theorem dX11_shifts_211 : decode cX11_shifts 211 = .ok (.iload 8, 2) := by decide +kernel
theorem dX11_shifts_213 : decode cX11_shifts 213 = .ok (.ireturn, 1) := by decide +kernel
theorem dX11_isOrder_0 : decode cX11_isOrder 0 = .ok (.iconst 0, 1) := by decide +kernel
theorem dX11_isOrder_1 : decode cX11_isOrder 1 = .ok (.istore_n 3, 1) := by decide +kernel
theorem dX11_isOrder_2 : decode cX11_isOrder 2 = .ok (.iconst 0, 1) := by decide +kernel
theorem dX11_isOrder_3 : decode cX11_isOrder 3 = .ok (.istore 4, 2) := by decide +kernel
theorem dX11_isOrder_5 : decode cX11_isOrder 5 = .ok (.iload 4, 2) := by decide +kernel
theorem dX11_isOrder_7 : decode cX11_isOrder 7 = .ok (.iload_n 2, 1) := by decide +kernel
theorem dX11_isOrder_8 : decode cX11_isOrder 8 = .ok (.if_icmp .ge 44, 3) := by decide +kernel
theorem dX11_isOrder_11 : decode cX11_isOrder 11 = .ok (.aload_n 0, 1) := by decide +kernel
theorem dX11_isOrder_12 : decode cX11_isOrder 12 = .ok (.getfield 16, 3) := by decide +kernel
theorem dX11_isOrder_15 : decode cX11_isOrder 15 = .ok (.iload_n 1, 1) := by decide +kernel
theorem dX11_isOrder_16 : decode cX11_isOrder 16 = .ok (.iload 4, 2) := by decide +kernel
theorem dX11_isOrder_18 : decode cX11_isOrder 18 = .ok (.iadd, 1) := by decide +kernel
theorem dX11_isOrder_19 : decode cX11_isOrder 19 = .ok (.iaload, 1) := by decide +kernel
theorem dX11_isOrder_20 : decode cX11_isOrder 20 = .ok (.iconst 0, 1) := by decide +kernel
theorem dX11_isOrder_21 : decode cX11_isOrder 21 = .ok (.iload_n 2, 1) := by decide +kernel
theorem dX11_isOrder_22 : decode cX11_isOrder 22 = .ok (.iconst 1, 1) := by decide +kernel
theorem dX11_isOrder_23 : decode cX11_isOrder 23 = .ok (.isub, 1) := by decide +kernel
theorem dX11_isOrder_24 : decode cX11_isOrder 24 = .ok (.invokestatic 71, 3) := by decide +kernel
theorem dX11_isOrder_27 : decode cX11_isOrder 27 = .ok (.ifCond .ne 5, 3) := by decide +kernel
theorem dX11_isOrder_30 : decode cX11_isOrder 30 = .ok (.iconst 0, 1) := by decide +kernel
theorem dX11_isOrder_31 : decode cX11_isOrder 31 = .ok (.ireturn, 1) := by decide +kernel
theorem dX11_isOrder_32 : decode cX11_isOrder 32 = .ok (.iload_n 3, 1) := by decide +kernel
theorem dX11_isOrder_33 : decode cX11_isOrder 33 = .ok (.iconst 1, 1) := by decide +kernel
theorem dX11_isOrder_34 : decode cX11_isOrder 34 = .ok (.aload_n 0, 1) := by decide +kernel
theorem dX11_isOrder_35 : decode cX11_isOrder 35 = .ok (.getfield 16, 3) := by decide +kernel
theorem dX11_isOrder_38 : decode cX11_isOrder 38 = .ok (.iload_n 1, 1) := by decide +kernel
theorem dX11_isOrder_39 : decode cX11_isOrder 39 = .ok (.iload 4, 2) := by decide +kernel
theorem dX11_isOrder_41 : decode cX11_isOrder 41 = .ok (.iadd, 1) := by decide +kernel
theorem dX11_isOrder_42 : decode cX11_isOrder 42 = .ok (.iaload, 1) := by decide +kernel
theorem dX11_isOrder_43 : decode cX11_isOrder 43 = .ok (.ishl, 1) := by decide +kernel
theorem dX11_isOrder_44 : decode cX11_isOrder 44 = .ok (.ior, 1) := by decide +kernel
theorem dX11_isOrder_45 : decode cX11_isOrder 45 = .ok (.istore_n 3, 1) := by decide +kernel
theorem dX11_isOrder_46 : decode cX11_isOrder 46 = .ok (.iinc 4 1, 3) := by decide +kernel
theorem dX11_isOrder_49 : decode cX11_isOrder 49 = .ok (.goto (-44), 3) := by decide +kernel
theorem dX11_isOrder_52 : decode cX11_isOrder 52 = .ok (.iload_n 3, 1) := by decide +kernel
theorem dX11_isOrder_53 : decode cX11_isOrder 53 = .ok (.iconst 1, 1) := by decide +kernel
theorem dX11_isOrder_54 : decode cX11_isOrder 54 = .ok (.iload_n 2, 1) := by decide +kernel
theorem dX11_isOrder_55 : decode cX11_isOrder 55 = .ok (.ishl, 1) := by decide +kernel
theorem dX11_isOrder_56 : decode cX11_isOrder 56 = .ok (.iconst 1, 1) := by decide +kernel
theorem dX11_isOrder_57 : decode cX11_isOrder 57 = .ok (.isub, 1) := by decide +kernel
theorem dX11_isOrder_58 : decode cX11_isOrder 58 = .ok (.if_icmp .ne 7, 3) := by decide +kernel
theorem dX11_isOrder_61 : decode cX11_isOrder 61 = .ok (.iconst 1, 1) := by decide +kernel
theorem dX11_isOrder_62 : decode cX11_isOrder 62 = .ok (.goto 4, 3) := by decide +kernel
theorem dX11_isOrder_65 : decode cX11_isOrder 65 = .ok (.iconst 0, 1) := by decide +kernel
theorem dX11_isOrder_66 : decode cX11_isOrder 66 = .ok (.ireturn, 1) := by decide +kernel
theorem dX11_booth_0 : decode cX11_booth 0 = .ok (.aload_n 0, 1) := by decide +kernel
theorem dX11_booth_1 : decode cX11_booth 1 = .ok (.iconst 0, 1) := by decide +kernel
theorem dX11_booth_2 : decode cX11_booth 2 = .ok (.putfield 65, 3) := by decide +kernel
theorem dX11_booth_5 : decode cX11_booth 5 = .ok (.iload_n 1, 1) := by decide +kernel
theorem dX11_booth_6 : decode cX11_booth 6 = .ok (.invokestatic 81, 3) := by decide +kernel
theorem dX11_booth_9 : decode cX11_booth 9 = .ok (.ifCond .ne 5, 3) := by decide +kernel
theorem dX11_booth_12 : decode cX11_booth 12 = .ok (.iconst (-1), 1) := by decide +kernel
theorem dX11_booth_13 : decode cX11_booth 13 = .ok (.ireturn, 1) := by decide +kernel
theorem dX11_booth_14 : decode cX11_booth 14 = .ok (.iload_n 2, 1) := by decide +kernel
theorem dX11_booth_15 : decode cX11_booth 15 = .ok (.invokestatic 85, 3) := by decide +kernel
theorem dX11_booth_18 : decode cX11_booth 18 = .ok (.ifCond .eq 13, 3) := by decide +kernel
theorem dX11_booth_21 : decode cX11_booth 21 = .ok (.iload 5, 2) := by decide +kernel
theorem dX11_booth_23 : decode cX11_booth 23 = .ok (.iconst 0, 1) := by decide +kernel
theorem dX11_booth_24 : decode cX11_booth 24 = .ok (.iconst 2, 1) := by decide +kernel
theorem dX11_booth_25 : decode cX11_booth 25 = .ok (.invokestatic 71, 3) := by decide +kernel
theorem dX11_booth_28 : decode cX11_booth 28 = .ok (.ifCond .ne 6, 3) := by decide +kernel
theorem dX11_booth_31 : decode cX11_booth 31 = .ok (.bipush (-2), 2) := by decide +kernel
theorem dX11_booth_33 : decode cX11_booth 33 = .ok (.ireturn, 1) := by decide +kernel
theorem dX11_booth_34 : decode cX11_booth 34 = .ok (.aload_n 0, 1) := by decide +kernel
theorem dX11_booth_35 : decode cX11_booth 35 = .ok (.iload_n 1, 1) := by decide +kernel
theorem dX11_booth_36 : decode cX11_booth 36 = .ok (.iload_n 2, 1) := by decide +kernel
theorem dX11_booth_37 : decode cX11_booth 37 = .ok (.iload_n 3, 1) := by decide +kernel
theorem dX11_booth_38 : decode cX11_booth 38 = .ok (.iload 4, 2) := by decide +kernel
theorem dX11_booth_40 : decode cX11_booth 40 = .ok (.invokevirtual 88, 3) := by decide +kernel
theorem dX11_booth_43 : decode cX11_booth 43 = .ok (.istore 6, 2) := by decide +kernel
theorem dX11_booth_45 : decode cX11_booth 45 = .ok (.iload 6, 2) := by decide +kernel
theorem dX11_booth_47 : decode cX11_booth 47 = .ok (.ifCond .eq 10, 3) := by decide +kernel
theorem dX11_booth_50 : decode cX11_booth 50 = .ok (.aload_n 0, 1) := by decide +kernel
theorem dX11_booth_51 : decode cX11_booth 51 = .ok (.iload 6, 2) := by decide +kernel
theorem dX11_booth_53 : decode cX11_booth 53 = .ok (.invokevirtual 92, 3) := by decide +kernel
theorem dX11_booth_56 : decode cX11_booth 56 = .ok (.ireturn, 1) := by decide +kernel
theorem dX11_booth_57 : decode cX11_booth 57 = .ok (.bipush 120, 2) := by decide +kernel
theorem dX11_booth_59 : decode cX11_booth 59 = .ok (.iload_n 1, 1) := by decide +kernel
theorem dX11_booth_60 : decode cX11_booth 60 = .ok (.imul, 1) := by decide +kernel
theorem dX11_booth_61 : decode cX11_booth 61 = .ok (.iload_n 3, 1) := by decide +kernel
theorem dX11_booth_62 : decode cX11_booth 62 = .ok (.iadd, 1) := by decide +kernel
theorem dX11_booth_63 : decode cX11_booth 63 = .ok (.istore 7, 2) := by decide +kernel
theorem dX11_booth_65 : decode cX11_booth 65 = .ok (.iload 4, 2) := by decide +kernel
theorem dX11_booth_67 : decode cX11_booth 67 = .ok (.iconst 1, 1) := by decide +kernel
theorem dX11_booth_68 : decode cX11_booth 68 = .ok (.bipush 9, 2) := by decide +kernel
theorem dX11_booth_70 : decode cX11_booth 70 = .ok (.invokestatic 71, 3) := by decide +kernel
theorem dX11_booth_73 : decode cX11_booth 73 = .ok (.ifCond .eq 14, 3) := by decide +kernel
theorem dX11_booth_76 : decode cX11_booth 76 = .ok (.aload_n 0, 1) := by decide +kernel
theorem dX11_booth_77 : decode cX11_booth 77 = .ok (.iload 7, 2) := by decide +kernel
theorem dX11_booth_79 : decode cX11_booth 79 = .ok (.iload 4, 2) := by decide +kernel
theorem dX11_booth_81 : decode cX11_booth 81 = .ok (.invokevirtual 224, 3) := by decide +kernel
theorem dX11_booth_84 : decode cX11_booth 84 = .ok (.ifCond .ne 6, 3) := by decide +kernel
theorem dX11_booth_87 : decode cX11_booth 87 = .ok (.bipush (-2), 2) := by decide +kernel
theorem dX11_booth_89 : decode cX11_booth 89 = .ok (.ireturn, 1) := by decide +kernel
theorem dX11_booth_90 : decode cX11_booth 90 = .ok (.iconst (-1), 1) := by decide +kernel
theorem dX11_booth_91 : decode cX11_booth 91 = .ok (.istore 8, 2) := by decide +kernel
theorem dX11_booth_93 : decode cX11_booth 93 = .ok (.iconst 0, 1) := by decide +kernel
theorem dX11_booth_94 : decode cX11_booth 94 = .ok (.istore 9, 2) := by decide +kernel
theorem dX11_booth_96 : decode cX11_booth 96 = .ok (.iconst 0, 1) := by decide +kernel
theorem dX11_booth_97 : decode cX11_booth 97 = .ok (.istore 10, 2) := by decide +kernel
theorem dX11_booth_99 : decode cX11_booth 99 = .ok (.iload 10, 2) := by decide +kernel
theorem dX11_booth_101 : decode cX11_booth 101 = .ok (.iload 4, 2) := by decide +kernel
theorem dX11_booth_103 : decode cX11_booth 103 = .ok (.if_icmp .ge 70, 3) := by decide +kernel
theorem dX11_booth_106 : decode cX11_booth 106 = .ok (.aload_n 0, 1) := by decide +kernel
theorem dX11_booth_107 : decode cX11_booth 107 = .ok (.getfield 16, 3) := by decide +kernel
theorem dX11_booth_110 : decode cX11_booth 110 = .ok (.iload 7, 2) := by decide +kernel
theorem dX11_booth_112 : decode cX11_booth 112 = .ok (.iload 10, 2) := by decide +kernel
theorem dX11_booth_114 : decode cX11_booth 114 = .ok (.iadd, 1) := by decide +kernel
theorem dX11_booth_115 : decode cX11_booth 115 = .ok (.iaload, 1) := by decide +kernel
theorem dX11_booth_116 : decode cX11_booth 116 = .ok (.istore 11, 2) := by decide +kernel
theorem dX11_booth_118 : decode cX11_booth 118 = .ok (.iload 11, 2) := by decide +kernel
theorem dX11_booth_120 : decode cX11_booth 120 = .ok (.iload 8, 2) := by decide +kernel
theorem dX11_booth_122 : decode cX11_booth 122 = .ok (.if_icmp .le 8, 3) := by decide +kernel
theorem dX11_booth_125 : decode cX11_booth 125 = .ok (.iload 11, 2) := by decide +kernel
theorem dX11_booth_127 : decode cX11_booth 127 = .ok (.goto 7, 3) := by decide +kernel
theorem dX11_booth_130 : decode cX11_booth 130 = .ok (.iload 8, 2) := by decide +kernel
theorem dX11_booth_132 : decode cX11_booth 132 = .ok (.iconst 1, 1) := by decide +kernel
theorem dX11_booth_133 : decode cX11_booth 133 = .ok (.iadd, 1) := by decide +kernel
theorem dX11_booth_134 : decode cX11_booth 134 = .ok (.istore 8, 2) := by decide +kernel
theorem dX11_booth_136 : decode cX11_booth 136 = .ok (.aload_n 0, 1) := by decide +kernel
theorem dX11_booth_137 : decode cX11_booth 137 = .ok (.getfield 62, 3) := by decide +kernel
theorem dX11_booth_140 : decode cX11_booth 140 = .ok (.iload 10, 2) := by decide +kernel
theorem dX11_booth_142 : decode cX11_booth 142 = .ok (.iload 8, 2) := by decide +kernel
theorem dX11_booth_144 : decode cX11_booth 144 = .ok (.iastore, 1) := by decide +kernel
theorem dX11_booth_145 : decode cX11_booth 145 = .ok (.iload 8, 2) := by decide +kernel
theorem dX11_booth_147 : decode cX11_booth 147 = .ok (.iload 11, 2) := by decide +kernel
theorem dX11_booth_149 : decode cX11_booth 149 = .ok (.isub, 1) := by decide +kernel
theorem dX11_booth_150 : decode cX11_booth 150 = .ok (.iload 9, 2) := by decide +kernel
theorem dX11_booth_152 : decode cX11_booth 152 = .ok (.if_icmp .le 11, 3) := by decide +kernel
theorem dX11_booth_155 : decode cX11_booth 155 = .ok (.iload 8, 2) := by decide +kernel
theorem dX11_booth_157 : decode cX11_booth 157 = .ok (.iload 11, 2) := by decide +kernel
theorem dX11_booth_159 : decode cX11_booth 159 = .ok (.isub, 1) := by decide +kernel
theorem dX11_booth_160 : decode cX11_booth 160 = .ok (.goto 5, 3) := by decide +kernel
theorem dX11_booth_163 : decode cX11_booth 163 = .ok (.iload 9, 2) := by decide +kernel
theorem dX11_booth_165 : decode cX11_booth 165 = .ok (.istore 9, 2) := by decide +kernel
theorem dX11_booth_167 : decode cX11_booth 167 = .ok (.iinc 10 1, 3) := by decide +kernel
theorem dX11_booth_170 : decode cX11_booth 170 = .ok (.goto (-71), 3) := by decide +kernel
theorem dX11_booth_173 : decode cX11_booth 173 = .ok (.iload 5, 2) := by decide +kernel
theorem dX11_booth_175 : decode cX11_booth 175 = .ok (.ifCond .ne 8, 3) := by decide +kernel
theorem dX11_booth_178 : decode cX11_booth 178 = .ok (.iload 8, 2) := by decide +kernel
theorem dX11_booth_180 : decode cX11_booth 180 = .ok (.goto 22, 3) := by decide +kernel
theorem dX11_booth_183 : decode cX11_booth 183 = .ok (.iload 5, 2) := by decide +kernel
theorem dX11_booth_185 : decode cX11_booth 185 = .ok (.iconst 1, 1) := by decide +kernel
theorem dX11_booth_186 : decode cX11_booth 186 = .ok (.if_icmp .ne 14, 3) := by decide +kernel
theorem dX11_booth_189 : decode cX11_booth 189 = .ok (.aload_n 0, 1) := by decide +kernel
theorem dX11_booth_190 : decode cX11_booth 190 = .ok (.iload 4, 2) := by decide +kernel
theorem dX11_booth_192 : decode cX11_booth 192 = .ok (.iload 8, 2) := by decide +kernel
theorem dX11_booth_194 : decode cX11_booth 194 = .ok (.invokevirtual 227, 3) := by decide +kernel
theorem dX11_booth_197 : decode cX11_booth 197 = .ok (.goto 5, 3) := by decide +kernel
theorem dX11_booth_200 : decode cX11_booth 200 = .ok (.iload 9, 2) := by decide +kernel
theorem dX11_booth_202 : decode cX11_booth 202 = .ok (.ireturn, 1) := by decide +kernel
theorem dX11_held_0 : decode cX11_held 0 = .ok (.iconst 0, 1) := by decide +kernel
theorem dX11_held_1 : decode cX11_held 1 = .ok (.istore_n 3, 1) := by decide +kernel
theorem dX11_held_2 : decode cX11_held 2 = .ok (.iconst 0, 1) := by decide +kernel
theorem dX11_held_3 : decode cX11_held 3 = .ok (.istore 4, 2) := by decide +kernel
theorem dX11_held_5 : decode cX11_held 5 = .ok (.iload 4, 2) := by decide +kernel
theorem dX11_held_7 : decode cX11_held 7 = .ok (.iload_n 2, 1) := by decide +kernel
theorem dX11_held_8 : decode cX11_held 8 = .ok (.if_icmp .gt 75, 3) := by decide +kernel
theorem dX11_held_11 : decode cX11_held 11 = .ok (.iload 4, 2) := by decide +kernel
theorem dX11_held_13 : decode cX11_held 13 = .ok (.iload_n 1, 1) := by decide +kernel
theorem dX11_held_14 : decode cX11_held 14 = .ok (.if_icmp .ge 10, 3) := by decide +kernel
theorem dX11_held_17 : decode cX11_held 17 = .ok (.iload 4, 2) := by decide +kernel
theorem dX11_held_19 : decode cX11_held 19 = .ok (.iconst 1, 1) := by decide +kernel
theorem dX11_held_20 : decode cX11_held 20 = .ok (.iadd, 1) := by decide +kernel
theorem dX11_held_21 : decode cX11_held 21 = .ok (.goto 4, 3) := by decide +kernel
theorem dX11_held_24 : decode cX11_held 24 = .ok (.iload_n 1, 1) := by decide +kernel
theorem dX11_held_25 : decode cX11_held 25 = .ok (.istore 5, 2) := by decide +kernel
theorem dX11_held_27 : decode cX11_held 27 = .ok (.iconst 0, 1) := by decide +kernel
theorem dX11_held_28 : decode cX11_held 28 = .ok (.istore 6, 2) := by decide +kernel
theorem dX11_held_30 : decode cX11_held 30 = .ok (.iload 6, 2) := by decide +kernel
theorem dX11_held_32 : decode cX11_held 32 = .ok (.iload_n 1, 1) := by decide +kernel
theorem dX11_held_33 : decode cX11_held 33 = .ok (.if_icmp .ge 31, 3) := by decide +kernel
theorem dX11_held_36 : decode cX11_held 36 = .ok (.iload 5, 2) := by decide +kernel
theorem dX11_held_38 : decode cX11_held 38 = .ok (.aload_n 0, 1) := by decide +kernel
theorem dX11_held_39 : decode cX11_held 39 = .ok (.getfield 62, 3) := by decide +kernel
theorem dX11_held_42 : decode cX11_held 42 = .ok (.iload 6, 2) := by decide +kernel
theorem dX11_held_44 : decode cX11_held 44 = .ok (.iaload, 1) := by decide +kernel
theorem dX11_held_45 : decode cX11_held 45 = .ok (.iload 4, 2) := by decide +kernel
theorem dX11_held_47 : decode cX11_held 47 = .ok (.if_icmp .gt 7, 3) := by decide +kernel
theorem dX11_held_50 : decode cX11_held 50 = .ok (.iconst 1, 1) := by decide +kernel
theorem dX11_held_51 : decode cX11_held 51 = .ok (.goto 4, 3) := by decide +kernel
theorem dX11_held_54 : decode cX11_held 54 = .ok (.iconst 0, 1) := by decide +kernel
theorem dX11_held_55 : decode cX11_held 55 = .ok (.isub, 1) := by decide +kernel
theorem dX11_held_56 : decode cX11_held 56 = .ok (.istore 5, 2) := by decide +kernel
theorem dX11_held_58 : decode cX11_held 58 = .ok (.iinc 6 1, 3) := by decide +kernel
theorem dX11_held_61 : decode cX11_held 61 = .ok (.goto (-31), 3) := by decide +kernel
theorem dX11_held_64 : decode cX11_held 64 = .ok (.iload 5, 2) := by decide +kernel
theorem dX11_held_66 : decode cX11_held 66 = .ok (.iload_n 3, 1) := by decide +kernel
theorem dX11_held_67 : decode cX11_held 67 = .ok (.if_icmp .le 8, 3) := by decide +kernel
theorem dX11_held_70 : decode cX11_held 70 = .ok (.iload 5, 2) := by decide +kernel
theorem dX11_held_72 : decode cX11_held 72 = .ok (.goto 4, 3) := by decide +kernel
theorem dX11_held_75 : decode cX11_held 75 = .ok (.iload_n 3, 1) := by decide +kernel
theorem dX11_held_76 : decode cX11_held 76 = .ok (.istore_n 3, 1) := by decide +kernel
theorem dX11_held_77 : decode cX11_held 77 = .ok (.iinc 4 1, 3) := by decide +kernel
theorem dX11_held_80 : decode cX11_held 80 = .ok (.goto (-75), 3) := by decide +kernel
theorem dX11_held_83 : decode cX11_held 83 = .ok (.iload_n 3, 1) := by decide +kernel
theorem dX11_held_84 : decode cX11_held 84 = .ok (.ireturn, 1) := by decide +kernel
theorem dX11_sheet_0 : decode cX11_sheet 0 = .ok (.aload_n 0, 1) := by decide +kernel
theorem dX11_sheet_1 : decode cX11_sheet 1 = .ok (.iconst 0, 1) := by decide +kernel
theorem dX11_sheet_2 : decode cX11_sheet 2 = .ok (.putfield 65, 3) := by decide +kernel
theorem dX11_sheet_5 : decode cX11_sheet 5 = .ok (.iload_n 1, 1) := by decide +kernel
theorem dX11_sheet_6 : decode cX11_sheet 6 = .ok (.invokestatic 81, 3) := by decide +kernel
theorem dX11_sheet_9 : decode cX11_sheet 9 = .ok (.ifCond .ne 5, 3) := by decide +kernel
theorem dX11_sheet_12 : decode cX11_sheet 12 = .ok (.iconst (-1), 1) := by decide +kernel
theorem dX11_sheet_13 : decode cX11_sheet 13 = .ok (.ireturn, 1) := by decide +kernel
theorem dX11_sheet_14 : decode cX11_sheet 14 = .ok (.iload_n 2, 1) := by decide +kernel
theorem dX11_sheet_15 : decode cX11_sheet 15 = .ok (.invokestatic 85, 3) := by decide +kernel
theorem dX11_sheet_18 : decode cX11_sheet 18 = .ok (.ifCond .eq 9, 3) := by decide +kernel
theorem dX11_sheet_21 : decode cX11_sheet 21 = .ok (.iload_n 3, 1) := by decide +kernel
theorem dX11_sheet_22 : decode cX11_sheet 22 = .ok (.bipush 120, 2) := by decide +kernel
theorem dX11_sheet_24 : decode cX11_sheet 24 = .ok (.if_icmp .le 6, 3) := by decide +kernel
theorem dX11_sheet_27 : decode cX11_sheet 27 = .ok (.bipush (-2), 2) := by decide +kernel
theorem dX11_sheet_29 : decode cX11_sheet 29 = .ok (.ireturn, 1) := by decide +kernel
theorem dX11_sheet_30 : decode cX11_sheet 30 = .ok (.iload_n 3, 1) := by decide +kernel
theorem dX11_sheet_31 : decode cX11_sheet 31 = .ok (.ifCond .ge 9, 3) := by decide +kernel
theorem dX11_sheet_34 : decode cX11_sheet 34 = .ok (.aload_n 0, 1) := by decide +kernel
theorem dX11_sheet_35 : decode cX11_sheet 35 = .ok (.iconst 4, 1) := by decide +kernel
theorem dX11_sheet_36 : decode cX11_sheet 36 = .ok (.invokevirtual 92, 3) := by decide +kernel
theorem dX11_sheet_39 : decode cX11_sheet 39 = .ok (.ireturn, 1) := by decide +kernel
theorem dX11_sheet_40 : decode cX11_sheet 40 = .ok (.aload_n 0, 1) := by decide +kernel
theorem dX11_sheet_41 : decode cX11_sheet 41 = .ok (.getfield 9, 3) := by decide +kernel
theorem dX11_sheet_44 : decode cX11_sheet 44 = .ok (.iload_n 1, 1) := by decide +kernel
theorem dX11_sheet_45 : decode cX11_sheet 45 = .ok (.iload_n 2, 1) := by decide +kernel
theorem dX11_sheet_46 : decode cX11_sheet 46 = .ok (.iastore, 1) := by decide +kernel
theorem dX11_sheet_47 : decode cX11_sheet 47 = .ok (.aload_n 0, 1) := by decide +kernel
theorem dX11_sheet_48 : decode cX11_sheet 48 = .ok (.getfield 13, 3) := by decide +kernel
theorem dX11_sheet_51 : decode cX11_sheet 51 = .ok (.iload_n 1, 1) := by decide +kernel
theorem dX11_sheet_52 : decode cX11_sheet 52 = .ok (.iload_n 3, 1) := by decide +kernel
theorem dX11_sheet_53 : decode cX11_sheet 53 = .ok (.iastore, 1) := by decide +kernel
theorem dX11_sheet_54 : decode cX11_sheet 54 = .ok (.iconst 0, 1) := by decide +kernel
theorem dX11_sheet_55 : decode cX11_sheet 55 = .ok (.istore 4, 2) := by decide +kernel
theorem dX11_sheet_57 : decode cX11_sheet 57 = .ok (.iload 4, 2) := by decide +kernel
theorem dX11_sheet_59 : decode cX11_sheet 59 = .ok (.bipush 120, 2) := by decide +kernel
theorem dX11_sheet_61 : decode cX11_sheet 61 = .ok (.if_icmp .ge 22, 3) := by decide +kernel
theorem dX11_sheet_64 : decode cX11_sheet 64 = .ok (.aload_n 0, 1) := by decide +kernel
theorem dX11_sheet_65 : decode cX11_sheet 65 = .ok (.getfield 16, 3) := by decide +kernel
theorem dX11_sheet_68 : decode cX11_sheet 68 = .ok (.bipush 120, 2) := by decide +kernel
theorem dX11_sheet_70 : decode cX11_sheet 70 = .ok (.iload_n 1, 1) := by decide +kernel
theorem dX11_sheet_71 : decode cX11_sheet 71 = .ok (.imul, 1) := by decide +kernel
theorem dX11_sheet_72 : decode cX11_sheet 72 = .ok (.iload 4, 2) := by decide +kernel
theorem dX11_sheet_74 : decode cX11_sheet 74 = .ok (.iadd, 1) := by decide +kernel
theorem dX11_sheet_75 : decode cX11_sheet 75 = .ok (.iconst 0, 1) := by decide +kernel
theorem dX11_sheet_76 : decode cX11_sheet 76 = .ok (.iastore, 1) := by decide +kernel
theorem dX11_sheet_77 : decode cX11_sheet 77 = .ok (.iinc 4 1, 3) := by decide +kernel
theorem dX11_sheet_80 : decode cX11_sheet 80 = .ok (.goto (-23), 3) := by decide +kernel
theorem dX11_sheet_83 : decode cX11_sheet 83 = .ok (.iconst 1, 1) := by decide +kernel
theorem dX11_sheet_84 : decode cX11_sheet 84 = .ok (.ireturn, 1) := by decide +kernel
theorem dX11_lose_0 : decode cX11_lose 0 = .ok (.iload_n 1, 1) := by decide +kernel
theorem dX11_lose_1 : decode cX11_lose 1 = .ok (.invokestatic 81, 3) := by decide +kernel
theorem dX11_lose_4 : decode cX11_lose 4 = .ok (.ifCond .ne 5, 3) := by decide +kernel
theorem dX11_lose_7 : decode cX11_lose 7 = .ok (.iconst (-1), 1) := by decide +kernel
theorem dX11_lose_8 : decode cX11_lose 8 = .ok (.ireturn, 1) := by decide +kernel
theorem dX11_lose_9 : decode cX11_lose 9 = .ok (.aload_n 0, 1) := by decide +kernel
theorem dX11_lose_10 : decode cX11_lose 10 = .ok (.getfield 9, 3) := by decide +kernel
theorem dX11_lose_13 : decode cX11_lose 13 = .ok (.iload_n 1, 1) := by decide +kernel
theorem dX11_lose_14 : decode cX11_lose 14 = .ok (.iaload, 1) := by decide +kernel
theorem dX11_lose_15 : decode cX11_lose 15 = .ok (.bipush (-9), 2) := by decide +kernel
theorem dX11_lose_17 : decode cX11_lose 17 = .ok (.if_icmp .ne 7, 3) := by decide +kernel
theorem dX11_lose_20 : decode cX11_lose 20 = .ok (.iconst 0, 1) := by decide +kernel
theorem dX11_lose_21 : decode cX11_lose 21 = .ok (.goto 4, 3) := by decide +kernel
theorem dX11_lose_24 : decode cX11_lose 24 = .ok (.iconst 1, 1) := by decide +kernel
theorem dX11_lose_25 : decode cX11_lose 25 = .ok (.istore_n 2, 1) := by decide +kernel
theorem dX11_lose_26 : decode cX11_lose 26 = .ok (.aload_n 0, 1) := by decide +kernel
theorem dX11_lose_27 : decode cX11_lose 27 = .ok (.getfield 9, 3) := by decide +kernel
theorem dX11_lose_30 : decode cX11_lose 30 = .ok (.iload_n 1, 1) := by decide +kernel
theorem dX11_lose_31 : decode cX11_lose 31 = .ok (.bipush (-9), 2) := by decide +kernel
theorem dX11_lose_33 : decode cX11_lose 33 = .ok (.iastore, 1) := by decide +kernel
theorem dX11_lose_34 : decode cX11_lose 34 = .ok (.iload_n 2, 1) := by decide +kernel
theorem dX11_lose_35 : decode cX11_lose 35 = .ok (.ireturn, 1) := by decide +kernel
theorem dX11_put_0 : decode cX11_put 0 = .ok (.aload_n 0, 1) := by decide +kernel
theorem dX11_put_1 : decode cX11_put 1 = .ok (.iconst 0, 1) := by decide +kernel
theorem dX11_put_2 : decode cX11_put 2 = .ok (.putfield 65, 3) := by decide +kernel
theorem dX11_put_5 : decode cX11_put 5 = .ok (.iload_n 1, 1) := by decide +kernel
theorem dX11_put_6 : decode cX11_put 6 = .ok (.invokestatic 81, 3) := by decide +kernel
theorem dX11_put_9 : decode cX11_put 9 = .ok (.ifCond .ne 5, 3) := by decide +kernel
theorem dX11_put_12 : decode cX11_put 12 = .ok (.iconst (-1), 1) := by decide +kernel
theorem dX11_put_13 : decode cX11_put 13 = .ok (.ireturn, 1) := by decide +kernel
theorem dX11_put_14 : decode cX11_put 14 = .ok (.aload_n 0, 1) := by decide +kernel
theorem dX11_put_15 : decode cX11_put 15 = .ok (.getfield 9, 3) := by decide +kernel
theorem dX11_put_18 : decode cX11_put 18 = .ok (.iload_n 1, 1) := by decide +kernel
theorem dX11_put_19 : decode cX11_put 19 = .ok (.iaload, 1) := by decide +kernel
theorem dX11_put_20 : decode cX11_put 20 = .ok (.bipush (-9), 2) := by decide +kernel
theorem dX11_put_22 : decode cX11_put 22 = .ok (.if_icmp .ne 9, 3) := by decide +kernel
theorem dX11_put_25 : decode cX11_put 25 = .ok (.aload_n 0, 1) := by decide +kernel
theorem dX11_put_26 : decode cX11_put 26 = .ok (.iconst 1, 1) := by decide +kernel
theorem dX11_put_27 : decode cX11_put 27 = .ok (.invokevirtual 92, 3) := by decide +kernel
theorem dX11_put_30 : decode cX11_put 30 = .ok (.ireturn, 1) := by decide +kernel
theorem dX11_put_31 : decode cX11_put 31 = .ok (.iload_n 2, 1) := by decide +kernel
theorem dX11_put_32 : decode cX11_put 32 = .ok (.iconst 0, 1) := by decide +kernel
theorem dX11_put_33 : decode cX11_put 33 = .ok (.aload_n 0, 1) := by decide +kernel
theorem dX11_put_34 : decode cX11_put 34 = .ok (.getfield 13, 3) := by decide +kernel
theorem dX11_put_37 : decode cX11_put 37 = .ok (.iload_n 1, 1) := by decide +kernel
theorem dX11_put_38 : decode cX11_put 38 = .ok (.iaload, 1) := by decide +kernel
theorem dX11_put_39 : decode cX11_put 39 = .ok (.iconst 1, 1) := by decide +kernel
theorem dX11_put_40 : decode cX11_put 40 = .ok (.isub, 1) := by decide +kernel
theorem dX11_put_41 : decode cX11_put 41 = .ok (.invokestatic 71, 3) := by decide +kernel
theorem dX11_put_44 : decode cX11_put 44 = .ok (.ifCond .ne 9, 3) := by decide +kernel
theorem dX11_put_47 : decode cX11_put 47 = .ok (.aload_n 0, 1) := by decide +kernel
theorem dX11_put_48 : decode cX11_put 48 = .ok (.iconst 3, 1) := by decide +kernel
theorem dX11_put_49 : decode cX11_put 49 = .ok (.invokevirtual 92, 3) := by decide +kernel
theorem dX11_put_52 : decode cX11_put 52 = .ok (.ireturn, 1) := by decide +kernel
theorem dX11_put_53 : decode cX11_put 53 = .ok (.aload_n 0, 1) := by decide +kernel
theorem dX11_put_54 : decode cX11_put 54 = .ok (.getfield 16, 3) := by decide +kernel
theorem dX11_put_57 : decode cX11_put 57 = .ok (.bipush 120, 2) := by decide +kernel
theorem dX11_put_59 : decode cX11_put 59 = .ok (.iload_n 1, 1) := by decide +kernel
theorem dX11_put_60 : decode cX11_put 60 = .ok (.imul, 1) := by decide +kernel
theorem dX11_put_61 : decode cX11_put 61 = .ok (.iload_n 2, 1) := by decide +kernel
theorem dX11_put_62 : decode cX11_put 62 = .ok (.iadd, 1) := by decide +kernel
theorem dX11_put_63 : decode cX11_put 63 = .ok (.aload_n 0, 1) := by decide +kernel
theorem dX11_put_64 : decode cX11_put 64 = .ok (.getfield 9, 3) := by decide +kernel
theorem dX11_put_67 : decode cX11_put 67 = .ok (.iload_n 1, 1) := by decide +kernel
theorem dX11_put_68 : decode cX11_put 68 = .ok (.iaload, 1) := by decide +kernel
theorem dX11_put_69 : decode cX11_put 69 = .ok (.ifCond .ne 8, 3) := by decide +kernel
theorem dX11_put_72 : decode cX11_put 72 = .ok (.iload_n 3, 1) := by decide +kernel
theorem dX11_put_73 : decode cX11_put 73 = .ok (.i2b, 1) := by decide +kernel
theorem dX11_put_74 : decode cX11_put 74 = .ok (.goto 19, 3) := by decide +kernel
theorem dX11_put_77 : decode cX11_put 77 = .ok (.aload_n 0, 1) := by decide +kernel
theorem dX11_put_78 : decode cX11_put 78 = .ok (.getfield 9, 3) := by decide +kernel
theorem dX11_put_81 : decode cX11_put 81 = .ok (.iload_n 1, 1) := by decide +kernel
theorem dX11_put_82 : decode cX11_put 82 = .ok (.iaload, 1) := by decide +kernel
theorem dX11_put_83 : decode cX11_put 83 = .ok (.iconst 1, 1) := by decide +kernel
theorem dX11_put_84 : decode cX11_put 84 = .ok (.if_icmp .ne 8, 3) := by decide +kernel
theorem dX11_put_87 : decode cX11_put 87 = .ok (.iload_n 3, 1) := by decide +kernel
theorem dX11_put_88 : decode cX11_put 88 = .ok (.i2s, 1) := by decide +kernel
theorem dX11_put_89 : decode cX11_put 89 = .ok (.goto 4, 3) := by decide +kernel
theorem dX11_put_92 : decode cX11_put 92 = .ok (.iload_n 3, 1) := by decide +kernel
theorem dX11_put_93 : decode cX11_put 93 = .ok (.iastore, 1) := by decide +kernel
theorem dX11_put_94 : decode cX11_put 94 = .ok (.iconst 1, 1) := by decide +kernel
theorem dX11_put_95 : decode cX11_put 95 = .ok (.ireturn, 1) := by decide +kernel
theorem dX11_cell_0 : decode cX11_cell 0 = .ok (.aload_n 0, 1) := by decide +kernel
theorem dX11_cell_1 : decode cX11_cell 1 = .ok (.iconst 0, 1) := by decide +kernel
theorem dX11_cell_2 : decode cX11_cell 2 = .ok (.putfield 65, 3) := by decide +kernel
theorem dX11_cell_5 : decode cX11_cell 5 = .ok (.iload_n 1, 1) := by decide +kernel
theorem dX11_cell_6 : decode cX11_cell 6 = .ok (.invokestatic 81, 3) := by decide +kernel
theorem dX11_cell_9 : decode cX11_cell 9 = .ok (.ifCond .eq 10, 3) := by decide +kernel
theorem dX11_cell_12 : decode cX11_cell 12 = .ok (.iload_n 3, 1) := by decide +kernel
theorem dX11_cell_13 : decode cX11_cell 13 = .ok (.invokestatic 85, 3) := by decide +kernel
theorem dX11_cell_16 : decode cX11_cell 16 = .ok (.ifCond .ne 7, 3) := by decide +kernel
theorem dX11_cell_19 : decode cX11_cell 19 = .ok (.ldc2_w 69, 3) := by decide +kernel
theorem dX11_cell_22 : decode cX11_cell 22 = .ok (.lreturn, 1) := by decide +kernel
theorem dX11_cell_23 : decode cX11_cell 23 = .ok (.aload_n 0, 1) := by decide +kernel
theorem dX11_cell_24 : decode cX11_cell 24 = .ok (.getfield 9, 3) := by decide +kernel
theorem dX11_cell_27 : decode cX11_cell 27 = .ok (.iload_n 1, 1) := by decide +kernel
theorem dX11_cell_28 : decode cX11_cell 28 = .ok (.iaload, 1) := by decide +kernel
theorem dX11_cell_29 : decode cX11_cell 29 = .ok (.bipush (-9), 2) := by decide +kernel
theorem dX11_cell_31 : decode cX11_cell 31 = .ok (.if_icmp .eq 19, 3) := by decide +kernel
theorem dX11_cell_34 : decode cX11_cell 34 = .ok (.aload_n 0, 1) := by decide +kernel
theorem dX11_cell_35 : decode cX11_cell 35 = .ok (.getfield 9, 3) := by decide +kernel
theorem dX11_cell_38 : decode cX11_cell 38 = .ok (.iload_n 1, 1) := by decide +kernel
theorem dX11_cell_39 : decode cX11_cell 39 = .ok (.iaload, 1) := by decide +kernel
theorem dX11_cell_40 : decode cX11_cell 40 = .ok (.iload_n 3, 1) := by decide +kernel
theorem dX11_cell_41 : decode cX11_cell 41 = .ok (.if_icmp .eq 9, 3) := by decide +kernel
theorem dX11_cell_44 : decode cX11_cell 44 = .ok (.aload_n 0, 1) := by decide +kernel
theorem dX11_cell_45 : decode cX11_cell 45 = .ok (.iconst 2, 1) := by decide +kernel
theorem dX11_cell_46 : decode cX11_cell 46 = .ok (.invokevirtual 154, 3) := by decide +kernel
theorem dX11_cell_49 : decode cX11_cell 49 = .ok (.lreturn, 1) := by decide +kernel
theorem dX11_cell_50 : decode cX11_cell 50 = .ok (.aload_n 0, 1) := by decide +kernel
theorem dX11_cell_51 : decode cX11_cell 51 = .ok (.getfield 9, 3) := by decide +kernel
theorem dX11_cell_54 : decode cX11_cell 54 = .ok (.iload_n 1, 1) := by decide +kernel
theorem dX11_cell_55 : decode cX11_cell 55 = .ok (.iaload, 1) := by decide +kernel
theorem dX11_cell_56 : decode cX11_cell 56 = .ok (.bipush (-9), 2) := by decide +kernel
theorem dX11_cell_58 : decode cX11_cell 58 = .ok (.if_icmp .ne 9, 3) := by decide +kernel
theorem dX11_cell_61 : decode cX11_cell 61 = .ok (.aload_n 0, 1) := by decide +kernel
theorem dX11_cell_62 : decode cX11_cell 62 = .ok (.iconst 1, 1) := by decide +kernel
theorem dX11_cell_63 : decode cX11_cell 63 = .ok (.invokevirtual 154, 3) := by decide +kernel
theorem dX11_cell_66 : decode cX11_cell 66 = .ok (.lreturn, 1) := by decide +kernel
theorem dX11_cell_67 : decode cX11_cell 67 = .ok (.iload_n 2, 1) := by decide +kernel
theorem dX11_cell_68 : decode cX11_cell 68 = .ok (.iconst 0, 1) := by decide +kernel
theorem dX11_cell_69 : decode cX11_cell 69 = .ok (.aload_n 0, 1) := by decide +kernel
theorem dX11_cell_70 : decode cX11_cell 70 = .ok (.getfield 13, 3) := by decide +kernel
theorem dX11_cell_73 : decode cX11_cell 73 = .ok (.iload_n 1, 1) := by decide +kernel
theorem dX11_cell_74 : decode cX11_cell 74 = .ok (.iaload, 1) := by decide +kernel
theorem dX11_cell_75 : decode cX11_cell 75 = .ok (.iconst 1, 1) := by decide +kernel
theorem dX11_cell_76 : decode cX11_cell 76 = .ok (.isub, 1) := by decide +kernel
theorem dX11_cell_77 : decode cX11_cell 77 = .ok (.invokestatic 71, 3) := by decide +kernel
theorem dX11_cell_80 : decode cX11_cell 80 = .ok (.ifCond .ne 9, 3) := by decide +kernel
theorem dX11_cell_83 : decode cX11_cell 83 = .ok (.aload_n 0, 1) := by decide +kernel
theorem dX11_cell_84 : decode cX11_cell 84 = .ok (.iconst 3, 1) := by decide +kernel
theorem dX11_cell_85 : decode cX11_cell 85 = .ok (.invokevirtual 154, 3) := by decide +kernel
theorem dX11_cell_88 : decode cX11_cell 88 = .ok (.lreturn, 1) := by decide +kernel
theorem dX11_cell_89 : decode cX11_cell 89 = .ok (.aload_n 0, 1) := by decide +kernel
theorem dX11_cell_90 : decode cX11_cell 90 = .ok (.getfield 16, 3) := by decide +kernel
theorem dX11_cell_93 : decode cX11_cell 93 = .ok (.bipush 120, 2) := by decide +kernel
theorem dX11_cell_95 : decode cX11_cell 95 = .ok (.iload_n 1, 1) := by decide +kernel
theorem dX11_cell_96 : decode cX11_cell 96 = .ok (.imul, 1) := by decide +kernel
theorem dX11_cell_97 : decode cX11_cell 97 = .ok (.iload_n 2, 1) := by decide +kernel
theorem dX11_cell_98 : decode cX11_cell 98 = .ok (.iadd, 1) := by decide +kernel
theorem dX11_cell_99 : decode cX11_cell 99 = .ok (.iaload, 1) := by decide +kernel
theorem dX11_cell_100 : decode cX11_cell 100 = .ok (.i2l, 1) := by decide +kernel
theorem dX11_cell_101 : decode cX11_cell 101 = .ok (.lreturn, 1) := by decide +kernel
theorem dX11_copy_0 : decode cX11_copy 0 = .ok (.aload_n 0, 1) := by decide +kernel
theorem dX11_copy_1 : decode cX11_copy 1 = .ok (.iconst 0, 1) := by decide +kernel
theorem dX11_copy_2 : decode cX11_copy 2 = .ok (.putfield 65, 3) := by decide +kernel
theorem dX11_copy_5 : decode cX11_copy 5 = .ok (.iload_n 1, 1) := by decide +kernel
theorem dX11_copy_6 : decode cX11_copy 6 = .ok (.invokestatic 81, 3) := by decide +kernel
theorem dX11_copy_9 : decode cX11_copy 9 = .ok (.ifCond .eq 10, 3) := by decide +kernel
theorem dX11_copy_12 : decode cX11_copy 12 = .ok (.iload_n 3, 1) := by decide +kernel
theorem dX11_copy_13 : decode cX11_copy 13 = .ok (.invokestatic 81, 3) := by decide +kernel
theorem dX11_copy_16 : decode cX11_copy 16 = .ok (.ifCond .ne 5, 3) := by decide +kernel
theorem dX11_copy_19 : decode cX11_copy 19 = .ok (.iconst (-1), 1) := by decide +kernel
theorem dX11_copy_20 : decode cX11_copy 20 = .ok (.ireturn, 1) := by decide +kernel
theorem dX11_copy_21 : decode cX11_copy 21 = .ok (.aload_n 0, 1) := by decide +kernel
theorem dX11_copy_22 : decode cX11_copy 22 = .ok (.getfield 9, 3) := by decide +kernel
theorem dX11_copy_25 : decode cX11_copy 25 = .ok (.iload_n 1, 1) := by decide +kernel
theorem dX11_copy_26 : decode cX11_copy 26 = .ok (.iaload, 1) := by decide +kernel
theorem dX11_copy_27 : decode cX11_copy 27 = .ok (.bipush (-9), 2) := by decide +kernel
theorem dX11_copy_29 : decode cX11_copy 29 = .ok (.if_icmp .eq 14, 3) := by decide +kernel
theorem dX11_copy_32 : decode cX11_copy 32 = .ok (.aload_n 0, 1) := by decide +kernel
theorem dX11_copy_33 : decode cX11_copy 33 = .ok (.getfield 9, 3) := by decide +kernel
theorem dX11_copy_36 : decode cX11_copy 36 = .ok (.iload_n 3, 1) := by decide +kernel
theorem dX11_copy_37 : decode cX11_copy 37 = .ok (.iaload, 1) := by decide +kernel
theorem dX11_copy_38 : decode cX11_copy 38 = .ok (.bipush (-9), 2) := by decide +kernel
theorem dX11_copy_40 : decode cX11_copy 40 = .ok (.if_icmp .ne 9, 3) := by decide +kernel
theorem dX11_copy_43 : decode cX11_copy 43 = .ok (.aload_n 0, 1) := by decide +kernel
theorem dX11_copy_44 : decode cX11_copy 44 = .ok (.iconst 1, 1) := by decide +kernel
theorem dX11_copy_45 : decode cX11_copy 45 = .ok (.invokevirtual 92, 3) := by decide +kernel
theorem dX11_copy_48 : decode cX11_copy 48 = .ok (.ireturn, 1) := by decide +kernel
theorem dX11_copy_49 : decode cX11_copy 49 = .ok (.aload_n 0, 1) := by decide +kernel
theorem dX11_copy_50 : decode cX11_copy 50 = .ok (.getfield 9, 3) := by decide +kernel
theorem dX11_copy_53 : decode cX11_copy 53 = .ok (.iload_n 1, 1) := by decide +kernel
theorem dX11_copy_54 : decode cX11_copy 54 = .ok (.iaload, 1) := by decide +kernel
theorem dX11_copy_55 : decode cX11_copy 55 = .ok (.aload_n 0, 1) := by decide +kernel
theorem dX11_copy_56 : decode cX11_copy 56 = .ok (.getfield 9, 3) := by decide +kernel
theorem dX11_copy_59 : decode cX11_copy 59 = .ok (.iload_n 3, 1) := by decide +kernel
theorem dX11_copy_60 : decode cX11_copy 60 = .ok (.iaload, 1) := by decide +kernel
theorem dX11_copy_61 : decode cX11_copy 61 = .ok (.if_icmp .eq 9, 3) := by decide +kernel
theorem dX11_copy_64 : decode cX11_copy 64 = .ok (.aload_n 0, 1) := by decide +kernel
theorem dX11_copy_65 : decode cX11_copy 65 = .ok (.iconst 2, 1) := by decide +kernel
theorem dX11_copy_66 : decode cX11_copy 66 = .ok (.invokevirtual 92, 3) := by decide +kernel
theorem dX11_copy_69 : decode cX11_copy 69 = .ok (.ireturn, 1) := by decide +kernel
theorem dX11_copy_70 : decode cX11_copy 70 = .ok (.iload_n 2, 1) := by decide +kernel
theorem dX11_copy_71 : decode cX11_copy 71 = .ok (.ifCond .lt 38, 3) := by decide +kernel
theorem dX11_copy_74 : decode cX11_copy 74 = .ok (.iload 4, 2) := by decide +kernel
theorem dX11_copy_76 : decode cX11_copy 76 = .ok (.ifCond .lt 33, 3) := by decide +kernel
theorem dX11_copy_79 : decode cX11_copy 79 = .ok (.iload 5, 2) := by decide +kernel
theorem dX11_copy_81 : decode cX11_copy 81 = .ok (.ifCond .lt 28, 3) := by decide +kernel
theorem dX11_copy_84 : decode cX11_copy 84 = .ok (.iload_n 2, 1) := by decide +kernel
theorem dX11_copy_85 : decode cX11_copy 85 = .ok (.aload_n 0, 1) := by decide +kernel
theorem dX11_copy_86 : decode cX11_copy 86 = .ok (.getfield 13, 3) := by decide +kernel
theorem dX11_copy_89 : decode cX11_copy 89 = .ok (.iload_n 1, 1) := by decide +kernel
theorem dX11_copy_90 : decode cX11_copy 90 = .ok (.iaload, 1) := by decide +kernel
theorem dX11_copy_91 : decode cX11_copy 91 = .ok (.if_icmp .gt 18, 3) := by decide +kernel
theorem dX11_copy_94 : decode cX11_copy 94 = .ok (.iload 4, 2) := by decide +kernel
theorem dX11_copy_96 : decode cX11_copy 96 = .ok (.aload_n 0, 1) := by decide +kernel
theorem dX11_copy_97 : decode cX11_copy 97 = .ok (.getfield 13, 3) := by decide +kernel
theorem dX11_copy_100 : decode cX11_copy 100 = .ok (.iload_n 3, 1) := by decide +kernel
theorem dX11_copy_101 : decode cX11_copy 101 = .ok (.iaload, 1) := by decide +kernel
theorem dX11_copy_102 : decode cX11_copy 102 = .ok (.if_icmp .gt 7, 3) := by decide +kernel
theorem dX11_copy_105 : decode cX11_copy 105 = .ok (.iconst 1, 1) := by decide +kernel
theorem dX11_copy_106 : decode cX11_copy 106 = .ok (.goto 4, 3) := by decide +kernel
theorem dX11_copy_109 : decode cX11_copy 109 = .ok (.iconst 0, 1) := by decide +kernel
theorem dX11_copy_110 : decode cX11_copy 110 = .ok (.istore 6, 2) := by decide +kernel
theorem dX11_copy_112 : decode cX11_copy 112 = .ok (.iload 6, 2) := by decide +kernel
theorem dX11_copy_114 : decode cX11_copy 114 = .ok (.ifCond .eq 30, 3) := by decide +kernel
theorem dX11_copy_117 : decode cX11_copy 117 = .ok (.iload 5, 2) := by decide +kernel
theorem dX11_copy_119 : decode cX11_copy 119 = .ok (.aload_n 0, 1) := by decide +kernel
theorem dX11_copy_120 : decode cX11_copy 120 = .ok (.getfield 13, 3) := by decide +kernel
theorem dX11_copy_123 : decode cX11_copy 123 = .ok (.iload_n 1, 1) := by decide +kernel
theorem dX11_copy_124 : decode cX11_copy 124 = .ok (.iaload, 1) := by decide +kernel
theorem dX11_copy_125 : decode cX11_copy 125 = .ok (.iload_n 2, 1) := by decide +kernel
theorem dX11_copy_126 : decode cX11_copy 126 = .ok (.isub, 1) := by decide +kernel
theorem dX11_copy_127 : decode cX11_copy 127 = .ok (.if_icmp .gt 17, 3) := by decide +kernel
theorem dX11_copy_130 : decode cX11_copy 130 = .ok (.iload 5, 2) := by decide +kernel
theorem dX11_copy_132 : decode cX11_copy 132 = .ok (.aload_n 0, 1) := by decide +kernel
theorem dX11_copy_133 : decode cX11_copy 133 = .ok (.getfield 13, 3) := by decide +kernel
theorem dX11_copy_136 : decode cX11_copy 136 = .ok (.iload_n 3, 1) := by decide +kernel
theorem dX11_copy_137 : decode cX11_copy 137 = .ok (.iaload, 1) := by decide +kernel
theorem dX11_copy_138 : decode cX11_copy 138 = .ok (.iload 4, 2) := by decide +kernel
theorem dX11_copy_140 : decode cX11_copy 140 = .ok (.isub, 1) := by decide +kernel
theorem dX11_copy_141 : decode cX11_copy 141 = .ok (.if_icmp .le 9, 3) := by decide +kernel
theorem dX11_copy_144 : decode cX11_copy 144 = .ok (.aload_n 0, 1) := by decide +kernel
theorem dX11_copy_145 : decode cX11_copy 145 = .ok (.iconst 3, 1) := by decide +kernel
theorem dX11_copy_146 : decode cX11_copy 146 = .ok (.invokevirtual 92, 3) := by decide +kernel
theorem dX11_copy_149 : decode cX11_copy 149 = .ok (.ireturn, 1) := by decide +kernel
theorem dX11_copy_150 : decode cX11_copy 150 = .ok (.iload_n 2, 1) := by decide +kernel
theorem dX11_copy_151 : decode cX11_copy 151 = .ok (.iload 4, 2) := by decide +kernel
theorem dX11_copy_153 : decode cX11_copy 153 = .ok (.if_icmp .ge 7, 3) := by decide +kernel
theorem dX11_copy_156 : decode cX11_copy 156 = .ok (.iconst 1, 1) := by decide +kernel
theorem dX11_copy_157 : decode cX11_copy 157 = .ok (.goto 4, 3) := by decide +kernel
theorem dX11_copy_160 : decode cX11_copy 160 = .ok (.iconst 0, 1) := by decide +kernel
theorem dX11_copy_161 : decode cX11_copy 161 = .ok (.istore 7, 2) := by decide +kernel
theorem dX11_copy_163 : decode cX11_copy 163 = .ok (.iconst 0, 1) := by decide +kernel
theorem dX11_copy_164 : decode cX11_copy 164 = .ok (.istore 8, 2) := by decide +kernel
theorem dX11_copy_166 : decode cX11_copy 166 = .ok (.iload 8, 2) := by decide +kernel
theorem dX11_copy_168 : decode cX11_copy 168 = .ok (.iload 5, 2) := by decide +kernel
theorem dX11_copy_170 : decode cX11_copy 170 = .ok (.if_icmp .ge 57, 3) := by decide +kernel
theorem dX11_copy_173 : decode cX11_copy 173 = .ok (.iload 7, 2) := by decide +kernel
theorem dX11_copy_175 : decode cX11_copy 175 = .ok (.ifCond .eq 13, 3) := by decide +kernel
theorem dX11_copy_178 : decode cX11_copy 178 = .ok (.iload 5, 2) := by decide +kernel
theorem dX11_copy_180 : decode cX11_copy 180 = .ok (.iconst 1, 1) := by decide +kernel
theorem dX11_copy_181 : decode cX11_copy 181 = .ok (.isub, 1) := by decide +kernel
theorem dX11_copy_182 : decode cX11_copy 182 = .ok (.iload 8, 2) := by decide +kernel
theorem dX11_copy_184 : decode cX11_copy 184 = .ok (.isub, 1) := by decide +kernel
theorem dX11_copy_185 : decode cX11_copy 185 = .ok (.goto 5, 3) := by decide +kernel
theorem dX11_copy_188 : decode cX11_copy 188 = .ok (.iload 8, 2) := by decide +kernel
theorem dX11_copy_190 : decode cX11_copy 190 = .ok (.istore 9, 2) := by decide +kernel
theorem dX11_copy_192 : decode cX11_copy 192 = .ok (.aload_n 0, 1) := by decide +kernel
theorem dX11_copy_193 : decode cX11_copy 193 = .ok (.getfield 16, 3) := by decide +kernel
theorem dX11_copy_196 : decode cX11_copy 196 = .ok (.bipush 120, 2) := by decide +kernel
theorem dX11_copy_198 : decode cX11_copy 198 = .ok (.iload_n 3, 1) := by decide +kernel
theorem dX11_copy_199 : decode cX11_copy 199 = .ok (.imul, 1) := by decide +kernel
theorem dX11_copy_200 : decode cX11_copy 200 = .ok (.iload 4, 2) := by decide +kernel
theorem dX11_copy_202 : decode cX11_copy 202 = .ok (.iadd, 1) := by decide +kernel
theorem dX11_copy_203 : decode cX11_copy 203 = .ok (.iload 9, 2) := by decide +kernel
theorem dX11_copy_205 : decode cX11_copy 205 = .ok (.iadd, 1) := by decide +kernel
theorem dX11_copy_206 : decode cX11_copy 206 = .ok (.aload_n 0, 1) := by decide +kernel
theorem dX11_copy_207 : decode cX11_copy 207 = .ok (.getfield 16, 3) := by decide +kernel
theorem dX11_copy_210 : decode cX11_copy 210 = .ok (.bipush 120, 2) := by decide +kernel
theorem dX11_copy_212 : decode cX11_copy 212 = .ok (.iload_n 1, 1) := by decide +kernel
theorem dX11_copy_213 : decode cX11_copy 213 = .ok (.imul, 1) := by decide +kernel
theorem dX11_copy_214 : decode cX11_copy 214 = .ok (.iload_n 2, 1) := by decide +kernel
theorem dX11_copy_215 : decode cX11_copy 215 = .ok (.iadd, 1) := by decide +kernel
theorem dX11_copy_216 : decode cX11_copy 216 = .ok (.iload 9, 2) := by decide +kernel
theorem dX11_copy_218 : decode cX11_copy 218 = .ok (.iadd, 1) := by decide +kernel
theorem dX11_copy_219 : decode cX11_copy 219 = .ok (.iaload, 1) := by decide +kernel
theorem dX11_copy_220 : decode cX11_copy 220 = .ok (.iastore, 1) := by decide +kernel
theorem dX11_copy_221 : decode cX11_copy 221 = .ok (.iinc 8 1, 3) := by decide +kernel
theorem dX11_copy_224 : decode cX11_copy 224 = .ok (.goto (-58), 3) := by decide +kernel
theorem dX11_copy_227 : decode cX11_copy 227 = .ok (.iload 5, 2) := by decide +kernel
theorem dX11_copy_229 : decode cX11_copy 229 = .ok (.ireturn, 1) := by decide +kernel
theorem dX11_begins_0 : decode cX11_begins 0 = .ok (.aload_n 0, 1) := by decide +kernel
theorem dX11_begins_1 : decode cX11_begins 1 = .ok (.bipush 31, 2) := by decide +kernel
theorem dX11_begins_3 : decode cX11_begins 3 = .ok (.aload_n 0, 1) := by decide +kernel
theorem dX11_begins_4 : decode cX11_begins 4 = .ok (.getfield 230, 3) := by decide +kernel
theorem dX11_begins_7 : decode cX11_begins 7 = .ok (.imul, 1) := by decide +kernel
theorem dX11_begins_8 : decode cX11_begins 8 = .ok (.iload_n 1, 1) := by decide +kernel
theorem dX11_begins_9 : decode cX11_begins 9 = .ok (.iadd, 1) := by decide +kernel
theorem dX11_begins_10 : decode cX11_begins 10 = .ok (.putfield 230, 3) := by decide +kernel
theorem dX11_begins_13 : decode cX11_begins 13 = .ok (.return_, 1) := by decide +kernel
theorem dX11_tell_0 : decode cX11_tell 0 = .ok (.aload_n 0, 1) := by decide +kernel
theorem dX11_tell_1 : decode cX11_tell 1 = .ok (.iload_n 1, 1) := by decide +kernel
theorem dX11_tell_2 : decode cX11_tell 2 = .ok (.invokevirtual 145, 3) := by decide +kernel
theorem dX11_tell_5 : decode cX11_tell 5 = .ok (.ifCond .ne 5, 3) := by decide +kernel
theorem dX11_tell_8 : decode cX11_tell 8 = .ok (.iconst (-1), 1) := by decide +kernel
theorem dX11_tell_9 : decode cX11_tell 9 = .ok (.ireturn, 1) := by decide +kernel
theorem dX11_tell_10 : decode cX11_tell 10 = .ok (.aload_n 0, 1) := by decide +kernel
theorem dX11_tell_11 : decode cX11_tell 11 = .ok (.getfield 28, 3) := by decide +kernel
theorem dX11_tell_14 : decode cX11_tell 14 = .ok (.iload_n 1, 1) := by decide +kernel
theorem dX11_tell_15 : decode cX11_tell 15 = .ok (.iaload, 1) := by decide +kernel
theorem dX11_tell_16 : decode cX11_tell 16 = .ok (.istore_n 2, 1) := by decide +kernel
theorem dX11_tell_17 : decode cX11_tell 17 = .ok (.aload_n 0, 1) := by decide +kernel
theorem dX11_tell_18 : decode cX11_tell 18 = .ok (.getfield 25, 3) := by decide +kernel
theorem dX11_tell_21 : decode cX11_tell 21 = .ok (.iload_n 1, 1) := by decide +kernel
theorem dX11_tell_22 : decode cX11_tell 22 = .ok (.iaload, 1) := by decide +kernel
theorem dX11_tell_23 : decode cX11_tell 23 = .ok (.lookupswitch 67 #[(1, 25), (2, 40)], 25) := by decide +kernel
theorem dX11_tell_48 : decode cX11_tell 48 = .ok (.aload_n 0, 1) := by decide +kernel
theorem dX11_tell_49 : decode cX11_tell 49 = .ok (.iconst 2, 1) := by decide +kernel
theorem dX11_tell_50 : decode cX11_tell 50 = .ok (.invokevirtual 233, 3) := by decide +kernel
theorem dX11_tell_53 : decode cX11_tell 53 = .ok (.aload_n 0, 1) := by decide +kernel
theorem dX11_tell_54 : decode cX11_tell 54 = .ok (.iconst 1, 1) := by decide +kernel
theorem dX11_tell_55 : decode cX11_tell 55 = .ok (.invokevirtual 233, 3) := by decide +kernel
theorem dX11_tell_58 : decode cX11_tell 58 = .ok (.iload_n 2, 1) := by decide +kernel
theorem dX11_tell_59 : decode cX11_tell 59 = .ok (.bipush 100, 2) := by decide +kernel
theorem dX11_tell_61 : decode cX11_tell 61 = .ok (.iadd, 1) := by decide +kernel
theorem dX11_tell_62 : decode cX11_tell 62 = .ok (.ireturn, 1) := by decide +kernel
theorem dX11_tell_63 : decode cX11_tell 63 = .ok (.aload_n 0, 1) := by decide +kernel
theorem dX11_tell_64 : decode cX11_tell 64 = .ok (.iconst 3, 1) := by decide +kernel
theorem dX11_tell_65 : decode cX11_tell 65 = .ok (.invokevirtual 233, 3) := by decide +kernel
theorem dX11_tell_68 : decode cX11_tell 68 = .ok (.aload_n 0, 1) := by decide +kernel
theorem dX11_tell_69 : decode cX11_tell 69 = .ok (.iconst 2, 1) := by decide +kernel
theorem dX11_tell_70 : decode cX11_tell 70 = .ok (.invokevirtual 233, 3) := by decide +kernel
theorem dX11_tell_73 : decode cX11_tell 73 = .ok (.aload_n 0, 1) := by decide +kernel
theorem dX11_tell_74 : decode cX11_tell 74 = .ok (.iconst 1, 1) := by decide +kernel
theorem dX11_tell_75 : decode cX11_tell 75 = .ok (.invokevirtual 233, 3) := by decide +kernel
theorem dX11_tell_78 : decode cX11_tell 78 = .ok (.aload_n 0, 1) := by decide +kernel
theorem dX11_tell_79 : decode cX11_tell 79 = .ok (.iconst 1, 1) := by decide +kernel
theorem dX11_tell_80 : decode cX11_tell 80 = .ok (.invokevirtual 233, 3) := by decide +kernel
theorem dX11_tell_83 : decode cX11_tell 83 = .ok (.iconst 2, 1) := by decide +kernel
theorem dX11_tell_84 : decode cX11_tell 84 = .ok (.iload_n 2, 1) := by decide +kernel
theorem dX11_tell_85 : decode cX11_tell 85 = .ok (.imul, 1) := by decide +kernel
theorem dX11_tell_86 : decode cX11_tell 86 = .ok (.bipush 100, 2) := by decide +kernel
theorem dX11_tell_88 : decode cX11_tell 88 = .ok (.iadd, 1) := by decide +kernel
theorem dX11_tell_89 : decode cX11_tell 89 = .ok (.ireturn, 1) := by decide +kernel
theorem dX11_tell_90 : decode cX11_tell 90 = .ok (.aload_n 0, 1) := by decide +kernel
theorem dX11_tell_91 : decode cX11_tell 91 = .ok (.iconst 1, 1) := by decide +kernel
theorem dX11_tell_92 : decode cX11_tell 92 = .ok (.invokevirtual 233, 3) := by decide +kernel
theorem dX11_tell_95 : decode cX11_tell 95 = .ok (.iload_n 2, 1) := by decide +kernel
theorem dX11_tell_96 : decode cX11_tell 96 = .ok (.ireturn, 1) := by decide +kernel
theorem dX11_pay_0 : decode cX11_pay 0 = .ok (.aload_n 0, 1) := by decide +kernel
theorem dX11_pay_1 : decode cX11_pay 1 = .ok (.iload_n 1, 1) := by decide +kernel
theorem dX11_pay_2 : decode cX11_pay 2 = .ok (.invokevirtual 145, 3) := by decide +kernel
theorem dX11_pay_5 : decode cX11_pay 5 = .ok (.ifCond .ne 5, 3) := by decide +kernel
theorem dX11_pay_8 : decode cX11_pay 8 = .ok (.iconst (-1), 1) := by decide +kernel
theorem dX11_pay_9 : decode cX11_pay 9 = .ok (.ireturn, 1) := by decide +kernel
theorem dX11_pay_10 : decode cX11_pay 10 = .ok (.aload_n 0, 1) := by decide +kernel
theorem dX11_pay_11 : decode cX11_pay 11 = .ok (.aload_n 0, 1) := by decide +kernel
theorem dX11_pay_12 : decode cX11_pay 12 = .ok (.getfield 25, 3) := by decide +kernel
theorem dX11_pay_15 : decode cX11_pay 15 = .ok (.iload_n 1, 1) := by decide +kernel
theorem dX11_pay_16 : decode cX11_pay 16 = .ok (.iaload, 1) := by decide +kernel
theorem dX11_pay_17 : decode cX11_pay 17 = .ok (.iconst 2, 1) := by decide +kernel
theorem dX11_pay_18 : decode cX11_pay 18 = .ok (.if_icmp .ne 7, 3) := by decide +kernel
theorem dX11_pay_21 : decode cX11_pay 21 = .ok (.iconst 5, 1) := by decide +kernel
theorem dX11_pay_22 : decode cX11_pay 22 = .ok (.goto 4, 3) := by decide +kernel
theorem dX11_pay_25 : decode cX11_pay 25 = .ok (.iconst 4, 1) := by decide +kernel
theorem dX11_pay_26 : decode cX11_pay 26 = .ok (.invokevirtual 233, 3) := by decide +kernel
theorem dX11_pay_29 : decode cX11_pay 29 = .ok (.aload_n 0, 1) := by decide +kernel
theorem dX11_pay_30 : decode cX11_pay 30 = .ok (.getfield 25, 3) := by decide +kernel
theorem dX11_pay_33 : decode cX11_pay 33 = .ok (.iload_n 1, 1) := by decide +kernel
theorem dX11_pay_34 : decode cX11_pay 34 = .ok (.iaload, 1) := by decide +kernel
theorem dX11_pay_35 : decode cX11_pay 35 = .ok (.iconst 2, 1) := by decide +kernel
theorem dX11_pay_36 : decode cX11_pay 36 = .ok (.if_icmp .ne 8, 3) := by decide +kernel
theorem dX11_pay_39 : decode cX11_pay 39 = .ok (.bipush 40, 2) := by decide +kernel
theorem dX11_pay_41 : decode cX11_pay 41 = .ok (.goto 4, 3) := by decide +kernel
theorem dX11_pay_44 : decode cX11_pay 44 = .ok (.iload_n 1, 1) := by decide +kernel
theorem dX11_pay_45 : decode cX11_pay 45 = .ok (.ireturn, 1) := by decide +kernel
theorem dX11_as_0 : decode cX11_as 0 = .ok (.aload_n 0, 1) := by decide +kernel
theorem dX11_as_1 : decode cX11_as 1 = .ok (.iconst 0, 1) := by decide +kernel
theorem dX11_as_2 : decode cX11_as 2 = .ok (.putfield 65, 3) := by decide +kernel
theorem dX11_as_5 : decode cX11_as 5 = .ok (.aload_n 0, 1) := by decide +kernel
theorem dX11_as_6 : decode cX11_as 6 = .ok (.iload_n 1, 1) := by decide +kernel
theorem dX11_as_7 : decode cX11_as 7 = .ok (.invokevirtual 145, 3) := by decide +kernel
theorem dX11_as_10 : decode cX11_as 10 = .ok (.ifCond .ne 5, 3) := by decide +kernel
theorem dX11_as_13 : decode cX11_as 13 = .ok (.iconst (-1), 1) := by decide +kernel
theorem dX11_as_14 : decode cX11_as 14 = .ok (.ireturn, 1) := by decide +kernel
theorem dX11_as_15 : decode cX11_as 15 = .ok (.iload_n 2, 1) := by decide +kernel
theorem dX11_as_16 : decode cX11_as 16 = .ok (.iconst 0, 1) := by decide +kernel
theorem dX11_as_17 : decode cX11_as 17 = .ok (.iconst 2, 1) := by decide +kernel
theorem dX11_as_18 : decode cX11_as 18 = .ok (.invokestatic 71, 3) := by decide +kernel
theorem dX11_as_21 : decode cX11_as 21 = .ok (.ifCond .ne 6, 3) := by decide +kernel
theorem dX11_as_24 : decode cX11_as 24 = .ok (.bipush (-2), 2) := by decide +kernel
theorem dX11_as_26 : decode cX11_as 26 = .ok (.ireturn, 1) := by decide +kernel
theorem dX11_as_27 : decode cX11_as 27 = .ok (.aload_n 0, 1) := by decide +kernel
theorem dX11_as_28 : decode cX11_as 28 = .ok (.getfield 25, 3) := by decide +kernel
theorem dX11_as_31 : decode cX11_as 31 = .ok (.iload_n 1, 1) := by decide +kernel
theorem dX11_as_32 : decode cX11_as 32 = .ok (.iaload, 1) := by decide +kernel
theorem dX11_as_33 : decode cX11_as 33 = .ok (.iload_n 2, 1) := by decide +kernel
theorem dX11_as_34 : decode cX11_as 34 = .ok (.if_icmp .lt 7, 3) := by decide +kernel
theorem dX11_as_37 : decode cX11_as 37 = .ok (.iconst 1, 1) := by decide +kernel
theorem dX11_as_38 : decode cX11_as 38 = .ok (.goto 8, 3) := by decide +kernel
theorem dX11_as_41 : decode cX11_as 41 = .ok (.aload_n 0, 1) := by decide +kernel
theorem dX11_as_42 : decode cX11_as 42 = .ok (.iconst 2, 1) := by decide +kernel
theorem dX11_as_43 : decode cX11_as 43 = .ok (.invokevirtual 92, 3) := by decide +kernel
theorem dX11_as_46 : decode cX11_as 46 = .ok (.ireturn, 1) := by decide +kernel
theorem dX11_trace_0 : decode cX11_trace 0 = .ok (.aload_n 0, 1) := by decide +kernel
theorem dX11_trace_1 : decode cX11_trace 1 = .ok (.getfield 230, 3) := by decide +kernel
theorem dX11_trace_4 : decode cX11_trace 4 = .ok (.ireturn, 1) := by decide +kernel
theorem dX11_fault_0 : decode cX11_fault 0 = .ok (.aload_n 0, 1) := by decide +kernel
theorem dX11_fault_1 : decode cX11_fault 1 = .ok (.getfield 65, 3) := by decide +kernel
theorem dX11_fault_4 : decode cX11_fault 4 = .ok (.ireturn, 1) := by decide +kernel
theorem dX11_many_0 : decode cX11_many 0 = .ok (.iload_n 1, 1) := by decide +kernel
theorem dX11_many_1 : decode cX11_many 1 = .ok (.tableswitch 68 0 4 #[35, 40, 45, 58, 63], 35) := by decide +kernel
theorem dX11_many_36 : decode cX11_many 36 = .ok (.aload_n 0, 1) := by decide +kernel
theorem dX11_many_37 : decode cX11_many 37 = .ok (.getfield 75, 3) := by decide +kernel
theorem dX11_many_40 : decode cX11_many 40 = .ok (.ireturn, 1) := by decide +kernel
theorem dX11_many_41 : decode cX11_many 41 = .ok (.aload_n 0, 1) := by decide +kernel
theorem dX11_many_42 : decode cX11_many 42 = .ok (.getfield 142, 3) := by decide +kernel
theorem dX11_many_45 : decode cX11_many 45 = .ok (.ireturn, 1) := by decide +kernel
theorem dX11_many_46 : decode cX11_many 46 = .ok (.aload_n 0, 1) := by decide +kernel
theorem dX11_many_47 : decode cX11_many 47 = .ok (.getfield 102, 3) := by decide +kernel
theorem dX11_many_50 : decode cX11_many 50 = .ok (.ifCond .eq 7, 3) := by decide +kernel
theorem dX11_many_53 : decode cX11_many 53 = .ok (.iconst 1, 1) := by decide +kernel
theorem dX11_many_54 : decode cX11_many 54 = .ok (.goto 4, 3) := by decide +kernel
theorem dX11_many_57 : decode cX11_many 57 = .ok (.iconst 0, 1) := by decide +kernel
theorem dX11_many_58 : decode cX11_many 58 = .ok (.ireturn, 1) := by decide +kernel
theorem dX11_many_59 : decode cX11_many 59 = .ok (.aload_n 0, 1) := by decide +kernel
theorem dX11_many_60 : decode cX11_many 60 = .ok (.getfield 109, 3) := by decide +kernel
theorem dX11_many_63 : decode cX11_many 63 = .ok (.ireturn, 1) := by decide +kernel
theorem dX11_many_64 : decode cX11_many 64 = .ok (.aload_n 0, 1) := by decide +kernel
theorem dX11_many_65 : decode cX11_many 65 = .ok (.getfield 106, 3) := by decide +kernel
theorem dX11_many_68 : decode cX11_many 68 = .ok (.ireturn, 1) := by decide +kernel
theorem dX11_many_69 : decode cX11_many 69 = .ok (.bipush (-2), 2) := by decide +kernel
theorem dX11_many_71 : decode cX11_many 71 = .ok (.ireturn, 1) := by decide +kernel
