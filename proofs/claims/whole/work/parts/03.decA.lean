theorem dX0_init_0 : decode cX0_init 0 = .ok (.aload_n 0, 1) := by decide +kernel
theorem dX0_init_1 : decode cX0_init 1 = .ok (.invokespecial 1, 3) := by decide +kernel
theorem dX0_init_4 : decode cX0_init 4 = .ok (.return_, 1) := by decide +kernel
theorem dX0_isEachOnce_0 : decode cX0_isEachOnce 0 = .ok (.iconst 0, 1) := by decide +kernel
theorem dX0_isEachOnce_1 : decode cX0_isEachOnce 1 = .ok (.istore_n 3, 1) := by decide +kernel
theorem dX0_isEachOnce_2 : decode cX0_isEachOnce 2 = .ok (.iload_n 1, 1) := by decide +kernel
theorem dX0_isEachOnce_3 : decode cX0_isEachOnce 3 = .ok (.istore 4, 2) := by decide +kernel
theorem dX0_isEachOnce_5 : decode cX0_isEachOnce 5 = .ok (.iload 4, 2) := by decide +kernel
theorem dX0_isEachOnce_7 : decode cX0_isEachOnce 7 = .ok (.iload_n 1, 1) := by decide +kernel
theorem dX0_isEachOnce_8 : decode cX0_isEachOnce 8 = .ok (.iload_n 2, 1) := by decide +kernel
theorem dX0_isEachOnce_9 : decode cX0_isEachOnce 9 = .ok (.iadd, 1) := by decide +kernel
theorem dX0_isEachOnce_10 : decode cX0_isEachOnce 10 = .ok (.if_icmp .ge 47, 3) := by decide +kernel
theorem dX0_isEachOnce_13 : decode cX0_isEachOnce 13 = .ok (.aload_n 0, 1) := by decide +kernel
theorem dX0_isEachOnce_14 : decode cX0_isEachOnce 14 = .ok (.iload 4, 2) := by decide +kernel
theorem dX0_isEachOnce_16 : decode cX0_isEachOnce 16 = .ok (.iaload, 1) := by decide +kernel
theorem dX0_isEachOnce_17 : decode cX0_isEachOnce 17 = .ok (.ifCond .lt 23, 3) := by decide +kernel
theorem dX0_isEachOnce_20 : decode cX0_isEachOnce 20 = .ok (.aload_n 0, 1) := by decide +kernel
theorem dX0_isEachOnce_21 : decode cX0_isEachOnce 21 = .ok (.iload 4, 2) := by decide +kernel
theorem dX0_isEachOnce_23 : decode cX0_isEachOnce 23 = .ok (.iaload, 1) := by decide +kernel
theorem dX0_isEachOnce_24 : decode cX0_isEachOnce 24 = .ok (.iload_n 2, 1) := by decide +kernel
theorem dX0_isEachOnce_25 : decode cX0_isEachOnce 25 = .ok (.if_icmp .ge 15, 3) := by decide +kernel
theorem dX0_isEachOnce_28 : decode cX0_isEachOnce 28 = .ok (.iload_n 3, 1) := by decide +kernel
theorem dX0_isEachOnce_29 : decode cX0_isEachOnce 29 = .ok (.aload_n 0, 1) := by decide +kernel
theorem dX0_isEachOnce_30 : decode cX0_isEachOnce 30 = .ok (.iload 4, 2) := by decide +kernel
theorem dX0_isEachOnce_32 : decode cX0_isEachOnce 32 = .ok (.iaload, 1) := by decide +kernel
theorem dX0_isEachOnce_33 : decode cX0_isEachOnce 33 = .ok (.ishr, 1) := by decide +kernel
theorem dX0_isEachOnce_34 : decode cX0_isEachOnce 34 = .ok (.iconst 1, 1) := by decide +kernel
theorem dX0_isEachOnce_35 : decode cX0_isEachOnce 35 = .ok (.iand, 1) := by decide +kernel
theorem dX0_isEachOnce_36 : decode cX0_isEachOnce 36 = .ok (.iconst 1, 1) := by decide +kernel
theorem dX0_isEachOnce_37 : decode cX0_isEachOnce 37 = .ok (.if_icmp .ne 5, 3) := by decide +kernel
theorem dX0_isEachOnce_40 : decode cX0_isEachOnce 40 = .ok (.iconst 0, 1) := by decide +kernel
theorem dX0_isEachOnce_41 : decode cX0_isEachOnce 41 = .ok (.ireturn, 1) := by decide +kernel
theorem dX0_isEachOnce_42 : decode cX0_isEachOnce 42 = .ok (.iload_n 3, 1) := by decide +kernel
theorem dX0_isEachOnce_43 : decode cX0_isEachOnce 43 = .ok (.iconst 1, 1) := by decide +kernel
theorem dX0_isEachOnce_44 : decode cX0_isEachOnce 44 = .ok (.aload_n 0, 1) := by decide +kernel
theorem dX0_isEachOnce_45 : decode cX0_isEachOnce 45 = .ok (.iload 4, 2) := by decide +kernel
theorem dX0_isEachOnce_47 : decode cX0_isEachOnce 47 = .ok (.iaload, 1) := by decide +kernel
theorem dX0_isEachOnce_48 : decode cX0_isEachOnce 48 = .ok (.ishl, 1) := by decide +kernel
theorem dX0_isEachOnce_49 : decode cX0_isEachOnce 49 = .ok (.ior, 1) := by decide +kernel
theorem dX0_isEachOnce_50 : decode cX0_isEachOnce 50 = .ok (.istore_n 3, 1) := by decide +kernel
theorem dX0_isEachOnce_51 : decode cX0_isEachOnce 51 = .ok (.iinc 4 1, 3) := by decide +kernel
theorem dX0_isEachOnce_54 : decode cX0_isEachOnce 54 = .ok (.goto (-49), 3) := by decide +kernel
theorem dX0_isEachOnce_57 : decode cX0_isEachOnce 57 = .ok (.iconst 1, 1) := by decide +kernel
theorem dX0_isEachOnce_58 : decode cX0_isEachOnce 58 = .ok (.ireturn, 1) := by decide +kernel
theorem dX0_work_0 : decode cX0_work 0 = .ok (.aload_n 0, 1) := by decide +kernel
theorem dX0_work_1 : decode cX0_work 1 = .ok (.iconst 0, 1) := by decide +kernel
theorem dX0_work_2 : decode cX0_work 2 = .ok (.putfield 7, 3) := by decide +kernel
theorem dX0_work_5 : decode cX0_work 5 = .ok (.aload_n 0, 1) := by decide +kernel
theorem dX0_work_6 : decode cX0_work 6 = .ok (.iconst 0, 1) := by decide +kernel
theorem dX0_work_7 : decode cX0_work 7 = .ok (.putfield 13, 3) := by decide +kernel
theorem dX0_work_10 : decode cX0_work 10 = .ok (.aload_n 0, 1) := by decide +kernel
theorem dX0_work_11 : decode cX0_work 11 = .ok (.iconst 0, 1) := by decide +kernel
theorem dX0_work_12 : decode cX0_work 12 = .ok (.putfield 16, 3) := by decide +kernel
theorem dX0_work_15 : decode cX0_work 15 = .ok (.iconst 0, 1) := by decide +kernel
theorem dX0_work_16 : decode cX0_work 16 = .ok (.istore 4, 2) := by decide +kernel
theorem dX0_work_18 : decode cX0_work 18 = .ok (.iconst 0, 1) := by decide +kernel
theorem dX0_work_19 : decode cX0_work 19 = .ok (.istore 5, 2) := by decide +kernel
theorem dX0_work_21 : decode cX0_work 21 = .ok (.iload 5, 2) := by decide +kernel
theorem dX0_work_23 : decode cX0_work 23 = .ok (.iconst 2, 1) := by decide +kernel
theorem dX0_work_24 : decode cX0_work 24 = .ok (.iload_n 3, 1) := by decide +kernel
theorem dX0_work_25 : decode cX0_work 25 = .ok (.imul, 1) := by decide +kernel
theorem dX0_work_26 : decode cX0_work 26 = .ok (.if_icmp .ge 77, 3) := by decide +kernel
theorem dX0_work_29 : decode cX0_work 29 = .ok (.iload 4, 2) := by decide +kernel
theorem dX0_work_31 : decode cX0_work 31 = .ok (.iload_n 3, 1) := by decide +kernel
theorem dX0_work_32 : decode cX0_work 32 = .ok (.if_icmp .ge 71, 3) := by decide +kernel
theorem dX0_work_35 : decode cX0_work 35 = .ok (.aload_n 1, 1) := by decide +kernel
theorem dX0_work_36 : decode cX0_work 36 = .ok (.iload_n 2, 1) := by decide +kernel
theorem dX0_work_37 : decode cX0_work 37 = .ok (.iload 4, 2) := by decide +kernel
theorem dX0_work_39 : decode cX0_work 39 = .ok (.iadd, 1) := by decide +kernel
theorem dX0_work_40 : decode cX0_work 40 = .ok (.iaload, 1) := by decide +kernel
theorem dX0_work_41 : decode cX0_work 41 = .ok (.istore 6, 2) := by decide +kernel
theorem dX0_work_43 : decode cX0_work 43 = .ok (.iload 6, 2) := by decide +kernel
theorem dX0_work_45 : decode cX0_work 45 = .ok (.iload 5, 2) := by decide +kernel
theorem dX0_work_47 : decode cX0_work 47 = .ok (.if_icmp .gt 28, 3) := by decide +kernel
theorem dX0_work_50 : decode cX0_work 50 = .ok (.aload_n 0, 1) := by decide +kernel
theorem dX0_work_51 : decode cX0_work 51 = .ok (.aload_n 0, 1) := by decide +kernel
theorem dX0_work_52 : decode cX0_work 52 = .ok (.getfield 16, 3) := by decide +kernel
theorem dX0_work_55 : decode cX0_work 55 = .ok (.iload 5, 2) := by decide +kernel
theorem dX0_work_57 : decode cX0_work 57 = .ok (.iload 6, 2) := by decide +kernel
theorem dX0_work_59 : decode cX0_work 59 = .ok (.isub, 1) := by decide +kernel
theorem dX0_work_60 : decode cX0_work 60 = .ok (.invokestatic 19, 3) := by decide +kernel
theorem dX0_work_63 : decode cX0_work 63 = .ok (.putfield 16, 3) := by decide +kernel
theorem dX0_work_66 : decode cX0_work 66 = .ok (.aload_n 0, 1) := by decide +kernel
theorem dX0_work_67 : decode cX0_work 67 = .ok (.iload 5, 2) := by decide +kernel
theorem dX0_work_69 : decode cX0_work 69 = .ok (.putfield 7, 3) := by decide +kernel
theorem dX0_work_72 : decode cX0_work 72 = .ok (.iinc 4 1, 3) := by decide +kernel
theorem dX0_work_75 : decode cX0_work 75 = .ok (.aload_n 0, 1) := by decide +kernel
theorem dX0_work_76 : decode cX0_work 76 = .ok (.aload_n 0, 1) := by decide +kernel
theorem dX0_work_77 : decode cX0_work 77 = .ok (.getfield 13, 3) := by decide +kernel
theorem dX0_work_80 : decode cX0_work 80 = .ok (.iload 5, 2) := by decide +kernel
theorem dX0_work_82 : decode cX0_work 82 = .ok (.iconst 1, 1) := by decide +kernel
theorem dX0_work_83 : decode cX0_work 83 = .ok (.iadd, 1) := by decide +kernel
theorem dX0_work_84 : decode cX0_work 84 = .ok (.iload_n 3, 1) := by decide +kernel
theorem dX0_work_85 : decode cX0_work 85 = .ok (.invokestatic 25, 3) := by decide +kernel
theorem dX0_work_88 : decode cX0_work 88 = .ok (.iload 4, 2) := by decide +kernel
theorem dX0_work_90 : decode cX0_work 90 = .ok (.isub, 1) := by decide +kernel
theorem dX0_work_91 : decode cX0_work 91 = .ok (.invokestatic 19, 3) := by decide +kernel
theorem dX0_work_94 : decode cX0_work 94 = .ok (.putfield 13, 3) := by decide +kernel
theorem dX0_work_97 : decode cX0_work 97 = .ok (.iinc 5 1, 3) := by decide +kernel
theorem dX0_work_100 : decode cX0_work 100 = .ok (.goto (-79), 3) := by decide +kernel
theorem dX0_work_103 : decode cX0_work 103 = .ok (.return_, 1) := by decide +kernel
theorem dX1_init_0 : decode cX1_init 0 = .ok (.aload_n 0, 1) := by decide +kernel
theorem dX1_init_1 : decode cX1_init 1 = .ok (.invokespecial 3, 3) := by decide +kernel
theorem dX1_init_4 : decode cX1_init 4 = .ok (.aload_n 0, 1) := by decide +kernel
theorem dX1_init_5 : decode cX1_init 5 = .ok (.bipush 6, 2) := by decide +kernel
theorem dX1_init_7 : decode cX1_init 7 = .ok (.newarray .long, 2) := by decide +kernel
theorem dX1_init_9 : decode cX1_init 9 = .ok (.putfield 9, 3) := by decide +kernel
theorem dX1_init_12 : decode cX1_init 12 = .ok (.aload_n 0, 1) := by decide +kernel
theorem dX1_init_13 : decode cX1_init 13 = .ok (.bipush 6, 2) := by decide +kernel
theorem dX1_init_15 : decode cX1_init 15 = .ok (.newarray .long, 2) := by decide +kernel
theorem dX1_init_17 : decode cX1_init 17 = .ok (.putfield 15, 3) := by decide +kernel
theorem dX1_init_20 : decode cX1_init 20 = .ok (.aload_n 0, 1) := by decide +kernel
theorem dX1_init_21 : decode cX1_init 21 = .ok (.bipush 6, 2) := by decide +kernel
theorem dX1_init_23 : decode cX1_init 23 = .ok (.newarray .int, 2) := by decide +kernel
theorem dX1_init_25 : decode cX1_init 25 = .ok (.putfield 18, 3) := by decide +kernel
theorem dX1_init_28 : decode cX1_init 28 = .ok (.return_, 1) := by decide +kernel
theorem dX1_begin_0 : decode cX1_begin 0 = .ok (.aload_n 0, 1) := by decide +kernel
theorem dX1_begin_1 : decode cX1_begin 1 = .ok (.lconst 1, 1) := by decide +kernel
theorem dX1_begin_2 : decode cX1_begin 2 = .ok (.putfield 22, 3) := by decide +kernel
theorem dX1_begin_5 : decode cX1_begin 5 = .ok (.aload_n 0, 1) := by decide +kernel
theorem dX1_begin_6 : decode cX1_begin 6 = .ok (.getfield 9, 3) := by decide +kernel
theorem dX1_begin_9 : decode cX1_begin 9 = .ok (.lconst 0, 1) := by decide +kernel
theorem dX1_begin_10 : decode cX1_begin 10 = .ok (.invokestatic 26, 3) := by decide +kernel
theorem dX1_begin_13 : decode cX1_begin 13 = .ok (.aload_n 0, 1) := by decide +kernel
theorem dX1_begin_14 : decode cX1_begin 14 = .ok (.getfield 9, 3) := by decide +kernel
theorem dX1_begin_17 : decode cX1_begin 17 = .ok (.iload_n 1, 1) := by decide +kernel
theorem dX1_begin_18 : decode cX1_begin 18 = .ok (.lconst 1, 1) := by decide +kernel
theorem dX1_begin_19 : decode cX1_begin 19 = .ok (.lastore, 1) := by decide +kernel
theorem dX1_begin_20 : decode cX1_begin 20 = .ok (.return_, 1) := by decide +kernel
theorem dX1_hand_0 : decode cX1_hand 0 = .ok (.aload_n 0, 1) := by decide +kernel
theorem dX1_hand_1 : decode cX1_hand 1 = .ok (.getfield 15, 3) := by decide +kernel
theorem dX1_hand_4 : decode cX1_hand 4 = .ok (.lconst 0, 1) := by decide +kernel
theorem dX1_hand_5 : decode cX1_hand 5 = .ok (.invokestatic 26, 3) := by decide +kernel
theorem dX1_hand_8 : decode cX1_hand 8 = .ok (.iconst 0, 1) := by decide +kernel
theorem dX1_hand_9 : decode cX1_hand 9 = .ok (.istore 5, 2) := by decide +kernel
theorem dX1_hand_11 : decode cX1_hand 11 = .ok (.iload 5, 2) := by decide +kernel
theorem dX1_hand_13 : decode cX1_hand 13 = .ok (.aload_n 1, 1) := by decide +kernel
theorem dX1_hand_14 : decode cX1_hand 14 = .ok (.getfield 32, 3) := by decide +kernel
theorem dX1_hand_17 : decode cX1_hand 17 = .ok (.if_icmp .ge 67, 3) := by decide +kernel
theorem dX1_hand_20 : decode cX1_hand 20 = .ok (.aload_n 1, 1) := by decide +kernel
theorem dX1_hand_21 : decode cX1_hand 21 = .ok (.aload_n 0, 1) := by decide +kernel
theorem dX1_hand_22 : decode cX1_hand 22 = .ok (.getfield 18, 3) := by decide +kernel
theorem dX1_hand_25 : decode cX1_hand 25 = .ok (.iload_n 2, 1) := by decide +kernel
theorem dX1_hand_26 : decode cX1_hand 26 = .ok (.iload 5, 2) := by decide +kernel
theorem dX1_hand_28 : decode cX1_hand 28 = .ok (.iload_n 3, 1) := by decide +kernel
theorem dX1_hand_29 : decode cX1_hand 29 = .ok (.iload 4, 2) := by decide +kernel
theorem dX1_hand_31 : decode cX1_hand 31 = .ok (.invokevirtual 38, 3) := by decide +kernel
theorem dX1_hand_34 : decode cX1_hand 34 = .ok (.iconst 0, 1) := by decide +kernel
theorem dX1_hand_35 : decode cX1_hand 35 = .ok (.istore 6, 2) := by decide +kernel
theorem dX1_hand_37 : decode cX1_hand 37 = .ok (.iload 6, 2) := by decide +kernel
theorem dX1_hand_39 : decode cX1_hand 39 = .ok (.aload_n 1, 1) := by decide +kernel
theorem dX1_hand_40 : decode cX1_hand 40 = .ok (.getfield 32, 3) := by decide +kernel
theorem dX1_hand_43 : decode cX1_hand 43 = .ok (.if_icmp .ge 35, 3) := by decide +kernel
theorem dX1_hand_46 : decode cX1_hand 46 = .ok (.aload_n 0, 1) := by decide +kernel
theorem dX1_hand_47 : decode cX1_hand 47 = .ok (.getfield 15, 3) := by decide +kernel
theorem dX1_hand_50 : decode cX1_hand 50 = .ok (.iload 6, 2) := by decide +kernel
theorem dX1_hand_52 : decode cX1_hand 52 = .ok (.dup2, 1) := by decide +kernel
theorem dX1_hand_53 : decode cX1_hand 53 = .ok (.laload, 1) := by decide +kernel
theorem dX1_hand_54 : decode cX1_hand 54 = .ok (.aload_n 0, 1) := by decide +kernel
theorem dX1_hand_55 : decode cX1_hand 55 = .ok (.getfield 9, 3) := by decide +kernel
theorem dX1_hand_58 : decode cX1_hand 58 = .ok (.iload 5, 2) := by decide +kernel
theorem dX1_hand_60 : decode cX1_hand 60 = .ok (.laload, 1) := by decide +kernel
theorem dX1_hand_61 : decode cX1_hand 61 = .ok (.aload_n 0, 1) := by decide +kernel
theorem dX1_hand_62 : decode cX1_hand 62 = .ok (.getfield 18, 3) := by decide +kernel
theorem dX1_hand_65 : decode cX1_hand 65 = .ok (.iload 6, 2) := by decide +kernel
theorem dX1_hand_67 : decode cX1_hand 67 = .ok (.iaload, 1) := by decide +kernel
theorem dX1_hand_68 : decode cX1_hand 68 = .ok (.i2l, 1) := by decide +kernel
theorem dX1_hand_69 : decode cX1_hand 69 = .ok (.lmul, 1) := by decide +kernel
theorem dX1_hand_70 : decode cX1_hand 70 = .ok (.ladd, 1) := by decide +kernel
theorem dX1_hand_71 : decode cX1_hand 71 = .ok (.lastore, 1) := by decide +kernel
theorem dX1_hand_72 : decode cX1_hand 72 = .ok (.iinc 6 1, 3) := by decide +kernel
theorem dX1_hand_75 : decode cX1_hand 75 = .ok (.goto (-38), 3) := by decide +kernel
theorem dX1_hand_78 : decode cX1_hand 78 = .ok (.iinc 5 1, 3) := by decide +kernel
theorem dX1_hand_81 : decode cX1_hand 81 = .ok (.goto (-70), 3) := by decide +kernel
theorem dX1_hand_84 : decode cX1_hand 84 = .ok (.aload_n 0, 1) := by decide +kernel
theorem dX1_hand_85 : decode cX1_hand 85 = .ok (.getfield 9, 3) := by decide +kernel
theorem dX1_hand_88 : decode cX1_hand 88 = .ok (.astore 5, 2) := by decide +kernel
theorem dX1_hand_90 : decode cX1_hand 90 = .ok (.aload_n 0, 1) := by decide +kernel
theorem dX1_hand_91 : decode cX1_hand 91 = .ok (.aload_n 0, 1) := by decide +kernel
theorem dX1_hand_92 : decode cX1_hand 92 = .ok (.getfield 15, 3) := by decide +kernel
theorem dX1_hand_95 : decode cX1_hand 95 = .ok (.putfield 9, 3) := by decide +kernel
theorem dX1_hand_98 : decode cX1_hand 98 = .ok (.aload_n 0, 1) := by decide +kernel
theorem dX1_hand_99 : decode cX1_hand 99 = .ok (.aload 5, 2) := by decide +kernel
theorem dX1_hand_101 : decode cX1_hand 101 = .ok (.putfield 15, 3) := by decide +kernel
theorem dX1_hand_104 : decode cX1_hand 104 = .ok (.aload_n 0, 1) := by decide +kernel
theorem dX1_hand_105 : decode cX1_hand 105 = .ok (.dup, 1) := by decide +kernel
theorem dX1_hand_106 : decode cX1_hand 106 = .ok (.getfield 22, 3) := by decide +kernel
theorem dX1_hand_109 : decode cX1_hand 109 = .ok (.ldc2_w 42, 3) := by decide +kernel
theorem dX1_hand_112 : decode cX1_hand 112 = .ok (.lmul, 1) := by decide +kernel
theorem dX1_hand_113 : decode cX1_hand 113 = .ok (.putfield 22, 3) := by decide +kernel
theorem dX1_hand_116 : decode cX1_hand 116 = .ok (.return_, 1) := by decide +kernel
theorem dX1_timesAs_0 : decode cX1_timesAs 0 = .ok (.iload_n 1, 1) := by decide +kernel
theorem dX1_timesAs_1 : decode cX1_timesAs 1 = .ok (.iload_n 2, 1) := by decide +kernel
theorem dX1_timesAs_2 : decode cX1_timesAs 2 = .ok (.if_icmp .ge 10, 3) := by decide +kernel
theorem dX1_timesAs_5 : decode cX1_timesAs 5 = .ok (.aload_n 0, 1) := by decide +kernel
theorem dX1_timesAs_6 : decode cX1_timesAs 6 = .ok (.getfield 9, 3) := by decide +kernel
theorem dX1_timesAs_9 : decode cX1_timesAs 9 = .ok (.iload_n 1, 1) := by decide +kernel
theorem dX1_timesAs_10 : decode cX1_timesAs 10 = .ok (.laload, 1) := by decide +kernel
theorem dX1_timesAs_11 : decode cX1_timesAs 11 = .ok (.lreturn, 1) := by decide +kernel
theorem dX1_timesAs_12 : decode cX1_timesAs 12 = .ok (.aload_n 0, 1) := by decide +kernel
theorem dX1_timesAs_13 : decode cX1_timesAs 13 = .ok (.getfield 22, 3) := by decide +kernel
theorem dX1_timesAs_16 : decode cX1_timesAs 16 = .ok (.lstore_n 3, 1) := by decide +kernel
theorem dX1_timesAs_17 : decode cX1_timesAs 17 = .ok (.iconst 0, 1) := by decide +kernel
theorem dX1_timesAs_18 : decode cX1_timesAs 18 = .ok (.istore 5, 2) := by decide +kernel
theorem dX1_timesAs_20 : decode cX1_timesAs 20 = .ok (.iload 5, 2) := by decide +kernel
theorem dX1_timesAs_22 : decode cX1_timesAs 22 = .ok (.iload_n 2, 1) := by decide +kernel
theorem dX1_timesAs_23 : decode cX1_timesAs 23 = .ok (.if_icmp .ge 19, 3) := by decide +kernel
theorem dX1_timesAs_26 : decode cX1_timesAs 26 = .ok (.lload_n 3, 1) := by decide +kernel
theorem dX1_timesAs_27 : decode cX1_timesAs 27 = .ok (.aload_n 0, 1) := by decide +kernel
theorem dX1_timesAs_28 : decode cX1_timesAs 28 = .ok (.getfield 9, 3) := by decide +kernel
theorem dX1_timesAs_31 : decode cX1_timesAs 31 = .ok (.iload 5, 2) := by decide +kernel
theorem dX1_timesAs_33 : decode cX1_timesAs 33 = .ok (.laload, 1) := by decide +kernel
theorem dX1_timesAs_34 : decode cX1_timesAs 34 = .ok (.lsub, 1) := by decide +kernel
theorem dX1_timesAs_35 : decode cX1_timesAs 35 = .ok (.lstore_n 3, 1) := by decide +kernel
theorem dX1_timesAs_36 : decode cX1_timesAs 36 = .ok (.iinc 5 1, 3) := by decide +kernel
theorem dX1_timesAs_39 : decode cX1_timesAs 39 = .ok (.goto (-19), 3) := by decide +kernel
theorem dX1_timesAs_42 : decode cX1_timesAs 42 = .ok (.lload_n 3, 1) := by decide +kernel
theorem dX1_timesAs_43 : decode cX1_timesAs 43 = .ok (.lreturn, 1) := by decide +kernel
theorem dX1_likeliest_0 : decode cX1_likeliest 0 = .ok (.iconst 0, 1) := by decide +kernel
theorem dX1_likeliest_1 : decode cX1_likeliest 1 = .ok (.istore_n 2, 1) := by decide +kernel
theorem dX1_likeliest_2 : decode cX1_likeliest 2 = .ok (.iconst 1, 1) := by decide +kernel
theorem dX1_likeliest_3 : decode cX1_likeliest 3 = .ok (.istore_n 3, 1) := by decide +kernel
theorem dX1_likeliest_4 : decode cX1_likeliest 4 = .ok (.iload_n 3, 1) := by decide +kernel
theorem dX1_likeliest_5 : decode cX1_likeliest 5 = .ok (.iload_n 1, 1) := by decide +kernel
theorem dX1_likeliest_6 : decode cX1_likeliest 6 = .ok (.if_icmp .ge 27, 3) := by decide +kernel
theorem dX1_likeliest_9 : decode cX1_likeliest 9 = .ok (.aload_n 0, 1) := by decide +kernel
theorem dX1_likeliest_10 : decode cX1_likeliest 10 = .ok (.getfield 9, 3) := by decide +kernel
theorem dX1_likeliest_13 : decode cX1_likeliest 13 = .ok (.iload_n 3, 1) := by decide +kernel
theorem dX1_likeliest_14 : decode cX1_likeliest 14 = .ok (.laload, 1) := by decide +kernel
theorem dX1_likeliest_15 : decode cX1_likeliest 15 = .ok (.aload_n 0, 1) := by decide +kernel
theorem dX1_likeliest_16 : decode cX1_likeliest 16 = .ok (.getfield 9, 3) := by decide +kernel
theorem dX1_likeliest_19 : decode cX1_likeliest 19 = .ok (.iload_n 2, 1) := by decide +kernel
theorem dX1_likeliest_20 : decode cX1_likeliest 20 = .ok (.laload, 1) := by decide +kernel
theorem dX1_likeliest_21 : decode cX1_likeliest 21 = .ok (.lcmp, 1) := by decide +kernel
theorem dX1_likeliest_22 : decode cX1_likeliest 22 = .ok (.ifCond .le 5, 3) := by decide +kernel
theorem dX1_likeliest_25 : decode cX1_likeliest 25 = .ok (.iload_n 3, 1) := by decide +kernel
theorem dX1_likeliest_26 : decode cX1_likeliest 26 = .ok (.istore_n 2, 1) := by decide +kernel
theorem dX1_likeliest_27 : decode cX1_likeliest 27 = .ok (.iinc 3 1, 3) := by decide +kernel
theorem dX1_likeliest_30 : decode cX1_likeliest 30 = .ok (.goto (-26), 3) := by decide +kernel
theorem dX1_likeliest_33 : decode cX1_likeliest 33 = .ok (.iload_n 2, 1) := by decide +kernel
theorem dX1_likeliest_34 : decode cX1_likeliest 34 = .ok (.ireturn, 1) := by decide +kernel
theorem dX2_init_0 : decode cX2_init 0 = .ok (.aload_n 0, 1) := by decide +kernel
theorem dX2_init_1 : decode cX2_init 1 = .ok (.invokespecial 3, 3) := by decide +kernel
theorem dX2_init_4 : decode cX2_init 4 = .ok (.aload_n 0, 1) := by decide +kernel
theorem dX2_init_5 : decode cX2_init 5 = .ok (.iconst 4, 1) := by decide +kernel
theorem dX2_init_6 : decode cX2_init 6 = .ok (.newarray .int, 2) := by decide +kernel
theorem dX2_init_8 : decode cX2_init 8 = .ok (.putfield 11, 3) := by decide +kernel
theorem dX2_init_11 : decode cX2_init 11 = .ok (.aload_n 0, 1) := by decide +kernel
theorem dX2_init_12 : decode cX2_init 12 = .ok (.iconst 4, 1) := by decide +kernel
theorem dX2_init_13 : decode cX2_init 13 = .ok (.newarray .int, 2) := by decide +kernel
theorem dX2_init_15 : decode cX2_init 15 = .ok (.putfield 15, 3) := by decide +kernel
theorem dX2_init_18 : decode cX2_init 18 = .ok (.return_, 1) := by decide +kernel
theorem dX2_has_0 : decode cX2_has 0 = .ok (.iload_n 1, 1) := by decide +kernel
theorem dX2_has_1 : decode cX2_has 1 = .ok (.ifCond .lt 15, 3) := by decide +kernel
theorem dX2_has_4 : decode cX2_has 4 = .ok (.iload_n 1, 1) := by decide +kernel
theorem dX2_has_5 : decode cX2_has 5 = .ok (.aload_n 0, 1) := by decide +kernel
theorem dX2_has_6 : decode cX2_has 6 = .ok (.getfield 18, 3) := by decide +kernel
theorem dX2_has_9 : decode cX2_has 9 = .ok (.if_icmp .ge 7, 3) := by decide +kernel
theorem dX2_has_12 : decode cX2_has 12 = .ok (.iconst 1, 1) := by decide +kernel
theorem dX2_has_13 : decode cX2_has 13 = .ok (.goto 4, 3) := by decide +kernel
theorem dX2_has_16 : decode cX2_has 16 = .ok (.iconst 0, 1) := by decide +kernel
theorem dX2_has_17 : decode cX2_has 17 = .ok (.ireturn, 1) := by decide +kernel
theorem dX2_hasAll_0 : decode cX2_hasAll 0 = .ok (.iload_n 2, 1) := by decide +kernel
theorem dX2_hasAll_1 : decode cX2_hasAll 1 = .ok (.istore 4, 2) := by decide +kernel
theorem dX2_hasAll_3 : decode cX2_hasAll 3 = .ok (.iload 4, 2) := by decide +kernel
theorem dX2_hasAll_5 : decode cX2_hasAll 5 = .ok (.iload_n 2, 1) := by decide +kernel
theorem dX2_hasAll_6 : decode cX2_hasAll 6 = .ok (.iload_n 3, 1) := by decide +kernel
theorem dX2_hasAll_7 : decode cX2_hasAll 7 = .ok (.iadd, 1) := by decide +kernel
theorem dX2_hasAll_8 : decode cX2_hasAll 8 = .ok (.if_icmp .ge 22, 3) := by decide +kernel
theorem dX2_hasAll_11 : decode cX2_hasAll 11 = .ok (.aload_n 0, 1) := by decide +kernel
theorem dX2_hasAll_12 : decode cX2_hasAll 12 = .ok (.aload_n 1, 1) := by decide +kernel
theorem dX2_hasAll_13 : decode cX2_hasAll 13 = .ok (.iload 4, 2) := by decide +kernel
theorem dX2_hasAll_15 : decode cX2_hasAll 15 = .ok (.iaload, 1) := by decide +kernel
theorem dX2_hasAll_16 : decode cX2_hasAll 16 = .ok (.invokevirtual 22, 3) := by decide +kernel
theorem dX2_hasAll_19 : decode cX2_hasAll 19 = .ok (.ifCond .ne 5, 3) := by decide +kernel
theorem dX2_hasAll_22 : decode cX2_hasAll 22 = .ok (.iconst 0, 1) := by decide +kernel
theorem dX2_hasAll_23 : decode cX2_hasAll 23 = .ok (.ireturn, 1) := by decide +kernel
theorem dX2_hasAll_24 : decode cX2_hasAll 24 = .ok (.iinc 4 1, 3) := by decide +kernel
theorem dX2_hasAll_27 : decode cX2_hasAll 27 = .ok (.goto (-24), 3) := by decide +kernel
theorem dX2_hasAll_30 : decode cX2_hasAll 30 = .ok (.iconst 1, 1) := by decide +kernel
theorem dX2_hasAll_31 : decode cX2_hasAll 31 = .ok (.ireturn, 1) := by decide +kernel
theorem dX2_isFull_0 : decode cX2_isFull 0 = .ok (.aload_n 0, 1) := by decide +kernel
theorem dX2_isFull_1 : decode cX2_isFull 1 = .ok (.getfield 18, 3) := by decide +kernel
theorem dX2_isFull_4 : decode cX2_isFull 4 = .ok (.iconst 4, 1) := by decide +kernel
theorem dX2_isFull_5 : decode cX2_isFull 5 = .ok (.if_icmp .lt 7, 3) := by decide +kernel
theorem dX2_isFull_8 : decode cX2_isFull 8 = .ok (.iconst 1, 1) := by decide +kernel
theorem dX2_isFull_9 : decode cX2_isFull 9 = .ok (.goto 4, 3) := by decide +kernel
theorem dX2_isFull_12 : decode cX2_isFull 12 = .ok (.iconst 0, 1) := by decide +kernel
theorem dX2_isFull_13 : decode cX2_isFull 13 = .ok (.ireturn, 1) := by decide +kernel
theorem dX2_hire_0 : decode cX2_hire 0 = .ok (.aload_n 0, 1) := by decide +kernel
theorem dX2_hire_1 : decode cX2_hire 1 = .ok (.getfield 11, 3) := by decide +kernel
theorem dX2_hire_4 : decode cX2_hire 4 = .ok (.aload_n 0, 1) := by decide +kernel
theorem dX2_hire_5 : decode cX2_hire 5 = .ok (.getfield 18, 3) := by decide +kernel
theorem dX2_hire_8 : decode cX2_hire 8 = .ok (.iload_n 1, 1) := by decide +kernel
theorem dX2_hire_9 : decode cX2_hire 9 = .ok (.iastore, 1) := by decide +kernel
theorem dX2_hire_10 : decode cX2_hire 10 = .ok (.aload_n 0, 1) := by decide +kernel
theorem dX2_hire_11 : decode cX2_hire 11 = .ok (.getfield 15, 3) := by decide +kernel
theorem dX2_hire_14 : decode cX2_hire 14 = .ok (.aload_n 0, 1) := by decide +kernel
theorem dX2_hire_15 : decode cX2_hire 15 = .ok (.getfield 18, 3) := by decide +kernel
theorem dX2_hire_18 : decode cX2_hire 18 = .ok (.iload_n 2, 1) := by decide +kernel
theorem dX2_hire_19 : decode cX2_hire 19 = .ok (.iastore, 1) := by decide +kernel
theorem dX2_hire_20 : decode cX2_hire 20 = .ok (.aload_n 0, 1) := by decide +kernel
theorem dX2_hire_21 : decode cX2_hire 21 = .ok (.dup, 1) := by decide +kernel
theorem dX2_hire_22 : decode cX2_hire 22 = .ok (.getfield 18, 3) := by decide +kernel
theorem dX2_hire_25 : decode cX2_hire 25 = .ok (.iconst 1, 1) := by decide +kernel
theorem dX2_hire_26 : decode cX2_hire 26 = .ok (.iadd, 1) := by decide +kernel
theorem dX2_hire_27 : decode cX2_hire 27 = .ok (.putfield 18, 3) := by decide +kernel
theorem dX2_hire_30 : decode cX2_hire 30 = .ok (.aload_n 0, 1) := by decide +kernel
theorem dX2_hire_31 : decode cX2_hire 31 = .ok (.getfield 18, 3) := by decide +kernel
theorem dX2_hire_34 : decode cX2_hire 34 = .ok (.iconst 1, 1) := by decide +kernel
theorem dX2_hire_35 : decode cX2_hire 35 = .ok (.isub, 1) := by decide +kernel
theorem dX2_hire_36 : decode cX2_hire 36 = .ok (.ireturn, 1) := by decide +kernel
theorem dX2_told_0 : decode cX2_told 0 = .ok (.aload_n 0, 1) := by decide +kernel
theorem dX2_told_1 : decode cX2_told 1 = .ok (.getfield 11, 3) := by decide +kernel
theorem dX2_told_4 : decode cX2_told 4 = .ok (.iload_n 1, 1) := by decide +kernel
theorem dX2_told_5 : decode cX2_told 5 = .ok (.iaload, 1) := by decide +kernel
theorem dX2_told_6 : decode cX2_told 6 = .ok (.iconst 2, 1) := by decide +kernel
theorem dX2_told_7 : decode cX2_told 7 = .ok (.if_icmp .ne 11, 3) := by decide +kernel
theorem dX2_told_10 : decode cX2_told 10 = .ok (.aload_n 0, 1) := by decide +kernel
theorem dX2_told_11 : decode cX2_told 11 = .ok (.iload_n 1, 1) := by decide +kernel
theorem dX2_told_12 : decode cX2_told 12 = .ok (.invokevirtual 26, 3) := by decide +kernel
theorem dX2_told_15 : decode cX2_told 15 = .ok (.goto 26, 3) := by decide +kernel
theorem dX2_told_18 : decode cX2_told 18 = .ok (.aload_n 0, 1) := by decide +kernel
theorem dX2_told_19 : decode cX2_told 19 = .ok (.getfield 11, 3) := by decide +kernel
theorem dX2_told_22 : decode cX2_told 22 = .ok (.iload_n 1, 1) := by decide +kernel
theorem dX2_told_23 : decode cX2_told 23 = .ok (.iaload, 1) := by decide +kernel
theorem dX2_told_24 : decode cX2_told 24 = .ok (.iconst 1, 1) := by decide +kernel
theorem dX2_told_25 : decode cX2_told 25 = .ok (.if_icmp .ne 11, 3) := by decide +kernel
theorem dX2_told_28 : decode cX2_told 28 = .ok (.aload_n 0, 1) := by decide +kernel
theorem dX2_told_29 : decode cX2_told 29 = .ok (.iload_n 1, 1) := by decide +kernel
theorem dX2_told_30 : decode cX2_told 30 = .ok (.invokevirtual 30, 3) := by decide +kernel
theorem dX2_told_33 : decode cX2_told 33 = .ok (.goto 8, 3) := by decide +kernel
theorem dX2_told_36 : decode cX2_told 36 = .ok (.aload_n 0, 1) := by decide +kernel
theorem dX2_told_37 : decode cX2_told 37 = .ok (.iload_n 1, 1) := by decide +kernel
theorem dX2_told_38 : decode cX2_told 38 = .ok (.invokevirtual 33, 3) := by decide +kernel
theorem dX2_told_41 : decode cX2_told 41 = .ok (.ireturn, 1) := by decide +kernel
theorem dX2_toldByKin_0 : decode cX2_toldByKin 0 = .ok (.aload_n 0, 1) := by decide +kernel
theorem dX2_toldByKin_1 : decode cX2_toldByKin 1 = .ok (.iconst 1, 1) := by decide +kernel
theorem dX2_toldByKin_2 : decode cX2_toldByKin 2 = .ok (.invokevirtual 36, 3) := by decide +kernel
theorem dX2_toldByKin_5 : decode cX2_toldByKin 5 = .ok (.aload_n 0, 1) := by decide +kernel
theorem dX2_toldByKin_6 : decode cX2_toldByKin 6 = .ok (.getfield 15, 3) := by decide +kernel
theorem dX2_toldByKin_9 : decode cX2_toldByKin 9 = .ok (.iload_n 1, 1) := by decide +kernel
theorem dX2_toldByKin_10 : decode cX2_toldByKin 10 = .ok (.iaload, 1) := by decide +kernel
theorem dX2_toldByKin_11 : decode cX2_toldByKin 11 = .ok (.ireturn, 1) := by decide +kernel
theorem dX2_toldByTrained_0 : decode cX2_toldByTrained 0 = .ok (.aload_n 0, 1) := by decide +kernel
theorem dX2_toldByTrained_1 : decode cX2_toldByTrained 1 = .ok (.iconst 2, 1) := by decide +kernel
theorem dX2_toldByTrained_2 : decode cX2_toldByTrained 2 = .ok (.invokevirtual 36, 3) := by decide +kernel
theorem dX2_toldByTrained_5 : decode cX2_toldByTrained 5 = .ok (.aload_n 0, 1) := by decide +kernel
theorem dX2_toldByTrained_6 : decode cX2_toldByTrained 6 = .ok (.iload_n 1, 1) := by decide +kernel
theorem dX2_toldByTrained_7 : decode cX2_toldByTrained 7 = .ok (.invokevirtual 33, 3) := by decide +kernel
theorem dX2_toldByTrained_10 : decode cX2_toldByTrained 10 = .ok (.bipush 100, 2) := by decide +kernel
theorem dX2_toldByTrained_12 : decode cX2_toldByTrained 12 = .ok (.iadd, 1) := by decide +kernel
theorem dX2_toldByTrained_13 : decode cX2_toldByTrained 13 = .ok (.ireturn, 1) := by decide +kernel
theorem dX2_toldBySworn_0 : decode cX2_toldBySworn 0 = .ok (.aload_n 0, 1) := by decide +kernel
theorem dX2_toldBySworn_1 : decode cX2_toldBySworn 1 = .ok (.iconst 3, 1) := by decide +kernel
theorem dX2_toldBySworn_2 : decode cX2_toldBySworn 2 = .ok (.invokevirtual 36, 3) := by decide +kernel
theorem dX2_toldBySworn_5 : decode cX2_toldBySworn 5 = .ok (.aload_n 0, 1) := by decide +kernel
theorem dX2_toldBySworn_6 : decode cX2_toldBySworn 6 = .ok (.iload_n 1, 1) := by decide +kernel
theorem dX2_toldBySworn_7 : decode cX2_toldBySworn 7 = .ok (.invokevirtual 30, 3) := by decide +kernel
theorem dX2_toldBySworn_10 : decode cX2_toldBySworn 10 = .ok (.istore_n 2, 1) := by decide +kernel
theorem dX2_toldBySworn_11 : decode cX2_toldBySworn 11 = .ok (.iload_n 2, 1) := by decide +kernel
theorem dX2_toldBySworn_12 : decode cX2_toldBySworn 12 = .ok (.aload_n 0, 1) := by decide +kernel
theorem dX2_toldBySworn_13 : decode cX2_toldBySworn 13 = .ok (.iload_n 1, 1) := by decide +kernel
theorem dX2_toldBySworn_14 : decode cX2_toldBySworn 14 = .ok (.invokevirtual 33, 3) := by decide +kernel
theorem dX2_toldBySworn_17 : decode cX2_toldBySworn 17 = .ok (.iadd, 1) := by decide +kernel
theorem dX2_toldBySworn_18 : decode cX2_toldBySworn 18 = .ok (.ireturn, 1) := by decide +kernel
theorem dX2_paid_0 : decode cX2_paid 0 = .ok (.aload_n 0, 1) := by decide +kernel
theorem dX2_paid_1 : decode cX2_paid 1 = .ok (.getfield 11, 3) := by decide +kernel
theorem dX2_paid_4 : decode cX2_paid 4 = .ok (.iload_n 1, 1) := by decide +kernel
theorem dX2_paid_5 : decode cX2_paid 5 = .ok (.iaload, 1) := by decide +kernel
theorem dX2_paid_6 : decode cX2_paid 6 = .ok (.iconst 2, 1) := by decide +kernel
theorem dX2_paid_7 : decode cX2_paid 7 = .ok (.if_icmp .ne 11, 3) := by decide +kernel
theorem dX2_paid_10 : decode cX2_paid 10 = .ok (.aload_n 0, 1) := by decide +kernel
theorem dX2_paid_11 : decode cX2_paid 11 = .ok (.iconst 5, 1) := by decide +kernel
theorem dX2_paid_12 : decode cX2_paid 12 = .ok (.invokevirtual 36, 3) := by decide +kernel
theorem dX2_paid_15 : decode cX2_paid 15 = .ok (.bipush 40, 2) := by decide +kernel
theorem dX2_paid_17 : decode cX2_paid 17 = .ok (.ireturn, 1) := by decide +kernel
theorem dX2_paid_18 : decode cX2_paid 18 = .ok (.aload_n 0, 1) := by decide +kernel
theorem dX2_paid_19 : decode cX2_paid 19 = .ok (.iconst 4, 1) := by decide +kernel
theorem dX2_paid_20 : decode cX2_paid 20 = .ok (.invokevirtual 36, 3) := by decide +kernel
theorem dX2_paid_23 : decode cX2_paid 23 = .ok (.iload_n 1, 1) := by decide +kernel
theorem dX2_paid_24 : decode cX2_paid 24 = .ok (.ireturn, 1) := by decide +kernel
theorem dX2_mark_0 : decode cX2_mark 0 = .ok (.aload_n 0, 1) := by decide +kernel
theorem dX2_mark_1 : decode cX2_mark 1 = .ok (.bipush 31, 2) := by decide +kernel
theorem dX2_mark_3 : decode cX2_mark 3 = .ok (.aload_n 0, 1) := by decide +kernel
theorem dX2_mark_4 : decode cX2_mark 4 = .ok (.getfield 40, 3) := by decide +kernel
theorem dX2_mark_7 : decode cX2_mark 7 = .ok (.imul, 1) := by decide +kernel
theorem dX2_mark_8 : decode cX2_mark 8 = .ok (.iload_n 1, 1) := by decide +kernel
theorem dX2_mark_9 : decode cX2_mark 9 = .ok (.iadd, 1) := by decide +kernel
theorem dX2_mark_10 : decode cX2_mark 10 = .ok (.putfield 40, 3) := by decide +kernel
theorem dX2_mark_13 : decode cX2_mark 13 = .ok (.return_, 1) := by decide +kernel
theorem dX3_init_0 : decode cX3_init 0 = .ok (.aload_n 0, 1) := by decide +kernel
theorem dX3_init_1 : decode cX3_init 1 = .ok (.invokespecial 3, 3) := by decide +kernel
theorem dX3_init_4 : decode cX3_init 4 = .ok (.aload_n 0, 1) := by decide +kernel
theorem dX3_init_5 : decode cX3_init 5 = .ok (.bipush 6, 2) := by decide +kernel
theorem dX3_init_7 : decode cX3_init 7 = .ok (.bipush 6, 2) := by decide +kernel
theorem dX3_init_9 : decode cX3_init 9 = .ok (.multianewarray 9 2, 4) := by decide +kernel
theorem dX3_init_13 : decode cX3_init 13 = .ok (.putfield 11, 3) := by decide +kernel
theorem dX3_init_16 : decode cX3_init 16 = .ok (.aload_n 0, 1) := by decide +kernel
theorem dX3_init_17 : decode cX3_init 17 = .ok (.bipush 6, 2) := by decide +kernel
theorem dX3_init_19 : decode cX3_init 19 = .ok (.bipush 6, 2) := by decide +kernel
theorem dX3_init_21 : decode cX3_init 21 = .ok (.multianewarray 9 2, 4) := by decide +kernel
theorem dX3_init_25 : decode cX3_init 25 = .ok (.putfield 16, 3) := by decide +kernel
theorem dX3_init_28 : decode cX3_init 28 = .ok (.aload_n 0, 1) := by decide +kernel
theorem dX3_init_29 : decode cX3_init 29 = .ok (.aload_n 1, 1) := by decide +kernel
theorem dX3_init_30 : decode cX3_init 30 = .ok (.putfield 19, 3) := by decide +kernel
theorem dX3_init_33 : decode cX3_init 33 = .ok (.aload_n 0, 1) := by decide +kernel
theorem dX3_init_34 : decode cX3_init 34 = .ok (.aload_n 2, 1) := by decide +kernel
theorem dX3_init_35 : decode cX3_init 35 = .ok (.putfield 23, 3) := by decide +kernel
theorem dX3_init_38 : decode cX3_init 38 = .ok (.return_, 1) := by decide +kernel
theorem dX3_through_0 : decode cX3_through 0 = .ok (.iconst 0, 1) := by decide +kernel
theorem dX3_through_1 : decode cX3_through 1 = .ok (.istore_n 3, 1) := by decide +kernel
theorem dX3_through_2 : decode cX3_through 2 = .ok (.iload_n 3, 1) := by decide +kernel
theorem dX3_through_3 : decode cX3_through 3 = .ok (.aload_n 0, 1) := by decide +kernel
theorem dX3_through_4 : decode cX3_through 4 = .ok (.getfield 19, 3) := by decide +kernel
theorem dX3_through_7 : decode cX3_through 7 = .ok (.getfield 27, 3) := by decide +kernel
theorem dX3_through_10 : decode cX3_through 10 = .ok (.if_icmp .ge 43, 3) := by decide +kernel
theorem dX3_through_13 : decode cX3_through 13 = .ok (.aload_n 0, 1) := by decide +kernel
theorem dX3_through_14 : decode cX3_through 14 = .ok (.getfield 19, 3) := by decide +kernel
theorem dX3_through_17 : decode cX3_through 17 = .ok (.aload_n 0, 1) := by decide +kernel
theorem dX3_through_18 : decode cX3_through 18 = .ok (.getfield 11, 3) := by decide +kernel
theorem dX3_through_21 : decode cX3_through 21 = .ok (.iload_n 3, 1) := by decide +kernel
theorem dX3_through_22 : decode cX3_through 22 = .ok (.aaload, 1) := by decide +kernel
theorem dX3_through_23 : decode cX3_through 23 = .ok (.iconst 0, 1) := by decide +kernel
theorem dX3_through_24 : decode cX3_through 24 = .ok (.iload_n 3, 1) := by decide +kernel
theorem dX3_through_25 : decode cX3_through 25 = .ok (.iload_n 1, 1) := by decide +kernel
theorem dX3_through_26 : decode cX3_through 26 = .ok (.iload_n 2, 1) := by decide +kernel
theorem dX3_through_27 : decode cX3_through 27 = .ok (.invokevirtual 33, 3) := by decide +kernel
theorem dX3_through_30 : decode cX3_through 30 = .ok (.aload_n 0, 1) := by decide +kernel
theorem dX3_through_31 : decode cX3_through 31 = .ok (.getfield 19, 3) := by decide +kernel
theorem dX3_through_34 : decode cX3_through 34 = .ok (.aload_n 0, 1) := by decide +kernel
theorem dX3_through_35 : decode cX3_through 35 = .ok (.getfield 16, 3) := by decide +kernel
theorem dX3_through_38 : decode cX3_through 38 = .ok (.iload_n 3, 1) := by decide +kernel
theorem dX3_through_39 : decode cX3_through 39 = .ok (.aaload, 1) := by decide +kernel
theorem dX3_through_40 : decode cX3_through 40 = .ok (.iconst 1, 1) := by decide +kernel
theorem dX3_through_41 : decode cX3_through 41 = .ok (.iload_n 3, 1) := by decide +kernel
theorem dX3_through_42 : decode cX3_through 42 = .ok (.iload_n 1, 1) := by decide +kernel
theorem dX3_through_43 : decode cX3_through 43 = .ok (.iload_n 2, 1) := by decide +kernel
theorem dX3_through_44 : decode cX3_through 44 = .ok (.invokevirtual 33, 3) := by decide +kernel
theorem dX3_through_47 : decode cX3_through 47 = .ok (.iinc 3 1, 3) := by decide +kernel
theorem dX3_through_50 : decode cX3_through 50 = .ok (.goto (-48), 3) := by decide +kernel
theorem dX3_through_53 : decode cX3_through 53 = .ok (.return_, 1) := by decide +kernel
theorem dX3_heardTimes_0 : decode cX3_heardTimes 0 = .ok (.iconst 0, 1) := by decide +kernel
theorem dX3_heardTimes_1 : decode cX3_heardTimes 1 = .ok (.istore_n 3, 1) := by decide +kernel
theorem dX3_heardTimes_2 : decode cX3_heardTimes 2 = .ok (.iconst 0, 1) := by decide +kernel
theorem dX3_heardTimes_3 : decode cX3_heardTimes 3 = .ok (.istore 4, 2) := by decide +kernel
theorem dX3_heardTimes_5 : decode cX3_heardTimes 5 = .ok (.iload 4, 2) := by decide +kernel
theorem dX3_heardTimes_7 : decode cX3_heardTimes 7 = .ok (.aload_n 0, 1) := by decide +kernel
theorem dX3_heardTimes_8 : decode cX3_heardTimes 8 = .ok (.getfield 19, 3) := by decide +kernel
theorem dX3_heardTimes_11 : decode cX3_heardTimes 11 = .ok (.getfield 27, 3) := by decide +kernel
theorem dX3_heardTimes_14 : decode cX3_heardTimes 14 = .ok (.if_icmp .ge 20, 3) := by decide +kernel
theorem dX3_heardTimes_17 : decode cX3_heardTimes 17 = .ok (.iload_n 3, 1) := by decide +kernel
theorem dX3_heardTimes_18 : decode cX3_heardTimes 18 = .ok (.aload_n 0, 1) := by decide +kernel
theorem dX3_heardTimes_19 : decode cX3_heardTimes 19 = .ok (.iload_n 1, 1) := by decide +kernel
theorem dX3_heardTimes_20 : decode cX3_heardTimes 20 = .ok (.iload 4, 2) := by decide +kernel
theorem dX3_heardTimes_22 : decode cX3_heardTimes 22 = .ok (.iload_n 2, 1) := by decide +kernel
theorem dX3_heardTimes_23 : decode cX3_heardTimes 23 = .ok (.invokevirtual 37, 3) := by decide +kernel
theorem dX3_heardTimes_26 : decode cX3_heardTimes 26 = .ok (.iadd, 1) := by decide +kernel
theorem dX3_heardTimes_27 : decode cX3_heardTimes 27 = .ok (.istore_n 3, 1) := by decide +kernel
theorem dX3_heardTimes_28 : decode cX3_heardTimes 28 = .ok (.iinc 4 1, 3) := by decide +kernel
theorem dX3_heardTimes_31 : decode cX3_heardTimes 31 = .ok (.goto (-26), 3) := by decide +kernel
theorem dX3_heardTimes_34 : decode cX3_heardTimes 34 = .ok (.iload_n 3, 1) := by decide +kernel
theorem dX3_heardTimes_35 : decode cX3_heardTimes 35 = .ok (.ireturn, 1) := by decide +kernel
theorem dX3_nothing_0 : decode cX3_nothing 0 = .ok (.ldc 41, 2) := by decide +kernel
theorem dX3_nothing_2 : decode cX3_nothing 2 = .ok (.istore_n 2, 1) := by decide +kernel
theorem dX3_nothing_3 : decode cX3_nothing 3 = .ok (.iconst 0, 1) := by decide +kernel
theorem dX3_nothing_4 : decode cX3_nothing 4 = .ok (.istore_n 3, 1) := by decide +kernel
theorem dX3_nothing_5 : decode cX3_nothing 5 = .ok (.iload_n 3, 1) := by decide +kernel
theorem dX3_nothing_6 : decode cX3_nothing 6 = .ok (.aload_n 0, 1) := by decide +kernel
theorem dX3_nothing_7 : decode cX3_nothing 7 = .ok (.getfield 19, 3) := by decide +kernel
theorem dX3_nothing_10 : decode cX3_nothing 10 = .ok (.getfield 27, 3) := by decide +kernel
theorem dX3_nothing_13 : decode cX3_nothing 13 = .ok (.if_icmp .ge 18, 3) := by decide +kernel
theorem dX3_nothing_16 : decode cX3_nothing 16 = .ok (.iload_n 2, 1) := by decide +kernel
theorem dX3_nothing_17 : decode cX3_nothing 17 = .ok (.aload_n 0, 1) := by decide +kernel
theorem dX3_nothing_18 : decode cX3_nothing 18 = .ok (.iload_n 1, 1) := by decide +kernel
theorem dX3_nothing_19 : decode cX3_nothing 19 = .ok (.iload_n 3, 1) := by decide +kernel
theorem dX3_nothing_20 : decode cX3_nothing 20 = .ok (.invokevirtual 42, 3) := by decide +kernel
theorem dX3_nothing_23 : decode cX3_nothing 23 = .ok (.isub, 1) := by decide +kernel
theorem dX3_nothing_24 : decode cX3_nothing 24 = .ok (.istore_n 2, 1) := by decide +kernel
theorem dX3_nothing_25 : decode cX3_nothing 25 = .ok (.iinc 3 1, 3) := by decide +kernel
theorem dX3_nothing_28 : decode cX3_nothing 28 = .ok (.goto (-23), 3) := by decide +kernel
theorem dX3_nothing_31 : decode cX3_nothing 31 = .ok (.iload_n 2, 1) := by decide +kernel
theorem dX3_nothing_32 : decode cX3_nothing 32 = .ok (.ireturn, 1) := by decide +kernel
theorem dX3_reachedTimes_0 : decode cX3_reachedTimes 0 = .ok (.aload_n 0, 1) := by decide +kernel
theorem dX3_reachedTimes_1 : decode cX3_reachedTimes 1 = .ok (.getfield 19, 3) := by decide +kernel
theorem dX3_reachedTimes_4 : decode cX3_reachedTimes 4 = .ok (.iconst 0, 1) := by decide +kernel
theorem dX3_reachedTimes_5 : decode cX3_reachedTimes 5 = .ok (.iload_n 1, 1) := by decide +kernel
theorem dX3_reachedTimes_6 : decode cX3_reachedTimes 6 = .ok (.invokevirtual 46, 3) := by decide +kernel
theorem dX3_reachedTimes_9 : decode cX3_reachedTimes 9 = .ok (.istore_n 3, 1) := by decide +kernel
theorem dX3_reachedTimes_10 : decode cX3_reachedTimes 10 = .ok (.iconst 0, 1) := by decide +kernel
theorem dX3_reachedTimes_11 : decode cX3_reachedTimes 11 = .ok (.istore 4, 2) := by decide +kernel
theorem dX3_reachedTimes_13 : decode cX3_reachedTimes 13 = .ok (.iconst 0, 1) := by decide +kernel
theorem dX3_reachedTimes_14 : decode cX3_reachedTimes 14 = .ok (.istore 5, 2) := by decide +kernel
theorem dX3_reachedTimes_16 : decode cX3_reachedTimes 16 = .ok (.iload 5, 2) := by decide +kernel
theorem dX3_reachedTimes_18 : decode cX3_reachedTimes 18 = .ok (.aload_n 0, 1) := by decide +kernel
theorem dX3_reachedTimes_19 : decode cX3_reachedTimes 19 = .ok (.getfield 19, 3) := by decide +kernel
theorem dX3_reachedTimes_22 : decode cX3_reachedTimes 22 = .ok (.getfield 27, 3) := by decide +kernel
theorem dX3_reachedTimes_25 : decode cX3_reachedTimes 25 = .ok (.if_icmp .ge 23, 3) := by decide +kernel
theorem dX3_reachedTimes_28 : decode cX3_reachedTimes 28 = .ok (.iload 4, 2) := by decide +kernel
theorem dX3_reachedTimes_30 : decode cX3_reachedTimes 30 = .ok (.aload_n 0, 1) := by decide +kernel
theorem dX3_reachedTimes_31 : decode cX3_reachedTimes 31 = .ok (.iload_n 1, 1) := by decide +kernel
theorem dX3_reachedTimes_32 : decode cX3_reachedTimes 32 = .ok (.iload_n 3, 1) := by decide +kernel
theorem dX3_reachedTimes_33 : decode cX3_reachedTimes 33 = .ok (.iload 5, 2) := by decide +kernel
theorem dX3_reachedTimes_35 : decode cX3_reachedTimes 35 = .ok (.iload_n 2, 1) := by decide +kernel
theorem dX3_reachedTimes_36 : decode cX3_reachedTimes 36 = .ok (.invokevirtual 49, 3) := by decide +kernel
theorem dX3_reachedTimes_39 : decode cX3_reachedTimes 39 = .ok (.iadd, 1) := by decide +kernel
theorem dX3_reachedTimes_40 : decode cX3_reachedTimes 40 = .ok (.istore 4, 2) := by decide +kernel
theorem dX3_reachedTimes_42 : decode cX3_reachedTimes 42 = .ok (.iinc 5 1, 3) := by decide +kernel
theorem dX3_reachedTimes_45 : decode cX3_reachedTimes 45 = .ok (.goto (-29), 3) := by decide +kernel
theorem dX3_reachedTimes_48 : decode cX3_reachedTimes 48 = .ok (.iload 4, 2) := by decide +kernel
theorem dX3_reachedTimes_50 : decode cX3_reachedTimes 50 = .ok (.ireturn, 1) := by decide +kernel
theorem dX3_saidTimes_0 : decode cX3_saidTimes 0 = .ok (.iconst 0, 1) := by decide +kernel
theorem dX3_saidTimes_1 : decode cX3_saidTimes 1 = .ok (.istore_n 3, 1) := by decide +kernel
theorem dX3_saidTimes_2 : decode cX3_saidTimes 2 = .ok (.iconst 0, 1) := by decide +kernel
theorem dX3_saidTimes_3 : decode cX3_saidTimes 3 = .ok (.istore 4, 2) := by decide +kernel
theorem dX3_saidTimes_5 : decode cX3_saidTimes 5 = .ok (.iload 4, 2) := by decide +kernel
theorem dX3_saidTimes_7 : decode cX3_saidTimes 7 = .ok (.aload_n 0, 1) := by decide +kernel
theorem dX3_saidTimes_8 : decode cX3_saidTimes 8 = .ok (.getfield 19, 3) := by decide +kernel
theorem dX3_saidTimes_11 : decode cX3_saidTimes 11 = .ok (.getfield 27, 3) := by decide +kernel
theorem dX3_saidTimes_14 : decode cX3_saidTimes 14 = .ok (.if_icmp .ge 34, 3) := by decide +kernel
theorem dX3_saidTimes_17 : decode cX3_saidTimes 17 = .ok (.aload_n 0, 1) := by decide +kernel
theorem dX3_saidTimes_18 : decode cX3_saidTimes 18 = .ok (.getfield 19, 3) := by decide +kernel
theorem dX3_saidTimes_21 : decode cX3_saidTimes 21 = .ok (.iconst 1, 1) := by decide +kernel
theorem dX3_saidTimes_22 : decode cX3_saidTimes 22 = .ok (.iload 4, 2) := by decide +kernel
theorem dX3_saidTimes_24 : decode cX3_saidTimes 24 = .ok (.invokevirtual 46, 3) := by decide +kernel
theorem dX3_saidTimes_27 : decode cX3_saidTimes 27 = .ok (.iload_n 2, 1) := by decide +kernel
theorem dX3_saidTimes_28 : decode cX3_saidTimes 28 = .ok (.if_icmp .ne 14, 3) := by decide +kernel
theorem dX3_saidTimes_31 : decode cX3_saidTimes 31 = .ok (.iload_n 3, 1) := by decide +kernel
theorem dX3_saidTimes_32 : decode cX3_saidTimes 32 = .ok (.aload_n 0, 1) := by decide +kernel
theorem dX3_saidTimes_33 : decode cX3_saidTimes 33 = .ok (.iload_n 1, 1) := by decide +kernel
theorem dX3_saidTimes_34 : decode cX3_saidTimes 34 = .ok (.iload 4, 2) := by decide +kernel
theorem dX3_saidTimes_36 : decode cX3_saidTimes 36 = .ok (.iload_n 2, 1) := by decide +kernel
theorem dX3_saidTimes_37 : decode cX3_saidTimes 37 = .ok (.invokevirtual 37, 3) := by decide +kernel
theorem dX3_saidTimes_40 : decode cX3_saidTimes 40 = .ok (.iadd, 1) := by decide +kernel
theorem dX3_saidTimes_41 : decode cX3_saidTimes 41 = .ok (.istore_n 3, 1) := by decide +kernel
theorem dX3_saidTimes_42 : decode cX3_saidTimes 42 = .ok (.iinc 4 1, 3) := by decide +kernel
theorem dX3_saidTimes_45 : decode cX3_saidTimes 45 = .ok (.goto (-40), 3) := by decide +kernel
theorem dX3_saidTimes_48 : decode cX3_saidTimes 48 = .ok (.iload_n 3, 1) := by decide +kernel
theorem dX3_saidTimes_49 : decode cX3_saidTimes 49 = .ok (.ireturn, 1) := by decide +kernel
theorem dX3_overTimes_0 : decode cX3_overTimes 0 = .ok (.aload_n 0, 1) := by decide +kernel
theorem dX3_overTimes_1 : decode cX3_overTimes 1 = .ok (.getfield 19, 3) := by decide +kernel
theorem dX3_overTimes_4 : decode cX3_overTimes 4 = .ok (.iconst 0, 1) := by decide +kernel
theorem dX3_overTimes_5 : decode cX3_overTimes 5 = .ok (.iload_n 1, 1) := by decide +kernel
theorem dX3_overTimes_6 : decode cX3_overTimes 6 = .ok (.invokevirtual 46, 3) := by decide +kernel
theorem dX3_overTimes_9 : decode cX3_overTimes 9 = .ok (.istore_n 2, 1) := by decide +kernel
theorem dX3_overTimes_10 : decode cX3_overTimes 10 = .ok (.iconst 0, 1) := by decide +kernel
theorem dX3_overTimes_11 : decode cX3_overTimes 11 = .ok (.istore_n 3, 1) := by decide +kernel
theorem dX3_overTimes_12 : decode cX3_overTimes 12 = .ok (.iconst 0, 1) := by decide +kernel
theorem dX3_overTimes_13 : decode cX3_overTimes 13 = .ok (.istore 4, 2) := by decide +kernel
theorem dX3_overTimes_15 : decode cX3_overTimes 15 = .ok (.iload 4, 2) := by decide +kernel
theorem dX3_overTimes_17 : decode cX3_overTimes 17 = .ok (.aload_n 0, 1) := by decide +kernel
theorem dX3_overTimes_18 : decode cX3_overTimes 18 = .ok (.getfield 19, 3) := by decide +kernel
theorem dX3_overTimes_21 : decode cX3_overTimes 21 = .ok (.getfield 27, 3) := by decide +kernel
theorem dX3_overTimes_24 : decode cX3_overTimes 24 = .ok (.if_icmp .ge 30, 3) := by decide +kernel
theorem dX3_overTimes_27 : decode cX3_overTimes 27 = .ok (.iload_n 3, 1) := by decide +kernel
theorem dX3_overTimes_28 : decode cX3_overTimes 28 = .ok (.aload_n 0, 1) := by decide +kernel
theorem dX3_overTimes_29 : decode cX3_overTimes 29 = .ok (.iload_n 1, 1) := by decide +kernel
theorem dX3_overTimes_30 : decode cX3_overTimes 30 = .ok (.iload_n 2, 1) := by decide +kernel
theorem dX3_overTimes_31 : decode cX3_overTimes 31 = .ok (.iload 4, 2) := by decide +kernel
theorem dX3_overTimes_33 : decode cX3_overTimes 33 = .ok (.aload_n 0, 1) := by decide +kernel
theorem dX3_overTimes_34 : decode cX3_overTimes 34 = .ok (.getfield 19, 3) := by decide +kernel
theorem dX3_overTimes_37 : decode cX3_overTimes 37 = .ok (.iconst 1, 1) := by decide +kernel
theorem dX3_overTimes_38 : decode cX3_overTimes 38 = .ok (.iload 4, 2) := by decide +kernel
theorem dX3_overTimes_40 : decode cX3_overTimes 40 = .ok (.invokevirtual 46, 3) := by decide +kernel
theorem dX3_overTimes_43 : decode cX3_overTimes 43 = .ok (.invokevirtual 49, 3) := by decide +kernel
theorem dX3_overTimes_46 : decode cX3_overTimes 46 = .ok (.iadd, 1) := by decide +kernel
theorem dX3_overTimes_47 : decode cX3_overTimes 47 = .ok (.istore_n 3, 1) := by decide +kernel
theorem dX3_overTimes_48 : decode cX3_overTimes 48 = .ok (.iinc 4 1, 3) := by decide +kernel
theorem dX3_overTimes_51 : decode cX3_overTimes 51 = .ok (.goto (-36), 3) := by decide +kernel
theorem dX3_overTimes_54 : decode cX3_overTimes 54 = .ok (.iload_n 3, 1) := by decide +kernel
theorem dX3_overTimes_55 : decode cX3_overTimes 55 = .ok (.ireturn, 1) := by decide +kernel
theorem dX3_bestOver_0 : decode cX3_bestOver 0 = .ok (.bipush (-9), 2) := by decide +kernel
theorem dX3_bestOver_2 : decode cX3_bestOver 2 = .ok (.istore_n 2, 1) := by decide +kernel
theorem dX3_bestOver_3 : decode cX3_bestOver 3 = .ok (.iconst (-1), 1) := by decide +kernel
theorem dX3_bestOver_4 : decode cX3_bestOver 4 = .ok (.istore_n 3, 1) := by decide +kernel
theorem dX3_bestOver_5 : decode cX3_bestOver 5 = .ok (.iconst 0, 1) := by decide +kernel
theorem dX3_bestOver_6 : decode cX3_bestOver 6 = .ok (.istore 4, 2) := by decide +kernel
theorem dX3_bestOver_8 : decode cX3_bestOver 8 = .ok (.iload 4, 2) := by decide +kernel
theorem dX3_bestOver_10 : decode cX3_bestOver 10 = .ok (.aload_n 0, 1) := by decide +kernel
theorem dX3_bestOver_11 : decode cX3_bestOver 11 = .ok (.getfield 19, 3) := by decide +kernel
theorem dX3_bestOver_14 : decode cX3_bestOver 14 = .ok (.getfield 27, 3) := by decide +kernel
theorem dX3_bestOver_17 : decode cX3_bestOver 17 = .ok (.if_icmp .ge 39, 3) := by decide +kernel
theorem dX3_bestOver_20 : decode cX3_bestOver 20 = .ok (.iload_n 1, 1) := by decide +kernel
theorem dX3_bestOver_21 : decode cX3_bestOver 21 = .ok (.iload 4, 2) := by decide +kernel
theorem dX3_bestOver_23 : decode cX3_bestOver 23 = .ok (.ishr, 1) := by decide +kernel
theorem dX3_bestOver_24 : decode cX3_bestOver 24 = .ok (.iconst 1, 1) := by decide +kernel
theorem dX3_bestOver_25 : decode cX3_bestOver 25 = .ok (.iand, 1) := by decide +kernel
theorem dX3_bestOver_26 : decode cX3_bestOver 26 = .ok (.iconst 1, 1) := by decide +kernel
theorem dX3_bestOver_27 : decode cX3_bestOver 27 = .ok (.if_icmp .ne 23, 3) := by decide +kernel
theorem dX3_bestOver_30 : decode cX3_bestOver 30 = .ok (.aload_n 0, 1) := by decide +kernel
theorem dX3_bestOver_31 : decode cX3_bestOver 31 = .ok (.iload 4, 2) := by decide +kernel
theorem dX3_bestOver_33 : decode cX3_bestOver 33 = .ok (.invokevirtual 53, 3) := by decide +kernel
theorem dX3_bestOver_36 : decode cX3_bestOver 36 = .ok (.istore 5, 2) := by decide +kernel
theorem dX3_bestOver_38 : decode cX3_bestOver 38 = .ok (.iload 5, 2) := by decide +kernel
theorem dX3_bestOver_40 : decode cX3_bestOver 40 = .ok (.iload_n 3, 1) := by decide +kernel
theorem dX3_bestOver_41 : decode cX3_bestOver 41 = .ok (.if_icmp .le 9, 3) := by decide +kernel
theorem dX3_bestOver_44 : decode cX3_bestOver 44 = .ok (.iload 4, 2) := by decide +kernel
theorem dX3_bestOver_46 : decode cX3_bestOver 46 = .ok (.istore_n 2, 1) := by decide +kernel
theorem dX3_bestOver_47 : decode cX3_bestOver 47 = .ok (.iload 5, 2) := by decide +kernel
theorem dX3_bestOver_49 : decode cX3_bestOver 49 = .ok (.istore_n 3, 1) := by decide +kernel
theorem dX3_bestOver_50 : decode cX3_bestOver 50 = .ok (.iinc 4 1, 3) := by decide +kernel
theorem dX3_bestOver_53 : decode cX3_bestOver 53 = .ok (.goto (-45), 3) := by decide +kernel
theorem dX3_bestOver_56 : decode cX3_bestOver 56 = .ok (.iload_n 2, 1) := by decide +kernel
theorem dX3_bestOver_57 : decode cX3_bestOver 57 = .ok (.ireturn, 1) := by decide +kernel
theorem dX3_truth_0 : decode cX3_truth 0 = .ok (.aload_n 0, 1) := by decide +kernel
theorem dX3_truth_1 : decode cX3_truth 1 = .ok (.iload_n 1, 1) := by decide +kernel
theorem dX3_truth_2 : decode cX3_truth 2 = .ok (.iload_n 2, 1) := by decide +kernel
theorem dX3_truth_3 : decode cX3_truth 3 = .ok (.invokevirtual 42, 3) := by decide +kernel
theorem dX3_truth_6 : decode cX3_truth 6 = .ok (.istore_n 3, 1) := by decide +kernel
theorem dX3_truth_7 : decode cX3_truth 7 = .ok (.iload_n 3, 1) := by decide +kernel
theorem dX3_truth_8 : decode cX3_truth 8 = .ok (.ifCond .ne 7, 3) := by decide +kernel
theorem dX3_truth_11 : decode cX3_truth 11 = .ok (.iconst 0, 1) := by decide +kernel
theorem dX3_truth_12 : decode cX3_truth 12 = .ok (.goto 18, 3) := by decide +kernel
theorem dX3_truth_15 : decode cX3_truth 15 = .ok (.ldc2_w 57, 3) := by decide +kernel
theorem dX3_truth_18 : decode cX3_truth 18 = .ok (.aload_n 0, 1) := by decide +kernel
theorem dX3_truth_19 : decode cX3_truth 19 = .ok (.iload_n 1, 1) := by decide +kernel
theorem dX3_truth_20 : decode cX3_truth 20 = .ok (.iload_n 2, 1) := by decide +kernel
theorem dX3_truth_21 : decode cX3_truth 21 = .ok (.invokevirtual 59, 3) := by decide +kernel
theorem dX3_truth_24 : decode cX3_truth 24 = .ok (.i2l, 1) := by decide +kernel
theorem dX3_truth_25 : decode cX3_truth 25 = .ok (.lmul, 1) := by decide +kernel
theorem dX3_truth_26 : decode cX3_truth 26 = .ok (.iload_n 3, 1) := by decide +kernel
theorem dX3_truth_27 : decode cX3_truth 27 = .ok (.i2l, 1) := by decide +kernel
theorem dX3_truth_28 : decode cX3_truth 28 = .ok (.ldiv, 1) := by decide +kernel
theorem dX3_truth_29 : decode cX3_truth 29 = .ok (.l2i, 1) := by decide +kernel
theorem dX3_truth_30 : decode cX3_truth 30 = .ok (.ireturn, 1) := by decide +kernel
theorem dX3_saidAndHeard_0 : decode cX3_saidAndHeard 0 = .ok (.iconst 0, 1) := by decide +kernel
theorem dX3_saidAndHeard_1 : decode cX3_saidAndHeard 1 = .ok (.istore 4, 2) := by decide +kernel
theorem dX3_saidAndHeard_3 : decode cX3_saidAndHeard 3 = .ok (.iconst 0, 1) := by decide +kernel
theorem dX3_saidAndHeard_4 : decode cX3_saidAndHeard 4 = .ok (.istore 5, 2) := by decide +kernel
theorem dX3_saidAndHeard_6 : decode cX3_saidAndHeard 6 = .ok (.iload 5, 2) := by decide +kernel
theorem dX3_saidAndHeard_8 : decode cX3_saidAndHeard 8 = .ok (.aload_n 0, 1) := by decide +kernel
theorem dX3_saidAndHeard_9 : decode cX3_saidAndHeard 9 = .ok (.getfield 19, 3) := by decide +kernel
theorem dX3_saidAndHeard_12 : decode cX3_saidAndHeard 12 = .ok (.getfield 27, 3) := by decide +kernel
theorem dX3_saidAndHeard_15 : decode cX3_saidAndHeard 15 = .ok (.if_icmp .ge 23, 3) := by decide +kernel
theorem dX3_saidAndHeard_18 : decode cX3_saidAndHeard 18 = .ok (.iload 4, 2) := by decide +kernel
theorem dX3_saidAndHeard_20 : decode cX3_saidAndHeard 20 = .ok (.aload_n 0, 1) := by decide +kernel
theorem dX3_saidAndHeard_21 : decode cX3_saidAndHeard 21 = .ok (.iload_n 1, 1) := by decide +kernel
theorem dX3_saidAndHeard_22 : decode cX3_saidAndHeard 22 = .ok (.iload 5, 2) := by decide +kernel
theorem dX3_saidAndHeard_24 : decode cX3_saidAndHeard 24 = .ok (.iload_n 2, 1) := by decide +kernel
theorem dX3_saidAndHeard_25 : decode cX3_saidAndHeard 25 = .ok (.iload_n 3, 1) := by decide +kernel
theorem dX3_saidAndHeard_26 : decode cX3_saidAndHeard 26 = .ok (.invokevirtual 49, 3) := by decide +kernel
theorem dX3_saidAndHeard_29 : decode cX3_saidAndHeard 29 = .ok (.iadd, 1) := by decide +kernel
theorem dX3_saidAndHeard_30 : decode cX3_saidAndHeard 30 = .ok (.istore 4, 2) := by decide +kernel
theorem dX3_saidAndHeard_32 : decode cX3_saidAndHeard 32 = .ok (.iinc 5 1, 3) := by decide +kernel
theorem dX3_saidAndHeard_35 : decode cX3_saidAndHeard 35 = .ok (.goto (-29), 3) := by decide +kernel
theorem dX3_saidAndHeard_38 : decode cX3_saidAndHeard 38 = .ok (.iload 4, 2) := by decide +kernel
theorem dX3_saidAndHeard_40 : decode cX3_saidAndHeard 40 = .ok (.ireturn, 1) := by decide +kernel
theorem dX3_passing_0 : decode cX3_passing 0 = .ok (.aload_n 0, 1) := by decide +kernel
theorem dX3_passing_1 : decode cX3_passing 1 = .ok (.getfield 11, 3) := by decide +kernel
theorem dX3_passing_4 : decode cX3_passing 4 = .ok (.iload_n 1, 1) := by decide +kernel
theorem dX3_passing_5 : decode cX3_passing 5 = .ok (.aaload, 1) := by decide +kernel
theorem dX3_passing_6 : decode cX3_passing 6 = .ok (.iload_n 2, 1) := by decide +kernel
theorem dX3_passing_7 : decode cX3_passing 7 = .ok (.iaload, 1) := by decide +kernel
theorem dX3_passing_8 : decode cX3_passing 8 = .ok (.aload_n 0, 1) := by decide +kernel
theorem dX3_passing_9 : decode cX3_passing 9 = .ok (.getfield 23, 3) := by decide +kernel
theorem dX3_passing_12 : decode cX3_passing 12 = .ok (.getfield 62, 3) := by decide +kernel
theorem dX3_passing_15 : decode cX3_passing 15 = .ok (.iload_n 2, 1) := by decide +kernel
theorem dX3_passing_16 : decode cX3_passing 16 = .ok (.aaload, 1) := by decide +kernel
theorem dX3_passing_17 : decode cX3_passing 17 = .ok (.iload_n 3, 1) := by decide +kernel
theorem dX3_passing_18 : decode cX3_passing 18 = .ok (.iaload, 1) := by decide +kernel
theorem dX3_passing_19 : decode cX3_passing 19 = .ok (.imul, 1) := by decide +kernel
theorem dX3_passing_20 : decode cX3_passing 20 = .ok (.aload_n 0, 1) := by decide +kernel
theorem dX3_passing_21 : decode cX3_passing 21 = .ok (.getfield 16, 3) := by decide +kernel
theorem dX3_passing_24 : decode cX3_passing 24 = .ok (.iload_n 3, 1) := by decide +kernel
theorem dX3_passing_25 : decode cX3_passing 25 = .ok (.aaload, 1) := by decide +kernel
theorem dX3_passing_26 : decode cX3_passing 26 = .ok (.iload 4, 2) := by decide +kernel
theorem dX3_passing_28 : decode cX3_passing 28 = .ok (.iaload, 1) := by decide +kernel
theorem dX3_passing_29 : decode cX3_passing 29 = .ok (.imul, 1) := by decide +kernel
theorem dX3_passing_30 : decode cX3_passing 30 = .ok (.ireturn, 1) := by decide +kernel
theorem dX4_init_0 : decode cX4_init 0 = .ok (.aload_n 0, 1) := by decide +kernel
theorem dX4_init_1 : decode cX4_init 1 = .ok (.invokespecial 1, 3) := by decide +kernel
theorem dX4_init_4 : decode cX4_init 4 = .ok (.aload_n 0, 1) := by decide +kernel
theorem dX4_init_5 : decode cX4_init 5 = .ok (.bipush 6, 2) := by decide +kernel
theorem dX4_init_7 : decode cX4_init 7 = .ok (.bipush 6, 2) := by decide +kernel
theorem dX4_init_9 : decode cX4_init 9 = .ok (.multianewarray 9 2, 4) := by decide +kernel
theorem dX4_init_13 : decode cX4_init 13 = .ok (.putfield 11, 3) := by decide +kernel
theorem dX4_init_16 : decode cX4_init 16 = .ok (.aload_n 0, 1) := by decide +kernel
theorem dX4_init_17 : decode cX4_init 17 = .ok (.bipush 7, 2) := by decide +kernel
theorem dX4_init_19 : decode cX4_init 19 = .ok (.newarray .long, 2) := by decide +kernel
theorem dX4_init_21 : decode cX4_init 21 = .ok (.putfield 14, 3) := by decide +kernel
theorem dX4_init_24 : decode cX4_init 24 = .ok (.return_, 1) := by decide +kernel
theorem dX4_clear_0 : decode cX4_clear 0 = .ok (.aload_n 0, 1) := by decide +kernel
theorem dX4_clear_1 : decode cX4_clear 1 = .ok (.iconst 0, 1) := by decide +kernel
theorem dX4_clear_2 : decode cX4_clear 2 = .ok (.putfield 18, 3) := by decide +kernel
theorem dX4_clear_5 : decode cX4_clear 5 = .ok (.return_, 1) := by decide +kernel
theorem dX4_isFull_0 : decode cX4_isFull 0 = .ok (.aload_n 0, 1) := by decide +kernel
theorem dX4_isFull_1 : decode cX4_isFull 1 = .ok (.getfield 18, 3) := by decide +kernel
theorem dX4_isFull_4 : decode cX4_isFull 4 = .ok (.bipush 6, 2) := by decide +kernel
theorem dX4_isFull_6 : decode cX4_isFull 6 = .ok (.if_icmp .lt 7, 3) := by decide +kernel
theorem dX4_isFull_9 : decode cX4_isFull 9 = .ok (.iconst 1, 1) := by decide +kernel
theorem dX4_isFull_10 : decode cX4_isFull 10 = .ok (.goto 4, 3) := by decide +kernel
theorem dX4_isFull_13 : decode cX4_isFull 13 = .ok (.iconst 0, 1) := by decide +kernel
theorem dX4_isFull_14 : decode cX4_isFull 14 = .ok (.ireturn, 1) := by decide +kernel
theorem dX4_nextLine_0 : decode cX4_nextLine 0 = .ok (.aload_n 0, 1) := by decide +kernel
theorem dX4_nextLine_1 : decode cX4_nextLine 1 = .ok (.getfield 11, 3) := by decide +kernel
theorem dX4_nextLine_4 : decode cX4_nextLine 4 = .ok (.aload_n 0, 1) := by decide +kernel
theorem dX4_nextLine_5 : decode cX4_nextLine 5 = .ok (.getfield 18, 3) := by decide +kernel
theorem dX4_nextLine_8 : decode cX4_nextLine 8 = .ok (.aaload, 1) := by decide +kernel
theorem dX4_nextLine_9 : decode cX4_nextLine 9 = .ok (.areturn, 1) := by decide +kernel
theorem dX4_keepLine_0 : decode cX4_keepLine 0 = .ok (.aload_n 0, 1) := by decide +kernel
theorem dX4_keepLine_1 : decode cX4_keepLine 1 = .ok (.dup, 1) := by decide +kernel
theorem dX4_keepLine_2 : decode cX4_keepLine 2 = .ok (.getfield 18, 3) := by decide +kernel
theorem dX4_keepLine_5 : decode cX4_keepLine 5 = .ok (.iconst 1, 1) := by decide +kernel
theorem dX4_keepLine_6 : decode cX4_keepLine 6 = .ok (.iadd, 1) := by decide +kernel
theorem dX4_keepLine_7 : decode cX4_keepLine 7 = .ok (.putfield 18, 3) := by decide +kernel
theorem dX4_keepLine_10 : decode cX4_keepLine 10 = .ok (.aload_n 0, 1) := by decide +kernel
theorem dX4_keepLine_11 : decode cX4_keepLine 11 = .ok (.getfield 18, 3) := by decide +kernel
theorem dX4_keepLine_14 : decode cX4_keepLine 14 = .ok (.iconst 1, 1) := by decide +kernel
theorem dX4_keepLine_15 : decode cX4_keepLine 15 = .ok (.isub, 1) := by decide +kernel
theorem dX4_keepLine_16 : decode cX4_keepLine 16 = .ok (.ireturn, 1) := by decide +kernel
theorem dX4_weighYes_0 : decode cX4_weighYes 0 = .ok (.aload_n 0, 1) := by decide +kernel
theorem dX4_weighYes_1 : decode cX4_weighYes 1 = .ok (.getfield 14, 3) := by decide +kernel
theorem dX4_weighYes_4 : decode cX4_weighYes 4 = .ok (.lconst 0, 1) := by decide +kernel
theorem dX4_weighYes_5 : decode cX4_weighYes 5 = .ok (.invokestatic 22, 3) := by decide +kernel
theorem dX4_weighYes_8 : decode cX4_weighYes 8 = .ok (.aload_n 0, 1) := by decide +kernel
theorem dX4_weighYes_9 : decode cX4_weighYes 9 = .ok (.getfield 14, 3) := by decide +kernel
theorem dX4_weighYes_12 : decode cX4_weighYes 12 = .ok (.iconst 0, 1) := by decide +kernel
theorem dX4_weighYes_13 : decode cX4_weighYes 13 = .ok (.lconst 1, 1) := by decide +kernel
theorem dX4_weighYes_14 : decode cX4_weighYes 14 = .ok (.lastore, 1) := by decide +kernel
theorem dX4_weighYes_15 : decode cX4_weighYes 15 = .ok (.aload_n 0, 1) := by decide +kernel
theorem dX4_weighYes_16 : decode cX4_weighYes 16 = .ok (.lconst 1, 1) := by decide +kernel
theorem dX4_weighYes_17 : decode cX4_weighYes 17 = .ok (.putfield 28, 3) := by decide +kernel
theorem dX4_weighYes_20 : decode cX4_weighYes 20 = .ok (.iconst 0, 1) := by decide +kernel
theorem dX4_weighYes_21 : decode cX4_weighYes 21 = .ok (.istore_n 1, 1) := by decide +kernel
theorem dX4_weighYes_22 : decode cX4_weighYes 22 = .ok (.iload_n 1, 1) := by decide +kernel
theorem dX4_weighYes_23 : decode cX4_weighYes 23 = .ok (.aload_n 0, 1) := by decide +kernel
theorem dX4_weighYes_24 : decode cX4_weighYes 24 = .ok (.getfield 18, 3) := by decide +kernel
theorem dX4_weighYes_27 : decode cX4_weighYes 27 = .ok (.if_icmp .ge 32, 3) := by decide +kernel
theorem dX4_weighYes_30 : decode cX4_weighYes 30 = .ok (.aload_n 0, 1) := by decide +kernel
theorem dX4_weighYes_31 : decode cX4_weighYes 31 = .ok (.getfield 11, 3) := by decide +kernel
theorem dX4_weighYes_34 : decode cX4_weighYes 34 = .ok (.iload_n 1, 1) := by decide +kernel
theorem dX4_weighYes_35 : decode cX4_weighYes 35 = .ok (.aaload, 1) := by decide +kernel
theorem dX4_weighYes_36 : decode cX4_weighYes 36 = .ok (.iconst 2, 1) := by decide +kernel
theorem dX4_weighYes_37 : decode cX4_weighYes 37 = .ok (.iaload, 1) := by decide +kernel
theorem dX4_weighYes_38 : decode cX4_weighYes 38 = .ok (.ifCond .ne 15, 3) := by decide +kernel
theorem dX4_weighYes_41 : decode cX4_weighYes 41 = .ok (.aload_n 0, 1) := by decide +kernel
theorem dX4_weighYes_42 : decode cX4_weighYes 42 = .ok (.aload_n 0, 1) := by decide +kernel
theorem dX4_weighYes_43 : decode cX4_weighYes 43 = .ok (.getfield 11, 3) := by decide +kernel
theorem dX4_weighYes_46 : decode cX4_weighYes 46 = .ok (.iload_n 1, 1) := by decide +kernel
theorem dX4_weighYes_47 : decode cX4_weighYes 47 = .ok (.aaload, 1) := by decide +kernel
theorem dX4_weighYes_48 : decode cX4_weighYes 48 = .ok (.iconst 5, 1) := by decide +kernel
theorem dX4_weighYes_49 : decode cX4_weighYes 49 = .ok (.iaload, 1) := by decide +kernel
theorem dX4_weighYes_50 : decode cX4_weighYes 50 = .ok (.invokevirtual 32, 3) := by decide +kernel
theorem dX4_weighYes_53 : decode cX4_weighYes 53 = .ok (.iinc 1 1, 3) := by decide +kernel
theorem dX4_weighYes_56 : decode cX4_weighYes 56 = .ok (.goto (-34), 3) := by decide +kernel
theorem dX4_weighYes_59 : decode cX4_weighYes 59 = .ok (.return_, 1) := by decide +kernel
theorem dX4_weighOne_0 : decode cX4_weighOne 0 = .ok (.bipush 6, 2) := by decide +kernel
theorem dX4_weighOne_2 : decode cX4_weighOne 2 = .ok (.istore_n 2, 1) := by decide +kernel
theorem dX4_weighOne_3 : decode cX4_weighOne 3 = .ok (.iload_n 2, 1) := by decide +kernel
theorem dX4_weighOne_4 : decode cX4_weighOne 4 = .ok (.ifCond .le 40, 3) := by decide +kernel
theorem dX4_weighOne_7 : decode cX4_weighOne 7 = .ok (.aload_n 0, 1) := by decide +kernel
theorem dX4_weighOne_8 : decode cX4_weighOne 8 = .ok (.getfield 14, 3) := by decide +kernel
theorem dX4_weighOne_11 : decode cX4_weighOne 11 = .ok (.iload_n 2, 1) := by decide +kernel
theorem dX4_weighOne_12 : decode cX4_weighOne 12 = .ok (.aload_n 0, 1) := by decide +kernel
theorem dX4_weighOne_13 : decode cX4_weighOne 13 = .ok (.getfield 14, 3) := by decide +kernel
theorem dX4_weighOne_16 : decode cX4_weighOne 16 = .ok (.iload_n 2, 1) := by decide +kernel
theorem dX4_weighOne_17 : decode cX4_weighOne 17 = .ok (.laload, 1) := by decide +kernel
theorem dX4_weighOne_18 : decode cX4_weighOne 18 = .ok (.sipush 1000, 3) := by decide +kernel
theorem dX4_weighOne_21 : decode cX4_weighOne 21 = .ok (.iload_n 1, 1) := by decide +kernel
theorem dX4_weighOne_22 : decode cX4_weighOne 22 = .ok (.isub, 1) := by decide +kernel
theorem dX4_weighOne_23 : decode cX4_weighOne 23 = .ok (.i2l, 1) := by decide +kernel
theorem dX4_weighOne_24 : decode cX4_weighOne 24 = .ok (.lmul, 1) := by decide +kernel
theorem dX4_weighOne_25 : decode cX4_weighOne 25 = .ok (.aload_n 0, 1) := by decide +kernel
theorem dX4_weighOne_26 : decode cX4_weighOne 26 = .ok (.getfield 14, 3) := by decide +kernel
theorem dX4_weighOne_29 : decode cX4_weighOne 29 = .ok (.iload_n 2, 1) := by decide +kernel
theorem dX4_weighOne_30 : decode cX4_weighOne 30 = .ok (.iconst 1, 1) := by decide +kernel
theorem dX4_weighOne_31 : decode cX4_weighOne 31 = .ok (.isub, 1) := by decide +kernel
theorem dX4_weighOne_32 : decode cX4_weighOne 32 = .ok (.laload, 1) := by decide +kernel
theorem dX4_weighOne_33 : decode cX4_weighOne 33 = .ok (.iload_n 1, 1) := by decide +kernel
theorem dX4_weighOne_34 : decode cX4_weighOne 34 = .ok (.i2l, 1) := by decide +kernel
theorem dX4_weighOne_35 : decode cX4_weighOne 35 = .ok (.lmul, 1) := by decide +kernel
theorem dX4_weighOne_36 : decode cX4_weighOne 36 = .ok (.ladd, 1) := by decide +kernel
theorem dX4_weighOne_37 : decode cX4_weighOne 37 = .ok (.lastore, 1) := by decide +kernel
theorem dX4_weighOne_38 : decode cX4_weighOne 38 = .ok (.iinc 2 (-1), 3) := by decide +kernel
theorem dX4_weighOne_41 : decode cX4_weighOne 41 = .ok (.goto (-38), 3) := by decide +kernel
theorem dX4_weighOne_44 : decode cX4_weighOne 44 = .ok (.aload_n 0, 1) := by decide +kernel
theorem dX4_weighOne_45 : decode cX4_weighOne 45 = .ok (.getfield 14, 3) := by decide +kernel
theorem dX4_weighOne_48 : decode cX4_weighOne 48 = .ok (.iconst 0, 1) := by decide +kernel
theorem dX4_weighOne_49 : decode cX4_weighOne 49 = .ok (.dup2, 1) := by decide +kernel
theorem dX4_weighOne_50 : decode cX4_weighOne 50 = .ok (.laload, 1) := by decide +kernel
theorem dX4_weighOne_51 : decode cX4_weighOne 51 = .ok (.sipush 1000, 3) := by decide +kernel
theorem dX4_weighOne_54 : decode cX4_weighOne 54 = .ok (.iload_n 1, 1) := by decide +kernel
theorem dX4_weighOne_55 : decode cX4_weighOne 55 = .ok (.isub, 1) := by decide +kernel
theorem dX4_weighOne_56 : decode cX4_weighOne 56 = .ok (.i2l, 1) := by decide +kernel
theorem dX4_weighOne_57 : decode cX4_weighOne 57 = .ok (.lmul, 1) := by decide +kernel
theorem dX4_weighOne_58 : decode cX4_weighOne 58 = .ok (.lastore, 1) := by decide +kernel
theorem dX4_weighOne_59 : decode cX4_weighOne 59 = .ok (.aload_n 0, 1) := by decide +kernel
theorem dX4_weighOne_60 : decode cX4_weighOne 60 = .ok (.dup, 1) := by decide +kernel
theorem dX4_weighOne_61 : decode cX4_weighOne 61 = .ok (.getfield 28, 3) := by decide +kernel
theorem dX4_weighOne_64 : decode cX4_weighOne 64 = .ok (.ldc2_w 36, 3) := by decide +kernel
theorem dX4_weighOne_67 : decode cX4_weighOne 67 = .ok (.lmul, 1) := by decide +kernel
theorem dX4_weighOne_68 : decode cX4_weighOne 68 = .ok (.putfield 28, 3) := by decide +kernel
theorem dX4_weighOne_71 : decode cX4_weighOne 71 = .ok (.return_, 1) := by decide +kernel
theorem dX4_fewerThan_0 : decode cX4_fewerThan 0 = .ok (.lconst 0, 1) := by decide +kernel
theorem dX4_fewerThan_1 : decode cX4_fewerThan 1 = .ok (.lstore_n 2, 1) := by decide +kernel
theorem dX4_fewerThan_2 : decode cX4_fewerThan 2 = .ok (.iconst 0, 1) := by decide +kernel
theorem dX4_fewerThan_3 : decode cX4_fewerThan 3 = .ok (.istore 4, 2) := by decide +kernel
theorem dX4_fewerThan_5 : decode cX4_fewerThan 5 = .ok (.iload 4, 2) := by decide +kernel
theorem dX4_fewerThan_7 : decode cX4_fewerThan 7 = .ok (.iload_n 1, 1) := by decide +kernel
theorem dX4_fewerThan_8 : decode cX4_fewerThan 8 = .ok (.if_icmp .ge 26, 3) := by decide +kernel
theorem dX4_fewerThan_11 : decode cX4_fewerThan 11 = .ok (.iload 4, 2) := by decide +kernel
theorem dX4_fewerThan_13 : decode cX4_fewerThan 13 = .ok (.bipush 6, 2) := by decide +kernel
theorem dX4_fewerThan_15 : decode cX4_fewerThan 15 = .ok (.if_icmp .gt 19, 3) := by decide +kernel
theorem dX4_fewerThan_18 : decode cX4_fewerThan 18 = .ok (.lload_n 2, 1) := by decide +kernel
theorem dX4_fewerThan_19 : decode cX4_fewerThan 19 = .ok (.aload_n 0, 1) := by decide +kernel
theorem dX4_fewerThan_20 : decode cX4_fewerThan 20 = .ok (.getfield 14, 3) := by decide +kernel
theorem dX4_fewerThan_23 : decode cX4_fewerThan 23 = .ok (.iload 4, 2) := by decide +kernel
theorem dX4_fewerThan_25 : decode cX4_fewerThan 25 = .ok (.laload, 1) := by decide +kernel
theorem dX4_fewerThan_26 : decode cX4_fewerThan 26 = .ok (.ladd, 1) := by decide +kernel
theorem dX4_fewerThan_27 : decode cX4_fewerThan 27 = .ok (.lstore_n 2, 1) := by decide +kernel
theorem dX4_fewerThan_28 : decode cX4_fewerThan 28 = .ok (.iinc 4 1, 3) := by decide +kernel
theorem dX4_fewerThan_31 : decode cX4_fewerThan 31 = .ok (.goto (-26), 3) := by decide +kernel
theorem dX4_fewerThan_34 : decode cX4_fewerThan 34 = .ok (.lload_n 2, 1) := by decide +kernel
theorem dX4_fewerThan_35 : decode cX4_fewerThan 35 = .ok (.lreturn, 1) := by decide +kernel
theorem dX4_bestSet_0 : decode cX4_bestSet 0 = .ok (.iconst 0, 1) := by decide +kernel
theorem dX4_bestSet_1 : decode cX4_bestSet 1 = .ok (.istore_n 2, 1) := by decide +kernel
theorem dX4_bestSet_2 : decode cX4_bestSet 2 = .ok (.iconst 1, 1) := by decide +kernel
theorem dX4_bestSet_3 : decode cX4_bestSet 3 = .ok (.istore_n 3, 1) := by decide +kernel
theorem dX4_bestSet_4 : decode cX4_bestSet 4 = .ok (.iload_n 3, 1) := by decide +kernel
theorem dX4_bestSet_5 : decode cX4_bestSet 5 = .ok (.iconst 1, 1) := by decide +kernel
theorem dX4_bestSet_6 : decode cX4_bestSet 6 = .ok (.aload_n 0, 1) := by decide +kernel
theorem dX4_bestSet_7 : decode cX4_bestSet 7 = .ok (.getfield 18, 3) := by decide +kernel
theorem dX4_bestSet_10 : decode cX4_bestSet 10 = .ok (.ishl, 1) := by decide +kernel
theorem dX4_bestSet_11 : decode cX4_bestSet 11 = .ok (.if_icmp .ge 29, 3) := by decide +kernel
theorem dX4_bestSet_14 : decode cX4_bestSet 14 = .ok (.aload_n 0, 1) := by decide +kernel
theorem dX4_bestSet_15 : decode cX4_bestSet 15 = .ok (.iload_n 3, 1) := by decide +kernel
theorem dX4_bestSet_16 : decode cX4_bestSet 16 = .ok (.invokevirtual 38, 3) := by decide +kernel
theorem dX4_bestSet_19 : decode cX4_bestSet 19 = .ok (.iload_n 1, 1) := by decide +kernel
theorem dX4_bestSet_20 : decode cX4_bestSet 20 = .ok (.if_icmp .gt 14, 3) := by decide +kernel
theorem dX4_bestSet_23 : decode cX4_bestSet 23 = .ok (.aload_n 0, 1) := by decide +kernel
theorem dX4_bestSet_24 : decode cX4_bestSet 24 = .ok (.iload_n 3, 1) := by decide +kernel
theorem dX4_bestSet_25 : decode cX4_bestSet 25 = .ok (.iload_n 2, 1) := by decide +kernel
theorem dX4_bestSet_26 : decode cX4_bestSet 26 = .ok (.invokevirtual 42, 3) := by decide +kernel
theorem dX4_bestSet_29 : decode cX4_bestSet 29 = .ok (.ifCond .eq 5, 3) := by decide +kernel
theorem dX4_bestSet_32 : decode cX4_bestSet 32 = .ok (.iload_n 3, 1) := by decide +kernel
theorem dX4_bestSet_33 : decode cX4_bestSet 33 = .ok (.istore_n 2, 1) := by decide +kernel
theorem dX4_bestSet_34 : decode cX4_bestSet 34 = .ok (.iinc 3 1, 3) := by decide +kernel
theorem dX4_bestSet_37 : decode cX4_bestSet 37 = .ok (.goto (-33), 3) := by decide +kernel
theorem dX4_bestSet_40 : decode cX4_bestSet 40 = .ok (.iload_n 2, 1) := by decide +kernel
theorem dX4_bestSet_41 : decode cX4_bestSet 41 = .ok (.ireturn, 1) := by decide +kernel
theorem dX4_isBetter_0 : decode cX4_isBetter 0 = .ok (.aload_n 0, 1) := by decide +kernel
theorem dX4_isBetter_1 : decode cX4_isBetter 1 = .ok (.iload_n 1, 1) := by decide +kernel
theorem dX4_isBetter_2 : decode cX4_isBetter 2 = .ok (.invokevirtual 46, 3) := by decide +kernel
theorem dX4_isBetter_5 : decode cX4_isBetter 5 = .ok (.istore_n 3, 1) := by decide +kernel
theorem dX4_isBetter_6 : decode cX4_isBetter 6 = .ok (.aload_n 0, 1) := by decide +kernel
theorem dX4_isBetter_7 : decode cX4_isBetter 7 = .ok (.iload_n 2, 1) := by decide +kernel
theorem dX4_isBetter_8 : decode cX4_isBetter 8 = .ok (.invokevirtual 46, 3) := by decide +kernel
theorem dX4_isBetter_11 : decode cX4_isBetter 11 = .ok (.istore 4, 2) := by decide +kernel
theorem dX4_isBetter_13 : decode cX4_isBetter 13 = .ok (.iload_n 3, 1) := by decide +kernel
theorem dX4_isBetter_14 : decode cX4_isBetter 14 = .ok (.iload 4, 2) := by decide +kernel
theorem dX4_isBetter_16 : decode cX4_isBetter 16 = .ok (.if_icmp .gt 22, 3) := by decide +kernel
theorem dX4_isBetter_19 : decode cX4_isBetter 19 = .ok (.iload_n 3, 1) := by decide +kernel
theorem dX4_isBetter_20 : decode cX4_isBetter 20 = .ok (.iload 4, 2) := by decide +kernel
theorem dX4_isBetter_22 : decode cX4_isBetter 22 = .ok (.if_icmp .ne 20, 3) := by decide +kernel
theorem dX4_isBetter_25 : decode cX4_isBetter 25 = .ok (.aload_n 0, 1) := by decide +kernel
theorem dX4_isBetter_26 : decode cX4_isBetter 26 = .ok (.iload_n 1, 1) := by decide +kernel
theorem dX4_isBetter_27 : decode cX4_isBetter 27 = .ok (.invokevirtual 38, 3) := by decide +kernel
theorem dX4_isBetter_30 : decode cX4_isBetter 30 = .ok (.aload_n 0, 1) := by decide +kernel
theorem dX4_isBetter_31 : decode cX4_isBetter 31 = .ok (.iload_n 2, 1) := by decide +kernel
theorem dX4_isBetter_32 : decode cX4_isBetter 32 = .ok (.invokevirtual 38, 3) := by decide +kernel
theorem dX4_isBetter_35 : decode cX4_isBetter 35 = .ok (.if_icmp .ge 7, 3) := by decide +kernel
theorem dX4_isBetter_38 : decode cX4_isBetter 38 = .ok (.iconst 1, 1) := by decide +kernel
theorem dX4_isBetter_39 : decode cX4_isBetter 39 = .ok (.goto 4, 3) := by decide +kernel
theorem dX4_isBetter_42 : decode cX4_isBetter 42 = .ok (.iconst 0, 1) := by decide +kernel
theorem dX4_isBetter_43 : decode cX4_isBetter 43 = .ok (.ireturn, 1) := by decide +kernel
theorem dX4_minutesOf_0 : decode cX4_minutesOf 0 = .ok (.iconst 0, 1) := by decide +kernel
theorem dX4_minutesOf_1 : decode cX4_minutesOf 1 = .ok (.istore_n 2, 1) := by decide +kernel
theorem dX4_minutesOf_2 : decode cX4_minutesOf 2 = .ok (.iconst 0, 1) := by decide +kernel
theorem dX4_minutesOf_3 : decode cX4_minutesOf 3 = .ok (.istore_n 3, 1) := by decide +kernel
theorem dX4_minutesOf_4 : decode cX4_minutesOf 4 = .ok (.iload_n 3, 1) := by decide +kernel
theorem dX4_minutesOf_5 : decode cX4_minutesOf 5 = .ok (.aload_n 0, 1) := by decide +kernel
theorem dX4_minutesOf_6 : decode cX4_minutesOf 6 = .ok (.getfield 18, 3) := by decide +kernel
theorem dX4_minutesOf_9 : decode cX4_minutesOf 9 = .ok (.if_icmp .ge 26, 3) := by decide +kernel
theorem dX4_minutesOf_12 : decode cX4_minutesOf 12 = .ok (.iload_n 2, 1) := by decide +kernel
theorem dX4_minutesOf_13 : decode cX4_minutesOf 13 = .ok (.iload_n 1, 1) := by decide +kernel
theorem dX4_minutesOf_14 : decode cX4_minutesOf 14 = .ok (.iload_n 3, 1) := by decide +kernel
theorem dX4_minutesOf_15 : decode cX4_minutesOf 15 = .ok (.ishr, 1) := by decide +kernel
theorem dX4_minutesOf_16 : decode cX4_minutesOf 16 = .ok (.iconst 1, 1) := by decide +kernel
theorem dX4_minutesOf_17 : decode cX4_minutesOf 17 = .ok (.iand, 1) := by decide +kernel
theorem dX4_minutesOf_18 : decode cX4_minutesOf 18 = .ok (.aload_n 0, 1) := by decide +kernel
theorem dX4_minutesOf_19 : decode cX4_minutesOf 19 = .ok (.getfield 11, 3) := by decide +kernel
theorem dX4_minutesOf_22 : decode cX4_minutesOf 22 = .ok (.iload_n 3, 1) := by decide +kernel
theorem dX4_minutesOf_23 : decode cX4_minutesOf 23 = .ok (.aaload, 1) := by decide +kernel
theorem dX4_minutesOf_24 : decode cX4_minutesOf 24 = .ok (.iconst 4, 1) := by decide +kernel
theorem dX4_minutesOf_25 : decode cX4_minutesOf 25 = .ok (.iaload, 1) := by decide +kernel
theorem dX4_minutesOf_26 : decode cX4_minutesOf 26 = .ok (.imul, 1) := by decide +kernel
theorem dX4_minutesOf_27 : decode cX4_minutesOf 27 = .ok (.iadd, 1) := by decide +kernel
theorem dX4_minutesOf_28 : decode cX4_minutesOf 28 = .ok (.istore_n 2, 1) := by decide +kernel
theorem dX4_minutesOf_29 : decode cX4_minutesOf 29 = .ok (.iinc 3 1, 3) := by decide +kernel
theorem dX4_minutesOf_32 : decode cX4_minutesOf 32 = .ok (.goto (-28), 3) := by decide +kernel
theorem dX4_minutesOf_35 : decode cX4_minutesOf 35 = .ok (.iload_n 2, 1) := by decide +kernel
theorem dX4_minutesOf_36 : decode cX4_minutesOf 36 = .ok (.ireturn, 1) := by decide +kernel
theorem dX4_gainOf_0 : decode cX4_gainOf 0 = .ok (.iconst 0, 1) := by decide +kernel
theorem dX4_gainOf_1 : decode cX4_gainOf 1 = .ok (.istore_n 2, 1) := by decide +kernel
theorem dX4_gainOf_2 : decode cX4_gainOf 2 = .ok (.iconst 0, 1) := by decide +kernel
theorem dX4_gainOf_3 : decode cX4_gainOf 3 = .ok (.istore_n 3, 1) := by decide +kernel
theorem dX4_gainOf_4 : decode cX4_gainOf 4 = .ok (.iload_n 3, 1) := by decide +kernel
theorem dX4_gainOf_5 : decode cX4_gainOf 5 = .ok (.aload_n 0, 1) := by decide +kernel
theorem dX4_gainOf_6 : decode cX4_gainOf 6 = .ok (.getfield 18, 3) := by decide +kernel
theorem dX4_gainOf_9 : decode cX4_gainOf 9 = .ok (.if_icmp .ge 39, 3) := by decide +kernel
theorem dX4_gainOf_12 : decode cX4_gainOf 12 = .ok (.iload_n 2, 1) := by decide +kernel
theorem dX4_gainOf_13 : decode cX4_gainOf 13 = .ok (.iload_n 1, 1) := by decide +kernel
theorem dX4_gainOf_14 : decode cX4_gainOf 14 = .ok (.iload_n 3, 1) := by decide +kernel
theorem dX4_gainOf_15 : decode cX4_gainOf 15 = .ok (.ishr, 1) := by decide +kernel
theorem dX4_gainOf_16 : decode cX4_gainOf 16 = .ok (.iconst 1, 1) := by decide +kernel
theorem dX4_gainOf_17 : decode cX4_gainOf 17 = .ok (.iand, 1) := by decide +kernel
theorem dX4_gainOf_18 : decode cX4_gainOf 18 = .ok (.aload_n 0, 1) := by decide +kernel
theorem dX4_gainOf_19 : decode cX4_gainOf 19 = .ok (.getfield 11, 3) := by decide +kernel
theorem dX4_gainOf_22 : decode cX4_gainOf 22 = .ok (.iload_n 3, 1) := by decide +kernel
theorem dX4_gainOf_23 : decode cX4_gainOf 23 = .ok (.aaload, 1) := by decide +kernel
theorem dX4_gainOf_24 : decode cX4_gainOf 24 = .ok (.iconst 3, 1) := by decide +kernel
theorem dX4_gainOf_25 : decode cX4_gainOf 25 = .ok (.iaload, 1) := by decide +kernel
theorem dX4_gainOf_26 : decode cX4_gainOf 26 = .ok (.imul, 1) := by decide +kernel
theorem dX4_gainOf_27 : decode cX4_gainOf 27 = .ok (.sipush 1000, 3) := by decide +kernel
theorem dX4_gainOf_30 : decode cX4_gainOf 30 = .ok (.aload_n 0, 1) := by decide +kernel
theorem dX4_gainOf_31 : decode cX4_gainOf 31 = .ok (.getfield 11, 3) := by decide +kernel
theorem dX4_gainOf_34 : decode cX4_gainOf 34 = .ok (.iload_n 3, 1) := by decide +kernel
theorem dX4_gainOf_35 : decode cX4_gainOf 35 = .ok (.aaload, 1) := by decide +kernel
theorem dX4_gainOf_36 : decode cX4_gainOf 36 = .ok (.iconst 5, 1) := by decide +kernel
theorem dX4_gainOf_37 : decode cX4_gainOf 37 = .ok (.iaload, 1) := by decide +kernel
theorem dX4_gainOf_38 : decode cX4_gainOf 38 = .ok (.isub, 1) := by decide +kernel
theorem dX4_gainOf_39 : decode cX4_gainOf 39 = .ok (.imul, 1) := by decide +kernel
theorem dX4_gainOf_40 : decode cX4_gainOf 40 = .ok (.iadd, 1) := by decide +kernel
theorem dX4_gainOf_41 : decode cX4_gainOf 41 = .ok (.istore_n 2, 1) := by decide +kernel
theorem dX4_gainOf_42 : decode cX4_gainOf 42 = .ok (.iinc 3 1, 3) := by decide +kernel
theorem dX4_gainOf_45 : decode cX4_gainOf 45 = .ok (.goto (-41), 3) := by decide +kernel
theorem dX4_gainOf_48 : decode cX4_gainOf 48 = .ok (.iload_n 2, 1) := by decide +kernel
theorem dX4_gainOf_49 : decode cX4_gainOf 49 = .ok (.ireturn, 1) := by decide +kernel
theorem dX5_init_0 : decode cX5_init 0 = .ok (.aload_n 0, 1) := by decide +kernel
theorem dX5_init_1 : decode cX5_init 1 = .ok (.invokespecial 3, 3) := by decide +kernel
theorem dX5_init_4 : decode cX5_init 4 = .ok (.aload_n 0, 1) := by decide +kernel
theorem dX5_init_5 : decode cX5_init 5 = .ok (.bipush 12, 2) := by decide +kernel
theorem dX5_init_7 : decode cX5_init 7 = .ok (.bipush 6, 2) := by decide +kernel
theorem dX5_init_9 : decode cX5_init 9 = .ok (.multianewarray 9 2, 4) := by decide +kernel
theorem dX5_init_13 : decode cX5_init 13 = .ok (.putfield 11, 3) := by decide +kernel
theorem dX5_init_16 : decode cX5_init 16 = .ok (.aload_n 0, 1) := by decide +kernel
theorem dX5_init_17 : decode cX5_init 17 = .ok (.iconst 0, 1) := by decide +kernel
theorem dX5_init_18 : decode cX5_init 18 = .ok (.newarray .int, 2) := by decide +kernel
theorem dX5_init_20 : decode cX5_init 20 = .ok (.putfield 16, 3) := by decide +kernel
theorem dX5_init_23 : decode cX5_init 23 = .ok (.return_, 1) := by decide +kernel
theorem dX5_open_0 : decode cX5_open 0 = .ok (.aload_n 0, 1) := by decide +kernel
theorem dX5_open_1 : decode cX5_open 1 = .ok (.aload_n 1, 1) := by decide +kernel
theorem dX5_open_2 : decode cX5_open 2 = .ok (.putfield 16, 3) := by decide +kernel
theorem dX5_open_5 : decode cX5_open 5 = .ok (.aload_n 0, 1) := by decide +kernel
theorem dX5_open_6 : decode cX5_open 6 = .ok (.iload_n 2, 1) := by decide +kernel
theorem dX5_open_7 : decode cX5_open 7 = .ok (.putfield 20, 3) := by decide +kernel
theorem dX5_open_10 : decode cX5_open 10 = .ok (.aload_n 0, 1) := by decide +kernel
theorem dX5_open_11 : decode cX5_open 11 = .ok (.iload_n 2, 1) := by decide +kernel
theorem dX5_open_12 : decode cX5_open 12 = .ok (.putfield 24, 3) := by decide +kernel
theorem dX5_open_15 : decode cX5_open 15 = .ok (.aload_n 0, 1) := by decide +kernel
theorem dX5_open_16 : decode cX5_open 16 = .ok (.iload_n 2, 1) := by decide +kernel
theorem dX5_open_17 : decode cX5_open 17 = .ok (.iload_n 3, 1) := by decide +kernel
theorem dX5_open_18 : decode cX5_open 18 = .ok (.iadd, 1) := by decide +kernel
theorem dX5_open_19 : decode cX5_open 19 = .ok (.putfield 27, 3) := by decide +kernel
theorem dX5_open_22 : decode cX5_open 22 = .ok (.return_, 1) := by decide +kernel
theorem dX5_place_0 : decode cX5_place 0 = .ok (.aload_n 0, 1) := by decide +kernel
theorem dX5_place_1 : decode cX5_place 1 = .ok (.getfield 24, 3) := by decide +kernel
theorem dX5_place_4 : decode cX5_place 4 = .ok (.aload_n 0, 1) := by decide +kernel
theorem dX5_place_5 : decode cX5_place 5 = .ok (.getfield 20, 3) := by decide +kernel
theorem dX5_place_8 : decode cX5_place 8 = .ok (.isub, 1) := by decide +kernel
theorem dX5_place_9 : decode cX5_place 9 = .ok (.ireturn, 1) := by decide +kernel
theorem dX5_readsTongues_0 : decode cX5_readsTongues 0 = .ok (.aload_n 0, 1) := by decide +kernel
theorem dX5_readsTongues_1 : decode cX5_readsTongues 1 = .ok (.bipush 119, 2) := by decide +kernel
theorem dX5_readsTongues_3 : decode cX5_readsTongues 3 = .ok (.invokevirtual 30, 3) := by decide +kernel
theorem dX5_readsTongues_6 : decode cX5_readsTongues 6 = .ok (.ifCond .ne 5, 3) := by decide +kernel
theorem dX5_readsTongues_9 : decode cX5_readsTongues 9 = .ok (.iconst 0, 1) := by decide +kernel
theorem dX5_readsTongues_10 : decode cX5_readsTongues 10 = .ok (.ireturn, 1) := by decide +kernel
theorem dX5_readsTongues_11 : decode cX5_readsTongues 11 = .ok (.aload_n 0, 1) := by decide +kernel
theorem dX5_readsTongues_12 : decode cX5_readsTongues 12 = .ok (.aload_n 0, 1) := by decide +kernel
theorem dX5_readsTongues_13 : decode cX5_readsTongues 13 = .ok (.iconst 2, 1) := by decide +kernel
theorem dX5_readsTongues_14 : decode cX5_readsTongues 14 = .ok (.bipush 6, 2) := by decide +kernel
theorem dX5_readsTongues_16 : decode cX5_readsTongues 16 = .ok (.invokevirtual 34, 3) := by decide +kernel
theorem dX5_readsTongues_19 : decode cX5_readsTongues 19 = .ok (.putfield 38, 3) := by decide +kernel
theorem dX5_readsTongues_22 : decode cX5_readsTongues 22 = .ok (.aload_n 0, 1) := by decide +kernel
theorem dX5_readsTongues_23 : decode cX5_readsTongues 23 = .ok (.getfield 38, 3) := by decide +kernel
theorem dX5_readsTongues_26 : decode cX5_readsTongues 26 = .ok (.ifCond .lt 61, 3) := by decide +kernel
theorem dX5_readsTongues_29 : decode cX5_readsTongues 29 = .ok (.aload_n 0, 1) := by decide +kernel
theorem dX5_readsTongues_30 : decode cX5_readsTongues 30 = .ok (.iconst 0, 1) := by decide +kernel
theorem dX5_readsTongues_31 : decode cX5_readsTongues 31 = .ok (.aload_n 0, 1) := by decide +kernel
theorem dX5_readsTongues_32 : decode cX5_readsTongues 32 = .ok (.getfield 38, 3) := by decide +kernel
theorem dX5_readsTongues_35 : decode cX5_readsTongues 35 = .ok (.invokevirtual 41, 3) := by decide +kernel
theorem dX5_readsTongues_38 : decode cX5_readsTongues 38 = .ok (.ifCond .eq 49, 3) := by decide +kernel
theorem dX5_readsTongues_41 : decode cX5_readsTongues 41 = .ok (.aload_n 0, 1) := by decide +kernel
theorem dX5_readsTongues_42 : decode cX5_readsTongues 42 = .ok (.bipush 59, 2) := by decide +kernel
theorem dX5_readsTongues_44 : decode cX5_readsTongues 44 = .ok (.invokevirtual 30, 3) := by decide +kernel
theorem dX5_readsTongues_47 : decode cX5_readsTongues 47 = .ok (.ifCond .eq 40, 3) := by decide +kernel
theorem dX5_readsTongues_50 : decode cX5_readsTongues 50 = .ok (.aload_n 0, 1) := by decide +kernel
theorem dX5_readsTongues_51 : decode cX5_readsTongues 51 = .ok (.bipush 98, 2) := by decide +kernel
theorem dX5_readsTongues_53 : decode cX5_readsTongues 53 = .ok (.invokevirtual 30, 3) := by decide +kernel
theorem dX5_readsTongues_56 : decode cX5_readsTongues 56 = .ok (.ifCond .eq 31, 3) := by decide +kernel
theorem dX5_readsTongues_59 : decode cX5_readsTongues 59 = .ok (.aload_n 0, 1) := by decide +kernel
theorem dX5_readsTongues_60 : decode cX5_readsTongues 60 = .ok (.bipush 6, 2) := by decide +kernel
theorem dX5_readsTongues_62 : decode cX5_readsTongues 62 = .ok (.aload_n 0, 1) := by decide +kernel
theorem dX5_readsTongues_63 : decode cX5_readsTongues 63 = .ok (.getfield 38, 3) := by decide +kernel
theorem dX5_readsTongues_66 : decode cX5_readsTongues 66 = .ok (.invokevirtual 41, 3) := by decide +kernel
theorem dX5_readsTongues_69 : decode cX5_readsTongues 69 = .ok (.ifCond .eq 18, 3) := by decide +kernel
theorem dX5_readsTongues_72 : decode cX5_readsTongues 72 = .ok (.aload_n 0, 1) := by decide +kernel
theorem dX5_readsTongues_73 : decode cX5_readsTongues 73 = .ok (.getfield 24, 3) := by decide +kernel
theorem dX5_readsTongues_76 : decode cX5_readsTongues 76 = .ok (.aload_n 0, 1) := by decide +kernel
theorem dX5_readsTongues_77 : decode cX5_readsTongues 77 = .ok (.getfield 27, 3) := by decide +kernel
theorem dX5_readsTongues_80 : decode cX5_readsTongues 80 = .ok (.if_icmp .ne 7, 3) := by decide +kernel
theorem dX5_readsTongues_83 : decode cX5_readsTongues 83 = .ok (.iconst 1, 1) := by decide +kernel
theorem dX5_readsTongues_84 : decode cX5_readsTongues 84 = .ok (.goto 4, 3) := by decide +kernel
theorem dX5_readsTongues_87 : decode cX5_readsTongues 87 = .ok (.iconst 0, 1) := by decide +kernel
theorem dX5_readsTongues_88 : decode cX5_readsTongues 88 = .ok (.ireturn, 1) := by decide +kernel
theorem dX5_readsWitness_0 : decode cX5_readsWitness 0 = .ok (.aload_n 0, 1) := by decide +kernel
theorem dX5_readsWitness_1 : decode cX5_readsWitness 1 = .ok (.bipush 118, 2) := by decide +kernel
theorem dX5_readsWitness_3 : decode cX5_readsWitness 3 = .ok (.invokevirtual 30, 3) := by decide +kernel
theorem dX5_readsWitness_6 : decode cX5_readsWitness 6 = .ok (.ifCond .eq 30, 3) := by decide +kernel
theorem dX5_readsWitness_9 : decode cX5_readsWitness 9 = .ok (.aload_n 0, 1) := by decide +kernel
theorem dX5_readsWitness_10 : decode cX5_readsWitness 10 = .ok (.iconst 0, 1) := by decide +kernel
theorem dX5_readsWitness_11 : decode cX5_readsWitness 11 = .ok (.iload_n 1, 1) := by decide +kernel
theorem dX5_readsWitness_12 : decode cX5_readsWitness 12 = .ok (.invokevirtual 41, 3) := by decide +kernel
theorem dX5_readsWitness_15 : decode cX5_readsWitness 15 = .ok (.ifCond .eq 21, 3) := by decide +kernel
theorem dX5_readsWitness_18 : decode cX5_readsWitness 18 = .ok (.aload_n 0, 1) := by decide +kernel
theorem dX5_readsWitness_19 : decode cX5_readsWitness 19 = .ok (.bipush 59, 2) := by decide +kernel
theorem dX5_readsWitness_21 : decode cX5_readsWitness 21 = .ok (.invokevirtual 30, 3) := by decide +kernel
theorem dX5_readsWitness_24 : decode cX5_readsWitness 24 = .ok (.ifCond .eq 12, 3) := by decide +kernel
theorem dX5_readsWitness_27 : decode cX5_readsWitness 27 = .ok (.aload_n 0, 1) := by decide +kernel
theorem dX5_readsWitness_28 : decode cX5_readsWitness 28 = .ok (.bipush 112, 2) := by decide +kernel
theorem dX5_readsWitness_30 : decode cX5_readsWitness 30 = .ok (.invokevirtual 30, 3) := by decide +kernel
theorem dX5_readsWitness_33 : decode cX5_readsWitness 33 = .ok (.ifCond .ne 5, 3) := by decide +kernel
theorem dX5_readsWitness_36 : decode cX5_readsWitness 36 = .ok (.iconst 0, 1) := by decide +kernel
theorem dX5_readsWitness_37 : decode cX5_readsWitness 37 = .ok (.ireturn, 1) := by decide +kernel
theorem dX5_readsWitness_38 : decode cX5_readsWitness 38 = .ok (.aload_n 0, 1) := by decide +kernel
theorem dX5_readsWitness_39 : decode cX5_readsWitness 39 = .ok (.aload_n 0, 1) := by decide +kernel
theorem dX5_readsWitness_40 : decode cX5_readsWitness 40 = .ok (.iconst 0, 1) := by decide +kernel
theorem dX5_readsWitness_41 : decode cX5_readsWitness 41 = .ok (.bipush 9, 2) := by decide +kernel
theorem dX5_readsWitness_43 : decode cX5_readsWitness 43 = .ok (.invokevirtual 34, 3) := by decide +kernel
theorem dX5_readsWitness_46 : decode cX5_readsWitness 46 = .ok (.putfield 45, 3) := by decide +kernel
theorem dX5_readsWitness_49 : decode cX5_readsWitness 49 = .ok (.aload_n 0, 1) := by decide +kernel
theorem dX5_readsWitness_50 : decode cX5_readsWitness 50 = .ok (.getfield 45, 3) := by decide +kernel
theorem dX5_readsWitness_53 : decode cX5_readsWitness 53 = .ok (.ifCond .lt 18, 3) := by decide +kernel
theorem dX5_readsWitness_56 : decode cX5_readsWitness 56 = .ok (.aload_n 0, 1) := by decide +kernel
theorem dX5_readsWitness_57 : decode cX5_readsWitness 57 = .ok (.getfield 24, 3) := by decide +kernel
theorem dX5_readsWitness_60 : decode cX5_readsWitness 60 = .ok (.aload_n 0, 1) := by decide +kernel
theorem dX5_readsWitness_61 : decode cX5_readsWitness 61 = .ok (.getfield 27, 3) := by decide +kernel
theorem dX5_readsWitness_64 : decode cX5_readsWitness 64 = .ok (.if_icmp .ne 7, 3) := by decide +kernel
theorem dX5_readsWitness_67 : decode cX5_readsWitness 67 = .ok (.iconst 1, 1) := by decide +kernel
theorem dX5_readsWitness_68 : decode cX5_readsWitness 68 = .ok (.goto 4, 3) := by decide +kernel
theorem dX5_readsWitness_71 : decode cX5_readsWitness 71 = .ok (.iconst 0, 1) := by decide +kernel
theorem dX5_readsWitness_72 : decode cX5_readsWitness 72 = .ok (.ireturn, 1) := by decide +kernel
theorem dX5_takesTable_0 : decode cX5_takesTable 0 = .ok (.iconst 0, 1) := by decide +kernel
theorem dX5_takesTable_1 : decode cX5_takesTable 1 = .ok (.istore_n 3, 1) := by decide +kernel
theorem dX5_takesTable_2 : decode cX5_takesTable 2 = .ok (.iload_n 3, 1) := by decide +kernel
theorem dX5_takesTable_3 : decode cX5_takesTable 3 = .ok (.iload_n 2, 1) := by decide +kernel
theorem dX5_takesTable_4 : decode cX5_takesTable 4 = .ok (.if_icmp .ge 27, 3) := by decide +kernel
theorem dX5_takesTable_7 : decode cX5_takesTable 7 = .ok (.aload_n 0, 1) := by decide +kernel
theorem dX5_takesTable_8 : decode cX5_takesTable 8 = .ok (.aload_n 0, 1) := by decide +kernel
theorem dX5_takesTable_9 : decode cX5_takesTable 9 = .ok (.getfield 11, 3) := by decide +kernel
theorem dX5_takesTable_12 : decode cX5_takesTable 12 = .ok (.iload_n 1, 1) := by decide +kernel
theorem dX5_takesTable_13 : decode cX5_takesTable 13 = .ok (.iload_n 3, 1) := by decide +kernel
theorem dX5_takesTable_14 : decode cX5_takesTable 14 = .ok (.iadd, 1) := by decide +kernel
theorem dX5_takesTable_15 : decode cX5_takesTable 15 = .ok (.aaload, 1) := by decide +kernel
theorem dX5_takesTable_16 : decode cX5_takesTable 16 = .ok (.iload_n 2, 1) := by decide +kernel
theorem dX5_takesTable_17 : decode cX5_takesTable 17 = .ok (.invokevirtual 48, 3) := by decide +kernel
theorem dX5_takesTable_20 : decode cX5_takesTable 20 = .ok (.ifCond .ne 5, 3) := by decide +kernel
theorem dX5_takesTable_23 : decode cX5_takesTable 23 = .ok (.iconst 0, 1) := by decide +kernel
theorem dX5_takesTable_24 : decode cX5_takesTable 24 = .ok (.ireturn, 1) := by decide +kernel
theorem dX5_takesTable_25 : decode cX5_takesTable 25 = .ok (.iinc 3 1, 3) := by decide +kernel
theorem dX5_takesTable_28 : decode cX5_takesTable 28 = .ok (.goto (-26), 3) := by decide +kernel
theorem dX5_takesTable_31 : decode cX5_takesTable 31 = .ok (.iconst 1, 1) := by decide +kernel
theorem dX5_takesTable_32 : decode cX5_takesTable 32 = .ok (.ireturn, 1) := by decide +kernel
theorem dX5_takesWord_0 : decode cX5_takesWord 0 = .ok (.aload_n 0, 1) := by decide +kernel
theorem dX5_takesWord_1 : decode cX5_takesWord 1 = .ok (.bipush 59, 2) := by decide +kernel
theorem dX5_takesWord_3 : decode cX5_takesWord 3 = .ok (.invokevirtual 30, 3) := by decide +kernel
theorem dX5_takesWord_6 : decode cX5_takesWord 6 = .ok (.ifCond .ne 5, 3) := by decide +kernel
theorem dX5_takesWord_9 : decode cX5_takesWord 9 = .ok (.iconst 0, 1) := by decide +kernel
theorem dX5_takesWord_10 : decode cX5_takesWord 10 = .ok (.ireturn, 1) := by decide +kernel
theorem dX5_takesWord_11 : decode cX5_takesWord 11 = .ok (.iconst 0, 1) := by decide +kernel
theorem dX5_takesWord_12 : decode cX5_takesWord 12 = .ok (.istore_n 3, 1) := by decide +kernel
theorem dX5_takesWord_13 : decode cX5_takesWord 13 = .ok (.iconst 0, 1) := by decide +kernel
theorem dX5_takesWord_14 : decode cX5_takesWord 14 = .ok (.istore 4, 2) := by decide +kernel
theorem dX5_takesWord_16 : decode cX5_takesWord 16 = .ok (.iload 4, 2) := by decide +kernel
theorem dX5_takesWord_18 : decode cX5_takesWord 18 = .ok (.iload_n 2, 1) := by decide +kernel
theorem dX5_takesWord_19 : decode cX5_takesWord 19 = .ok (.if_icmp .ge 71, 3) := by decide +kernel
theorem dX5_takesWord_22 : decode cX5_takesWord 22 = .ok (.iload_n 3, 1) := by decide +kernel
theorem dX5_takesWord_23 : decode cX5_takesWord 23 = .ok (.ifCond .ne 15, 3) := by decide +kernel
theorem dX5_takesWord_26 : decode cX5_takesWord 26 = .ok (.iload 4, 2) := by decide +kernel
theorem dX5_takesWord_28 : decode cX5_takesWord 28 = .ok (.iload_n 2, 1) := by decide +kernel
theorem dX5_takesWord_29 : decode cX5_takesWord 29 = .ok (.iconst 1, 1) := by decide +kernel
theorem dX5_takesWord_30 : decode cX5_takesWord 30 = .ok (.isub, 1) := by decide +kernel
theorem dX5_takesWord_31 : decode cX5_takesWord 31 = .ok (.if_icmp .ne 7, 3) := by decide +kernel
theorem dX5_takesWord_34 : decode cX5_takesWord 34 = .ok (.iconst 1, 1) := by decide +kernel
theorem dX5_takesWord_35 : decode cX5_takesWord 35 = .ok (.goto 4, 3) := by decide +kernel
theorem dX5_takesWord_38 : decode cX5_takesWord 38 = .ok (.iconst 0, 1) := by decide +kernel
theorem dX5_takesWord_39 : decode cX5_takesWord 39 = .ok (.istore 5, 2) := by decide +kernel
theorem dX5_takesWord_41 : decode cX5_takesWord 41 = .ok (.aload_n 0, 1) := by decide +kernel
theorem dX5_takesWord_42 : decode cX5_takesWord 42 = .ok (.iload 5, 2) := by decide +kernel
theorem dX5_takesWord_44 : decode cX5_takesWord 44 = .ok (.ifCond .eq 7, 3) := by decide +kernel
theorem dX5_takesWord_47 : decode cX5_takesWord 47 = .ok (.iconst 1, 1) := by decide +kernel
theorem dX5_takesWord_48 : decode cX5_takesWord 48 = .ok (.goto 4, 3) := by decide +kernel
theorem dX5_takesWord_51 : decode cX5_takesWord 51 = .ok (.iconst 0, 1) := by decide +kernel
theorem dX5_takesWord_52 : decode cX5_takesWord 52 = .ok (.bipush 9, 2) := by decide +kernel
theorem dX5_takesWord_54 : decode cX5_takesWord 54 = .ok (.bipush 12, 2) := by decide +kernel
theorem dX5_takesWord_56 : decode cX5_takesWord 56 = .ok (.iload_n 3, 1) := by decide +kernel
theorem dX5_takesWord_57 : decode cX5_takesWord 57 = .ok (.isub, 1) := by decide +kernel
theorem dX5_takesWord_58 : decode cX5_takesWord 58 = .ok (.invokestatic 52, 3) := by decide +kernel
theorem dX5_takesWord_61 : decode cX5_takesWord 61 = .ok (.invokevirtual 34, 3) := by decide +kernel
theorem dX5_takesWord_64 : decode cX5_takesWord 64 = .ok (.istore 6, 2) := by decide +kernel
theorem dX5_takesWord_66 : decode cX5_takesWord 66 = .ok (.iload 6, 2) := by decide +kernel
theorem dX5_takesWord_68 : decode cX5_takesWord 68 = .ok (.ifCond .ge 5, 3) := by decide +kernel
theorem dX5_takesWord_71 : decode cX5_takesWord 71 = .ok (.iconst 0, 1) := by decide +kernel
theorem dX5_takesWord_72 : decode cX5_takesWord 72 = .ok (.ireturn, 1) := by decide +kernel
theorem dX5_takesWord_73 : decode cX5_takesWord 73 = .ok (.aload_n 1, 1) := by decide +kernel
theorem dX5_takesWord_74 : decode cX5_takesWord 74 = .ok (.iload 4, 2) := by decide +kernel
theorem dX5_takesWord_76 : decode cX5_takesWord 76 = .ok (.iload 6, 2) := by decide +kernel
theorem dX5_takesWord_78 : decode cX5_takesWord 78 = .ok (.iastore, 1) := by decide +kernel
theorem dX5_takesWord_79 : decode cX5_takesWord 79 = .ok (.iload_n 3, 1) := by decide +kernel
theorem dX5_takesWord_80 : decode cX5_takesWord 80 = .ok (.iload 6, 2) := by decide +kernel
theorem dX5_takesWord_82 : decode cX5_takesWord 82 = .ok (.iadd, 1) := by decide +kernel
theorem dX5_takesWord_83 : decode cX5_takesWord 83 = .ok (.istore_n 3, 1) := by decide +kernel
theorem dX5_takesWord_84 : decode cX5_takesWord 84 = .ok (.iinc 4 1, 3) := by decide +kernel
theorem dX5_takesWord_87 : decode cX5_takesWord 87 = .ok (.goto (-71), 3) := by decide +kernel
theorem dX5_takesWord_90 : decode cX5_takesWord 90 = .ok (.iconst 1, 1) := by decide +kernel
theorem dX5_takesWord_91 : decode cX5_takesWord 91 = .ok (.ireturn, 1) := by decide +kernel
theorem dX5_takesSign_0 : decode cX5_takesSign 0 = .ok (.aload_n 0, 1) := by decide +kernel
theorem dX5_takesSign_1 : decode cX5_takesSign 1 = .ok (.getfield 24, 3) := by decide +kernel
theorem dX5_takesSign_4 : decode cX5_takesSign 4 = .ok (.aload_n 0, 1) := by decide +kernel
theorem dX5_takesSign_5 : decode cX5_takesSign 5 = .ok (.getfield 27, 3) := by decide +kernel
theorem dX5_takesSign_8 : decode cX5_takesSign 8 = .ok (.if_icmp .ge 16, 3) := by decide +kernel
theorem dX5_takesSign_11 : decode cX5_takesSign 11 = .ok (.aload_n 0, 1) := by decide +kernel
theorem dX5_takesSign_12 : decode cX5_takesSign 12 = .ok (.getfield 16, 3) := by decide +kernel
theorem dX5_takesSign_15 : decode cX5_takesSign 15 = .ok (.aload_n 0, 1) := by decide +kernel
theorem dX5_takesSign_16 : decode cX5_takesSign 16 = .ok (.getfield 24, 3) := by decide +kernel
theorem dX5_takesSign_19 : decode cX5_takesSign 19 = .ok (.iaload, 1) := by decide +kernel
theorem dX5_takesSign_20 : decode cX5_takesSign 20 = .ok (.iload_n 1, 1) := by decide +kernel
theorem dX5_takesSign_21 : decode cX5_takesSign 21 = .ok (.if_icmp .eq 5, 3) := by decide +kernel
theorem dX5_takesSign_24 : decode cX5_takesSign 24 = .ok (.iconst 0, 1) := by decide +kernel
theorem dX5_takesSign_25 : decode cX5_takesSign 25 = .ok (.ireturn, 1) := by decide +kernel
theorem dX5_takesSign_26 : decode cX5_takesSign 26 = .ok (.aload_n 0, 1) := by decide +kernel
theorem dX5_takesSign_27 : decode cX5_takesSign 27 = .ok (.dup, 1) := by decide +kernel
theorem dX5_takesSign_28 : decode cX5_takesSign 28 = .ok (.getfield 24, 3) := by decide +kernel
theorem dX5_takesSign_31 : decode cX5_takesSign 31 = .ok (.iconst 1, 1) := by decide +kernel
theorem dX5_takesSign_32 : decode cX5_takesSign 32 = .ok (.iadd, 1) := by decide +kernel
theorem dX5_takesSign_33 : decode cX5_takesSign 33 = .ok (.putfield 24, 3) := by decide +kernel
theorem dX5_takesSign_36 : decode cX5_takesSign 36 = .ok (.iconst 1, 1) := by decide +kernel
theorem dX5_takesSign_37 : decode cX5_takesSign 37 = .ok (.ireturn, 1) := by decide +kernel
theorem dX5_takeDigit_0 : decode cX5_takeDigit 0 = .ok (.aload_n 0, 1) := by decide +kernel
theorem dX5_takeDigit_1 : decode cX5_takeDigit 1 = .ok (.getfield 24, 3) := by decide +kernel
theorem dX5_takeDigit_4 : decode cX5_takeDigit 4 = .ok (.aload_n 0, 1) := by decide +kernel
theorem dX5_takeDigit_5 : decode cX5_takeDigit 5 = .ok (.getfield 27, 3) := by decide +kernel
theorem dX5_takeDigit_8 : decode cX5_takeDigit 8 = .ok (.if_icmp .ge 35, 3) := by decide +kernel
theorem dX5_takeDigit_11 : decode cX5_takeDigit 11 = .ok (.aload_n 0, 1) := by decide +kernel
theorem dX5_takeDigit_12 : decode cX5_takeDigit 12 = .ok (.getfield 16, 3) := by decide +kernel
theorem dX5_takeDigit_15 : decode cX5_takeDigit 15 = .ok (.aload_n 0, 1) := by decide +kernel
theorem dX5_takeDigit_16 : decode cX5_takeDigit 16 = .ok (.getfield 24, 3) := by decide +kernel
theorem dX5_takeDigit_19 : decode cX5_takeDigit 19 = .ok (.iaload, 1) := by decide +kernel
theorem dX5_takeDigit_20 : decode cX5_takeDigit 20 = .ok (.bipush 48, 2) := by decide +kernel
theorem dX5_takeDigit_22 : decode cX5_takeDigit 22 = .ok (.iload_n 1, 1) := by decide +kernel
theorem dX5_takeDigit_23 : decode cX5_takeDigit 23 = .ok (.iadd, 1) := by decide +kernel
theorem dX5_takeDigit_24 : decode cX5_takeDigit 24 = .ok (.if_icmp .lt 19, 3) := by decide +kernel
theorem dX5_takeDigit_27 : decode cX5_takeDigit 27 = .ok (.aload_n 0, 1) := by decide +kernel
theorem dX5_takeDigit_28 : decode cX5_takeDigit 28 = .ok (.getfield 16, 3) := by decide +kernel
theorem dX5_takeDigit_31 : decode cX5_takeDigit 31 = .ok (.aload_n 0, 1) := by decide +kernel
theorem dX5_takeDigit_32 : decode cX5_takeDigit 32 = .ok (.getfield 24, 3) := by decide +kernel
theorem dX5_takeDigit_35 : decode cX5_takeDigit 35 = .ok (.iaload, 1) := by decide +kernel
theorem dX5_takeDigit_36 : decode cX5_takeDigit 36 = .ok (.bipush 48, 2) := by decide +kernel
theorem dX5_takeDigit_38 : decode cX5_takeDigit 38 = .ok (.iload_n 2, 1) := by decide +kernel
theorem dX5_takeDigit_39 : decode cX5_takeDigit 39 = .ok (.iadd, 1) := by decide +kernel
theorem dX5_takeDigit_40 : decode cX5_takeDigit 40 = .ok (.if_icmp .le 5, 3) := by decide +kernel
theorem dX5_takeDigit_43 : decode cX5_takeDigit 43 = .ok (.iconst (-1), 1) := by decide +kernel
theorem dX5_takeDigit_44 : decode cX5_takeDigit 44 = .ok (.ireturn, 1) := by decide +kernel
theorem dX5_takeDigit_45 : decode cX5_takeDigit 45 = .ok (.aload_n 0, 1) := by decide +kernel
theorem dX5_takeDigit_46 : decode cX5_takeDigit 46 = .ok (.dup, 1) := by decide +kernel
theorem dX5_takeDigit_47 : decode cX5_takeDigit 47 = .ok (.getfield 24, 3) := by decide +kernel
theorem dX5_takeDigit_50 : decode cX5_takeDigit 50 = .ok (.iconst 1, 1) := by decide +kernel
theorem dX5_takeDigit_51 : decode cX5_takeDigit 51 = .ok (.iadd, 1) := by decide +kernel
theorem dX5_takeDigit_52 : decode cX5_takeDigit 52 = .ok (.putfield 24, 3) := by decide +kernel
theorem dX5_takeDigit_55 : decode cX5_takeDigit 55 = .ok (.aload_n 0, 1) := by decide +kernel
theorem dX5_takeDigit_56 : decode cX5_takeDigit 56 = .ok (.getfield 16, 3) := by decide +kernel
theorem dX5_takeDigit_59 : decode cX5_takeDigit 59 = .ok (.aload_n 0, 1) := by decide +kernel
theorem dX5_takeDigit_60 : decode cX5_takeDigit 60 = .ok (.getfield 24, 3) := by decide +kernel
theorem dX5_takeDigit_63 : decode cX5_takeDigit 63 = .ok (.iconst 1, 1) := by decide +kernel
theorem dX5_takeDigit_64 : decode cX5_takeDigit 64 = .ok (.isub, 1) := by decide +kernel
theorem dX5_takeDigit_65 : decode cX5_takeDigit 65 = .ok (.iaload, 1) := by decide +kernel
theorem dX5_takeDigit_66 : decode cX5_takeDigit 66 = .ok (.bipush 48, 2) := by decide +kernel
theorem dX5_takeDigit_68 : decode cX5_takeDigit 68 = .ok (.isub, 1) := by decide +kernel
theorem dX5_takeDigit_69 : decode cX5_takeDigit 69 = .ok (.ireturn, 1) := by decide +kernel
theorem dX6_init_0 : decode cX6_init 0 = .ok (.aload_n 0, 1) := by decide +kernel
theorem dX6_init_1 : decode cX6_init 1 = .ok (.invokespecial 3, 3) := by decide +kernel
theorem dX6_init_4 : decode cX6_init 4 = .ok (.aload_n 0, 1) := by decide +kernel
theorem dX6_init_5 : decode cX6_init 5 = .ok (.iconst 4, 1) := by decide +kernel
theorem dX6_init_6 : decode cX6_init 6 = .ok (.bipush 120, 2) := by decide +kernel
theorem dX6_init_8 : decode cX6_init 8 = .ok (.multianewarray 11 2, 4) := by decide +kernel
theorem dX6_init_12 : decode cX6_init 12 = .ok (.putfield 13, 3) := by decide +kernel
theorem dX6_init_15 : decode cX6_init 15 = .ok (.aload_n 0, 1) := by decide +kernel
theorem dX6_init_16 : decode cX6_init 16 = .ok (.iconst 4, 1) := by decide +kernel
theorem dX6_init_17 : decode cX6_init 17 = .ok (.newarray .int, 2) := by decide +kernel
theorem dX6_init_19 : decode cX6_init 19 = .ok (.putfield 16, 3) := by decide +kernel
theorem dX6_init_22 : decode cX6_init 22 = .ok (.aload_n 0, 1) := by decide +kernel
theorem dX6_init_23 : decode cX6_init 23 = .ok (.iconst 4, 1) := by decide +kernel
theorem dX6_init_24 : decode cX6_init 24 = .ok (.newarray .int, 2) := by decide +kernel
theorem dX6_init_26 : decode cX6_init 26 = .ok (.putfield 20, 3) := by decide +kernel
theorem dX6_init_29 : decode cX6_init 29 = .ok (.aload_n 0, 1) := by decide +kernel
theorem dX6_init_30 : decode cX6_init 30 = .ok (.getfield 20, 3) := by decide +kernel
theorem dX6_init_33 : decode cX6_init 33 = .ok (.iconst (-1), 1) := by decide +kernel
theorem dX6_init_34 : decode cX6_init 34 = .ok (.invokestatic 23, 3) := by decide +kernel
theorem dX6_init_37 : decode cX6_init 37 = .ok (.return_, 1) := by decide +kernel
theorem dX6_has_0 : decode cX6_has 0 = .ok (.iload_n 1, 1) := by decide +kernel
theorem dX6_has_1 : decode cX6_has 1 = .ok (.ifCond .lt 12, 3) := by decide +kernel
theorem dX6_has_4 : decode cX6_has 4 = .ok (.iload_n 1, 1) := by decide +kernel
theorem dX6_has_5 : decode cX6_has 5 = .ok (.iconst 4, 1) := by decide +kernel
theorem dX6_has_6 : decode cX6_has 6 = .ok (.if_icmp .ge 7, 3) := by decide +kernel
theorem dX6_has_9 : decode cX6_has 9 = .ok (.iconst 1, 1) := by decide +kernel
theorem dX6_has_10 : decode cX6_has 10 = .ok (.goto 4, 3) := by decide +kernel
theorem dX6_has_13 : decode cX6_has 13 = .ok (.iconst 0, 1) := by decide +kernel
theorem dX6_has_14 : decode cX6_has 14 = .ok (.ireturn, 1) := by decide +kernel
theorem dX6_renew_0 : decode cX6_renew 0 = .ok (.aload_n 0, 1) := by decide +kernel
theorem dX6_renew_1 : decode cX6_renew 1 = .ok (.getfield 13, 3) := by decide +kernel
theorem dX6_renew_4 : decode cX6_renew 4 = .ok (.iload_n 1, 1) := by decide +kernel
theorem dX6_renew_5 : decode cX6_renew 5 = .ok (.aaload, 1) := by decide +kernel
theorem dX6_renew_6 : decode cX6_renew 6 = .ok (.iconst 0, 1) := by decide +kernel
theorem dX6_renew_7 : decode cX6_renew 7 = .ok (.invokestatic 23, 3) := by decide +kernel
theorem dX6_renew_10 : decode cX6_renew 10 = .ok (.aload_n 0, 1) := by decide +kernel
theorem dX6_renew_11 : decode cX6_renew 11 = .ok (.getfield 16, 3) := by decide +kernel
theorem dX6_renew_14 : decode cX6_renew 14 = .ok (.iload_n 1, 1) := by decide +kernel
theorem dX6_renew_15 : decode cX6_renew 15 = .ok (.iload_n 2, 1) := by decide +kernel
theorem dX6_renew_16 : decode cX6_renew 16 = .ok (.iastore, 1) := by decide +kernel
theorem dX6_renew_17 : decode cX6_renew 17 = .ok (.aload_n 0, 1) := by decide +kernel
theorem dX6_renew_18 : decode cX6_renew 18 = .ok (.getfield 20, 3) := by decide +kernel
theorem dX6_renew_21 : decode cX6_renew 21 = .ok (.iload_n 1, 1) := by decide +kernel
theorem dX6_renew_22 : decode cX6_renew 22 = .ok (.iload_n 3, 1) := by decide +kernel
theorem dX6_renew_23 : decode cX6_renew 23 = .ok (.iastore, 1) := by decide +kernel
theorem dX6_renew_24 : decode cX6_renew 24 = .ok (.return_, 1) := by decide +kernel
theorem dX6_drop_0 : decode cX6_drop 0 = .ok (.aload_n 0, 1) := by decide +kernel
theorem dX6_drop_1 : decode cX6_drop 1 = .ok (.getfield 20, 3) := by decide +kernel
theorem dX6_drop_4 : decode cX6_drop 4 = .ok (.iload_n 1, 1) := by decide +kernel
theorem dX6_drop_5 : decode cX6_drop 5 = .ok (.iaload, 1) := by decide +kernel
theorem dX6_drop_6 : decode cX6_drop 6 = .ok (.iconst (-1), 1) := by decide +kernel
theorem dX6_drop_7 : decode cX6_drop 7 = .ok (.if_icmp .eq 7, 3) := by decide +kernel
theorem dX6_drop_10 : decode cX6_drop 10 = .ok (.iconst 1, 1) := by decide +kernel
theorem dX6_drop_11 : decode cX6_drop 11 = .ok (.goto 4, 3) := by decide +kernel
theorem dX6_drop_14 : decode cX6_drop 14 = .ok (.iconst 0, 1) := by decide +kernel
theorem dX6_drop_15 : decode cX6_drop 15 = .ok (.istore_n 2, 1) := by decide +kernel
theorem dX6_drop_16 : decode cX6_drop 16 = .ok (.aload_n 0, 1) := by decide +kernel
theorem dX6_drop_17 : decode cX6_drop 17 = .ok (.getfield 20, 3) := by decide +kernel
theorem dX6_drop_20 : decode cX6_drop 20 = .ok (.iload_n 1, 1) := by decide +kernel
theorem dX6_drop_21 : decode cX6_drop 21 = .ok (.iconst (-1), 1) := by decide +kernel
theorem dX6_drop_22 : decode cX6_drop 22 = .ok (.iastore, 1) := by decide +kernel
theorem dX6_drop_23 : decode cX6_drop 23 = .ok (.iload_n 2, 1) := by decide +kernel
theorem dX6_drop_24 : decode cX6_drop 24 = .ok (.ireturn, 1) := by decide +kernel
theorem dX6_write_0 : decode cX6_write 0 = .ok (.aload_n 0, 1) := by decide +kernel
theorem dX6_write_1 : decode cX6_write 1 = .ok (.getfield 13, 3) := by decide +kernel
theorem dX6_write_4 : decode cX6_write 4 = .ok (.iload_n 1, 1) := by decide +kernel
theorem dX6_write_5 : decode cX6_write 5 = .ok (.aaload, 1) := by decide +kernel
theorem dX6_write_6 : decode cX6_write 6 = .ok (.iload_n 2, 1) := by decide +kernel
theorem dX6_write_7 : decode cX6_write 7 = .ok (.aload_n 0, 1) := by decide +kernel
theorem dX6_write_8 : decode cX6_write 8 = .ok (.getfield 16, 3) := by decide +kernel
theorem dX6_write_11 : decode cX6_write 11 = .ok (.iload_n 1, 1) := by decide +kernel
theorem dX6_write_12 : decode cX6_write 12 = .ok (.iaload, 1) := by decide +kernel
theorem dX6_write_13 : decode cX6_write 13 = .ok (.ifCond .ne 8, 3) := by decide +kernel
theorem dX6_write_16 : decode cX6_write 16 = .ok (.iload_n 3, 1) := by decide +kernel
theorem dX6_write_17 : decode cX6_write 17 = .ok (.i2b, 1) := by decide +kernel
theorem dX6_write_18 : decode cX6_write 18 = .ok (.goto 19, 3) := by decide +kernel
theorem dX6_write_21 : decode cX6_write 21 = .ok (.aload_n 0, 1) := by decide +kernel
theorem dX6_write_22 : decode cX6_write 22 = .ok (.getfield 16, 3) := by decide +kernel
theorem dX6_write_25 : decode cX6_write 25 = .ok (.iload_n 1, 1) := by decide +kernel
theorem dX6_write_26 : decode cX6_write 26 = .ok (.iaload, 1) := by decide +kernel
theorem dX6_write_27 : decode cX6_write 27 = .ok (.iconst 1, 1) := by decide +kernel
theorem dX6_write_28 : decode cX6_write 28 = .ok (.if_icmp .ne 8, 3) := by decide +kernel
theorem dX6_write_31 : decode cX6_write 31 = .ok (.iload_n 3, 1) := by decide +kernel
theorem dX6_write_32 : decode cX6_write 32 = .ok (.i2s, 1) := by decide +kernel
theorem dX6_write_33 : decode cX6_write 33 = .ok (.goto 4, 3) := by decide +kernel
theorem dX6_write_36 : decode cX6_write 36 = .ok (.iload_n 3, 1) := by decide +kernel
theorem dX6_write_37 : decode cX6_write 37 = .ok (.iastore, 1) := by decide +kernel
theorem dX6_write_38 : decode cX6_write 38 = .ok (.return_, 1) := by decide +kernel
theorem dX6_isOtherSort_0 : decode cX6_isOtherSort 0 = .ok (.aload_n 0, 1) := by decide +kernel
theorem dX6_isOtherSort_1 : decode cX6_isOtherSort 1 = .ok (.getfield 20, 3) := by decide +kernel
theorem dX6_isOtherSort_4 : decode cX6_isOtherSort 4 = .ok (.iload_n 1, 1) := by decide +kernel
theorem dX6_isOtherSort_5 : decode cX6_isOtherSort 5 = .ok (.iaload, 1) := by decide +kernel
theorem dX6_isOtherSort_6 : decode cX6_isOtherSort 6 = .ok (.iconst (-1), 1) := by decide +kernel
theorem dX6_isOtherSort_7 : decode cX6_isOtherSort 7 = .ok (.if_icmp .eq 17, 3) := by decide +kernel
theorem dX6_isOtherSort_10 : decode cX6_isOtherSort 10 = .ok (.aload_n 0, 1) := by decide +kernel
theorem dX6_isOtherSort_11 : decode cX6_isOtherSort 11 = .ok (.getfield 16, 3) := by decide +kernel
theorem dX6_isOtherSort_14 : decode cX6_isOtherSort 14 = .ok (.iload_n 1, 1) := by decide +kernel
theorem dX6_isOtherSort_15 : decode cX6_isOtherSort 15 = .ok (.iaload, 1) := by decide +kernel
theorem dX6_isOtherSort_16 : decode cX6_isOtherSort 16 = .ok (.iload_n 2, 1) := by decide +kernel
theorem dX6_isOtherSort_17 : decode cX6_isOtherSort 17 = .ok (.if_icmp .eq 7, 3) := by decide +kernel
theorem dX6_isOtherSort_20 : decode cX6_isOtherSort 20 = .ok (.iconst 1, 1) := by decide +kernel
theorem dX6_isOtherSort_21 : decode cX6_isOtherSort 21 = .ok (.goto 4, 3) := by decide +kernel
theorem dX6_isOtherSort_24 : decode cX6_isOtherSort 24 = .ok (.iconst 0, 1) := by decide +kernel
theorem dX6_isOtherSort_25 : decode cX6_isOtherSort 25 = .ok (.ireturn, 1) := by decide +kernel
theorem dX6_faultOfCell_0 : decode cX6_faultOfCell 0 = .ok (.aload_n 0, 1) := by decide +kernel
theorem dX6_faultOfCell_1 : decode cX6_faultOfCell 1 = .ok (.getfield 20, 3) := by decide +kernel
theorem dX6_faultOfCell_4 : decode cX6_faultOfCell 4 = .ok (.iload_n 1, 1) := by decide +kernel
theorem dX6_faultOfCell_5 : decode cX6_faultOfCell 5 = .ok (.iaload, 1) := by decide +kernel
theorem dX6_faultOfCell_6 : decode cX6_faultOfCell 6 = .ok (.iconst (-1), 1) := by decide +kernel
theorem dX6_faultOfCell_7 : decode cX6_faultOfCell 7 = .ok (.if_icmp .ne 5, 3) := by decide +kernel
theorem dX6_faultOfCell_10 : decode cX6_faultOfCell 10 = .ok (.iconst 1, 1) := by decide +kernel
theorem dX6_faultOfCell_11 : decode cX6_faultOfCell 11 = .ok (.ireturn, 1) := by decide +kernel
theorem dX6_faultOfCell_12 : decode cX6_faultOfCell 12 = .ok (.iload_n 2, 1) := by decide +kernel
theorem dX6_faultOfCell_13 : decode cX6_faultOfCell 13 = .ok (.ifCond .lt 13, 3) := by decide +kernel
theorem dX6_faultOfCell_16 : decode cX6_faultOfCell 16 = .ok (.iload_n 2, 1) := by decide +kernel
theorem dX6_faultOfCell_17 : decode cX6_faultOfCell 17 = .ok (.aload_n 0, 1) := by decide +kernel
theorem dX6_faultOfCell_18 : decode cX6_faultOfCell 18 = .ok (.getfield 20, 3) := by decide +kernel
theorem dX6_faultOfCell_21 : decode cX6_faultOfCell 21 = .ok (.iload_n 1, 1) := by decide +kernel
theorem dX6_faultOfCell_22 : decode cX6_faultOfCell 22 = .ok (.iaload, 1) := by decide +kernel
theorem dX6_faultOfCell_23 : decode cX6_faultOfCell 23 = .ok (.if_icmp .lt 7, 3) := by decide +kernel
theorem dX6_faultOfCell_26 : decode cX6_faultOfCell 26 = .ok (.iconst 3, 1) := by decide +kernel
theorem dX6_faultOfCell_27 : decode cX6_faultOfCell 27 = .ok (.goto 4, 3) := by decide +kernel
theorem dX6_faultOfCell_30 : decode cX6_faultOfCell 30 = .ok (.iconst 0, 1) := by decide +kernel
theorem dX6_faultOfCell_31 : decode cX6_faultOfCell 31 = .ok (.ireturn, 1) := by decide +kernel
theorem dX6_faultOfCells_0 : decode cX6_faultOfCells 0 = .ok (.aload_n 0, 1) := by decide +kernel
theorem dX6_faultOfCells_1 : decode cX6_faultOfCells 1 = .ok (.iload_n 1, 1) := by decide +kernel
theorem dX6_faultOfCells_2 : decode cX6_faultOfCells 2 = .ok (.iload_n 2, 1) := by decide +kernel
theorem dX6_faultOfCells_3 : decode cX6_faultOfCells 3 = .ok (.invokevirtual 29, 3) := by decide +kernel
theorem dX6_faultOfCells_6 : decode cX6_faultOfCells 6 = .ok (.ifCond .eq 5, 3) := by decide +kernel
theorem dX6_faultOfCells_9 : decode cX6_faultOfCells 9 = .ok (.iconst 2, 1) := by decide +kernel
theorem dX6_faultOfCells_10 : decode cX6_faultOfCells 10 = .ok (.ireturn, 1) := by decide +kernel
theorem dX6_faultOfCells_11 : decode cX6_faultOfCells 11 = .ok (.aload_n 0, 1) := by decide +kernel
theorem dX6_faultOfCells_12 : decode cX6_faultOfCells 12 = .ok (.getfield 20, 3) := by decide +kernel
theorem dX6_faultOfCells_15 : decode cX6_faultOfCells 15 = .ok (.iload_n 1, 1) := by decide +kernel
theorem dX6_faultOfCells_16 : decode cX6_faultOfCells 16 = .ok (.iaload, 1) := by decide +kernel
theorem dX6_faultOfCells_17 : decode cX6_faultOfCells 17 = .ok (.iconst (-1), 1) := by decide +kernel
theorem dX6_faultOfCells_18 : decode cX6_faultOfCells 18 = .ok (.if_icmp .ne 5, 3) := by decide +kernel
theorem dX6_faultOfCells_21 : decode cX6_faultOfCells 21 = .ok (.iconst 1, 1) := by decide +kernel
theorem dX6_faultOfCells_22 : decode cX6_faultOfCells 22 = .ok (.ireturn, 1) := by decide +kernel
theorem dX6_faultOfCells_23 : decode cX6_faultOfCells 23 = .ok (.iload 4, 2) := by decide +kernel
theorem dX6_faultOfCells_25 : decode cX6_faultOfCells 25 = .ok (.ifCond .ge 5, 3) := by decide +kernel
theorem dX6_faultOfCells_28 : decode cX6_faultOfCells 28 = .ok (.iconst 4, 1) := by decide +kernel
theorem dX6_faultOfCells_29 : decode cX6_faultOfCells 29 = .ok (.ireturn, 1) := by decide +kernel
theorem dX6_faultOfCells_30 : decode cX6_faultOfCells 30 = .ok (.aload_n 0, 1) := by decide +kernel
theorem dX6_faultOfCells_31 : decode cX6_faultOfCells 31 = .ok (.iload_n 1, 1) := by decide +kernel
theorem dX6_faultOfCells_32 : decode cX6_faultOfCells 32 = .ok (.iload_n 3, 1) := by decide +kernel
theorem dX6_faultOfCells_33 : decode cX6_faultOfCells 33 = .ok (.iload 4, 2) := by decide +kernel
theorem dX6_faultOfCells_35 : decode cX6_faultOfCells 35 = .ok (.invokevirtual 33, 3) := by decide +kernel
theorem dX6_faultOfCells_38 : decode cX6_faultOfCells 38 = .ok (.ifCond .eq 7, 3) := by decide +kernel
theorem dX6_faultOfCells_41 : decode cX6_faultOfCells 41 = .ok (.iconst 0, 1) := by decide +kernel
theorem dX6_faultOfCells_42 : decode cX6_faultOfCells 42 = .ok (.goto 4, 3) := by decide +kernel
theorem dX6_faultOfCells_45 : decode cX6_faultOfCells 45 = .ok (.iconst 3, 1) := by decide +kernel
theorem dX6_faultOfCells_46 : decode cX6_faultOfCells 46 = .ok (.ireturn, 1) := by decide +kernel
theorem dX6_faultOfCopy_0 : decode cX6_faultOfCopy 0 = .ok (.aload_n 0, 1) := by decide +kernel
theorem dX6_faultOfCopy_1 : decode cX6_faultOfCopy 1 = .ok (.getfield 20, 3) := by decide +kernel
theorem dX6_faultOfCopy_4 : decode cX6_faultOfCopy 4 = .ok (.iload_n 1, 1) := by decide +kernel
theorem dX6_faultOfCopy_5 : decode cX6_faultOfCopy 5 = .ok (.iaload, 1) := by decide +kernel
theorem dX6_faultOfCopy_6 : decode cX6_faultOfCopy 6 = .ok (.iconst (-1), 1) := by decide +kernel
theorem dX6_faultOfCopy_7 : decode cX6_faultOfCopy 7 = .ok (.if_icmp .eq 13, 3) := by decide +kernel
theorem dX6_faultOfCopy_10 : decode cX6_faultOfCopy 10 = .ok (.aload_n 0, 1) := by decide +kernel
theorem dX6_faultOfCopy_11 : decode cX6_faultOfCopy 11 = .ok (.getfield 20, 3) := by decide +kernel
theorem dX6_faultOfCopy_14 : decode cX6_faultOfCopy 14 = .ok (.iload_n 3, 1) := by decide +kernel
theorem dX6_faultOfCopy_15 : decode cX6_faultOfCopy 15 = .ok (.iaload, 1) := by decide +kernel
theorem dX6_faultOfCopy_16 : decode cX6_faultOfCopy 16 = .ok (.iconst (-1), 1) := by decide +kernel
theorem dX6_faultOfCopy_17 : decode cX6_faultOfCopy 17 = .ok (.if_icmp .ne 5, 3) := by decide +kernel
theorem dX6_faultOfCopy_20 : decode cX6_faultOfCopy 20 = .ok (.iconst 1, 1) := by decide +kernel
theorem dX6_faultOfCopy_21 : decode cX6_faultOfCopy 21 = .ok (.ireturn, 1) := by decide +kernel
theorem dX6_faultOfCopy_22 : decode cX6_faultOfCopy 22 = .ok (.aload_n 0, 1) := by decide +kernel
theorem dX6_faultOfCopy_23 : decode cX6_faultOfCopy 23 = .ok (.getfield 16, 3) := by decide +kernel
theorem dX6_faultOfCopy_26 : decode cX6_faultOfCopy 26 = .ok (.iload_n 1, 1) := by decide +kernel
theorem dX6_faultOfCopy_27 : decode cX6_faultOfCopy 27 = .ok (.iaload, 1) := by decide +kernel
theorem dX6_faultOfCopy_28 : decode cX6_faultOfCopy 28 = .ok (.aload_n 0, 1) := by decide +kernel
theorem dX6_faultOfCopy_29 : decode cX6_faultOfCopy 29 = .ok (.getfield 16, 3) := by decide +kernel
theorem dX6_faultOfCopy_32 : decode cX6_faultOfCopy 32 = .ok (.iload_n 3, 1) := by decide +kernel
theorem dX6_faultOfCopy_33 : decode cX6_faultOfCopy 33 = .ok (.iaload, 1) := by decide +kernel
theorem dX6_faultOfCopy_34 : decode cX6_faultOfCopy 34 = .ok (.if_icmp .eq 5, 3) := by decide +kernel
theorem dX6_faultOfCopy_37 : decode cX6_faultOfCopy 37 = .ok (.iconst 2, 1) := by decide +kernel
theorem dX6_faultOfCopy_38 : decode cX6_faultOfCopy 38 = .ok (.ireturn, 1) := by decide +kernel
theorem dX6_faultOfCopy_39 : decode cX6_faultOfCopy 39 = .ok (.iload 5, 2) := by decide +kernel
theorem dX6_faultOfCopy_41 : decode cX6_faultOfCopy 41 = .ok (.ifCond .lt 30, 3) := by decide +kernel
theorem dX6_faultOfCopy_44 : decode cX6_faultOfCopy 44 = .ok (.aload_n 0, 1) := by decide +kernel
theorem dX6_faultOfCopy_45 : decode cX6_faultOfCopy 45 = .ok (.iload_n 1, 1) := by decide +kernel
theorem dX6_faultOfCopy_46 : decode cX6_faultOfCopy 46 = .ok (.iload_n 2, 1) := by decide +kernel
theorem dX6_faultOfCopy_47 : decode cX6_faultOfCopy 47 = .ok (.iload 5, 2) := by decide +kernel
theorem dX6_faultOfCopy_49 : decode cX6_faultOfCopy 49 = .ok (.invokevirtual 33, 3) := by decide +kernel
theorem dX6_faultOfCopy_52 : decode cX6_faultOfCopy 52 = .ok (.ifCond .eq 19, 3) := by decide +kernel
theorem dX6_faultOfCopy_55 : decode cX6_faultOfCopy 55 = .ok (.aload_n 0, 1) := by decide +kernel
theorem dX6_faultOfCopy_56 : decode cX6_faultOfCopy 56 = .ok (.iload_n 3, 1) := by decide +kernel
theorem dX6_faultOfCopy_57 : decode cX6_faultOfCopy 57 = .ok (.iload 4, 2) := by decide +kernel
theorem dX6_faultOfCopy_59 : decode cX6_faultOfCopy 59 = .ok (.iload 5, 2) := by decide +kernel
theorem dX6_faultOfCopy_61 : decode cX6_faultOfCopy 61 = .ok (.invokevirtual 33, 3) := by decide +kernel
theorem dX6_faultOfCopy_64 : decode cX6_faultOfCopy 64 = .ok (.ifCond .eq 7, 3) := by decide +kernel
theorem dX6_faultOfCopy_67 : decode cX6_faultOfCopy 67 = .ok (.iconst 0, 1) := by decide +kernel
theorem dX6_faultOfCopy_68 : decode cX6_faultOfCopy 68 = .ok (.goto 4, 3) := by decide +kernel
theorem dX6_faultOfCopy_71 : decode cX6_faultOfCopy 71 = .ok (.iconst 3, 1) := by decide +kernel
theorem dX6_faultOfCopy_72 : decode cX6_faultOfCopy 72 = .ok (.ireturn, 1) := by decide +kernel
theorem dX6_areThere_0 : decode cX6_areThere 0 = .ok (.iload_n 2, 1) := by decide +kernel
theorem dX6_areThere_1 : decode cX6_areThere 1 = .ok (.ifCond .lt 19, 3) := by decide +kernel
theorem dX6_areThere_4 : decode cX6_areThere 4 = .ok (.iload_n 2, 1) := by decide +kernel
theorem dX6_areThere_5 : decode cX6_areThere 5 = .ok (.aload_n 0, 1) := by decide +kernel
theorem dX6_areThere_6 : decode cX6_areThere 6 = .ok (.getfield 20, 3) := by decide +kernel
theorem dX6_areThere_9 : decode cX6_areThere 9 = .ok (.iload_n 1, 1) := by decide +kernel
theorem dX6_areThere_10 : decode cX6_areThere 10 = .ok (.iaload, 1) := by decide +kernel
theorem dX6_areThere_11 : decode cX6_areThere 11 = .ok (.iload_n 3, 1) := by decide +kernel
theorem dX6_areThere_12 : decode cX6_areThere 12 = .ok (.isub, 1) := by decide +kernel
theorem dX6_areThere_13 : decode cX6_areThere 13 = .ok (.if_icmp .gt 7, 3) := by decide +kernel
theorem dX6_areThere_16 : decode cX6_areThere 16 = .ok (.iconst 1, 1) := by decide +kernel
theorem dX6_areThere_17 : decode cX6_areThere 17 = .ok (.goto 4, 3) := by decide +kernel
theorem dX6_areThere_20 : decode cX6_areThere 20 = .ok (.iconst 0, 1) := by decide +kernel
theorem dX6_areThere_21 : decode cX6_areThere 21 = .ok (.ireturn, 1) := by decide +kernel
theorem dX7_init_0 : decode cX7_init 0 = .ok (.aload_n 0, 1) := by decide +kernel
theorem dX7_init_1 : decode cX7_init 1 = .ok (.invokespecial 7, 3) := by decide +kernel
theorem dX7_init_4 : decode cX7_init 4 = .ok (.aload_n 0, 1) := by decide +kernel
theorem dX7_init_5 : decode cX7_init 5 = .ok (.sipush 200, 3) := by decide +kernel
theorem dX7_init_8 : decode cX7_init 8 = .ok (.newarray .long, 2) := by decide +kernel
theorem dX7_init_10 : decode cX7_init 10 = .ok (.putfield 13, 3) := by decide +kernel
theorem dX7_init_13 : decode cX7_init 13 = .ok (.aload_n 0, 1) := by decide +kernel
theorem dX7_init_14 : decode cX7_init 14 = .ok (.sipush 200, 3) := by decide +kernel
theorem dX7_init_17 : decode cX7_init 17 = .ok (.newarray .long, 2) := by decide +kernel
theorem dX7_init_19 : decode cX7_init 19 = .ok (.putfield 17, 3) := by decide +kernel
theorem dX7_init_22 : decode cX7_init 22 = .ok (.aload_n 0, 1) := by decide +kernel
theorem dX7_init_23 : decode cX7_init 23 = .ok (.iconst (-1), 1) := by decide +kernel
theorem dX7_init_24 : decode cX7_init 24 = .ok (.putfield 20, 3) := by decide +kernel
theorem dX7_init_27 : decode cX7_init 27 = .ok (.return_, 1) := by decide +kernel
theorem dX7_plan_0 : decode cX7_plan 0 = .ok (.iload_n 1, 1) := by decide +kernel
theorem dX7_plan_1 : decode cX7_plan 1 = .ok (.bipush 10, 2) := by decide +kernel
theorem dX7_plan_3 : decode cX7_plan 3 = .ok (.imul, 1) := by decide +kernel
theorem dX7_plan_4 : decode cX7_plan 4 = .ok (.iload_n 2, 1) := by decide +kernel
theorem dX7_plan_5 : decode cX7_plan 5 = .ok (.iadd, 1) := by decide +kernel
theorem dX7_plan_6 : decode cX7_plan 6 = .ok (.bipush 10, 2) := by decide +kernel
theorem dX7_plan_8 : decode cX7_plan 8 = .ok (.imul, 1) := by decide +kernel
theorem dX7_plan_9 : decode cX7_plan 9 = .ok (.iload 4, 2) := by decide +kernel
theorem dX7_plan_11 : decode cX7_plan 11 = .ok (.iadd, 1) := by decide +kernel
theorem dX7_plan_12 : decode cX7_plan 12 = .ok (.bipush 41, 2) := by decide +kernel
theorem dX7_plan_14 : decode cX7_plan 14 = .ok (.imul, 1) := by decide +kernel
theorem dX7_plan_15 : decode cX7_plan 15 = .ok (.iload_n 3, 1) := by decide +kernel
theorem dX7_plan_16 : decode cX7_plan 16 = .ok (.iadd, 1) := by decide +kernel
theorem dX7_plan_17 : decode cX7_plan 17 = .ok (.istore 5, 2) := by decide +kernel
theorem dX7_plan_19 : decode cX7_plan 19 = .ok (.iload 5, 2) := by decide +kernel
theorem dX7_plan_21 : decode cX7_plan 21 = .ok (.aload_n 0, 1) := by decide +kernel
theorem dX7_plan_22 : decode cX7_plan 22 = .ok (.getfield 20, 3) := by decide +kernel
theorem dX7_plan_25 : decode cX7_plan 25 = .ok (.if_icmp .ne 4, 3) := by decide +kernel
theorem dX7_plan_28 : decode cX7_plan 28 = .ok (.return_, 1) := by decide +kernel
theorem dX7_plan_29 : decode cX7_plan 29 = .ok (.aload_n 0, 1) := by decide +kernel
theorem dX7_plan_30 : decode cX7_plan 30 = .ok (.getfield 13, 3) := by decide +kernel
theorem dX7_plan_33 : decode cX7_plan 33 = .ok (.ldc2_w 24, 3) := by decide +kernel
theorem dX7_plan_36 : decode cX7_plan 36 = .ok (.invokestatic 26, 3) := by decide +kernel
theorem dX7_plan_39 : decode cX7_plan 39 = .ok (.aload_n 0, 1) := by decide +kernel
theorem dX7_plan_40 : decode cX7_plan 40 = .ok (.getfield 13, 3) := by decide +kernel
theorem dX7_plan_43 : decode cX7_plan 43 = .ok (.iload_n 1, 1) := by decide +kernel
theorem dX7_plan_44 : decode cX7_plan 44 = .ok (.iload_n 2, 1) := by decide +kernel
theorem dX7_plan_45 : decode cX7_plan 45 = .ok (.iconst 0, 1) := by decide +kernel
theorem dX7_plan_46 : decode cX7_plan 46 = .ok (.invokestatic 32, 3) := by decide +kernel
theorem dX7_plan_49 : decode cX7_plan 49 = .ok (.lconst 0, 1) := by decide +kernel
theorem dX7_plan_50 : decode cX7_plan 50 = .ok (.lastore, 1) := by decide +kernel
theorem dX7_plan_51 : decode cX7_plan 51 = .ok (.iconst 0, 1) := by decide +kernel
theorem dX7_plan_52 : decode cX7_plan 52 = .ok (.istore 6, 2) := by decide +kernel
theorem dX7_plan_54 : decode cX7_plan 54 = .ok (.iload 6, 2) := by decide +kernel
theorem dX7_plan_56 : decode cX7_plan 56 = .ok (.iload_n 3, 1) := by decide +kernel
theorem dX7_plan_57 : decode cX7_plan 57 = .ok (.if_icmp .ge 32, 3) := by decide +kernel
theorem dX7_plan_60 : decode cX7_plan 60 = .ok (.aload_n 0, 1) := by decide +kernel
theorem dX7_plan_61 : decode cX7_plan 61 = .ok (.iload 6, 2) := by decide +kernel
theorem dX7_plan_63 : decode cX7_plan 63 = .ok (.ifCond .ne 7, 3) := by decide +kernel
theorem dX7_plan_66 : decode cX7_plan 66 = .ok (.iconst 0, 1) := by decide +kernel
theorem dX7_plan_67 : decode cX7_plan 67 = .ok (.goto 5, 3) := by decide +kernel
theorem dX7_plan_70 : decode cX7_plan 70 = .ok (.iload 4, 2) := by decide +kernel
theorem dX7_plan_72 : decode cX7_plan 72 = .ok (.lconst 1, 1) := by decide +kernel
theorem dX7_plan_73 : decode cX7_plan 73 = .ok (.iload_n 3, 1) := by decide +kernel
theorem dX7_plan_74 : decode cX7_plan 74 = .ok (.iconst 1, 1) := by decide +kernel
theorem dX7_plan_75 : decode cX7_plan 75 = .ok (.isub, 1) := by decide +kernel
theorem dX7_plan_76 : decode cX7_plan 76 = .ok (.iload 6, 2) := by decide +kernel
theorem dX7_plan_78 : decode cX7_plan 78 = .ok (.isub, 1) := by decide +kernel
theorem dX7_plan_79 : decode cX7_plan 79 = .ok (.lshl, 1) := by decide +kernel
theorem dX7_plan_80 : decode cX7_plan 80 = .ok (.invokevirtual 36, 3) := by decide +kernel
theorem dX7_plan_83 : decode cX7_plan 83 = .ok (.iinc 6 1, 3) := by decide +kernel
theorem dX7_plan_86 : decode cX7_plan 86 = .ok (.goto (-32), 3) := by decide +kernel
theorem dX7_plan_89 : decode cX7_plan 89 = .ok (.aload_n 0, 1) := by decide +kernel
theorem dX7_plan_90 : decode cX7_plan 90 = .ok (.ldc2_w 24, 3) := by decide +kernel
theorem dX7_plan_93 : decode cX7_plan 93 = .ok (.putfield 40, 3) := by decide +kernel
theorem dX7_plan_96 : decode cX7_plan 96 = .ok (.iconst 0, 1) := by decide +kernel
theorem dX7_plan_97 : decode cX7_plan 97 = .ok (.istore 6, 2) := by decide +kernel
theorem dX7_plan_99 : decode cX7_plan 99 = .ok (.iload 6, 2) := by decide +kernel
theorem dX7_plan_101 : decode cX7_plan 101 = .ok (.sipush 200, 3) := by decide +kernel
theorem dX7_plan_104 : decode cX7_plan 104 = .ok (.if_icmp .ge 27, 3) := by decide +kernel
theorem dX7_plan_107 : decode cX7_plan 107 = .ok (.aload_n 0, 1) := by decide +kernel
theorem dX7_plan_108 : decode cX7_plan 108 = .ok (.aload_n 0, 1) := by decide +kernel
theorem dX7_plan_109 : decode cX7_plan 109 = .ok (.getfield 40, 3) := by decide +kernel
theorem dX7_plan_112 : decode cX7_plan 112 = .ok (.aload_n 0, 1) := by decide +kernel
theorem dX7_plan_113 : decode cX7_plan 113 = .ok (.getfield 13, 3) := by decide +kernel
theorem dX7_plan_116 : decode cX7_plan 116 = .ok (.iload 6, 2) := by decide +kernel
theorem dX7_plan_118 : decode cX7_plan 118 = .ok (.laload, 1) := by decide +kernel
theorem dX7_plan_119 : decode cX7_plan 119 = .ok (.invokestatic 44, 3) := by decide +kernel
theorem dX7_plan_122 : decode cX7_plan 122 = .ok (.putfield 40, 3) := by decide +kernel
theorem dX7_plan_125 : decode cX7_plan 125 = .ok (.iinc 6 1, 3) := by decide +kernel
theorem dX7_plan_128 : decode cX7_plan 128 = .ok (.goto (-29), 3) := by decide +kernel
theorem dX7_plan_131 : decode cX7_plan 131 = .ok (.aload_n 0, 1) := by decide +kernel
theorem dX7_plan_132 : decode cX7_plan 132 = .ok (.iload 5, 2) := by decide +kernel
theorem dX7_plan_134 : decode cX7_plan 134 = .ok (.putfield 20, 3) := by decide +kernel
theorem dX7_plan_137 : decode cX7_plan 137 = .ok (.return_, 1) := by decide +kernel
theorem dX7_cost_0 : decode cX7_cost 0 = .ok (.aload_n 0, 1) := by decide +kernel
theorem dX7_cost_1 : decode cX7_cost 1 = .ok (.getfield 40, 3) := by decide +kernel
theorem dX7_cost_4 : decode cX7_cost 4 = .ok (.bipush 40, 2) := by decide +kernel
theorem dX7_cost_6 : decode cX7_cost 6 = .ok (.lshr, 1) := by decide +kernel
theorem dX7_cost_7 : decode cX7_cost 7 = .ok (.l2i, 1) := by decide +kernel
theorem dX7_cost_8 : decode cX7_cost 8 = .ok (.ireturn, 1) := by decide +kernel
theorem dX7_worker_0 : decode cX7_worker 0 = .ok (.aload_n 0, 1) := by decide +kernel
theorem dX7_worker_1 : decode cX7_worker 1 = .ok (.getfield 40, 3) := by decide +kernel
theorem dX7_worker_4 : decode cX7_worker 4 = .ok (.iload_n 2, 1) := by decide +kernel
theorem dX7_worker_5 : decode cX7_worker 5 = .ok (.iconst 1, 1) := by decide +kernel
theorem dX7_worker_6 : decode cX7_worker 6 = .ok (.isub, 1) := by decide +kernel
theorem dX7_worker_7 : decode cX7_worker 7 = .ok (.iload_n 1, 1) := by decide +kernel
theorem dX7_worker_8 : decode cX7_worker 8 = .ok (.isub, 1) := by decide +kernel
theorem dX7_worker_9 : decode cX7_worker 9 = .ok (.lshr, 1) := by decide +kernel
theorem dX7_worker_10 : decode cX7_worker 10 = .ok (.lconst 1, 1) := by decide +kernel
theorem dX7_worker_11 : decode cX7_worker 11 = .ok (.land, 1) := by decide +kernel
theorem dX7_worker_12 : decode cX7_worker 12 = .ok (.l2i, 1) := by decide +kernel
theorem dX7_worker_13 : decode cX7_worker 13 = .ok (.ireturn, 1) := by decide +kernel
theorem dX7_workMinute_0 : decode cX7_workMinute 0 = .ok (.aload_n 0, 1) := by decide +kernel
theorem dX7_workMinute_1 : decode cX7_workMinute 1 = .ok (.getfield 17, 3) := by decide +kernel
theorem dX7_workMinute_4 : decode cX7_workMinute 4 = .ok (.ldc2_w 24, 3) := by decide +kernel
theorem dX7_workMinute_7 : decode cX7_workMinute 7 = .ok (.invokestatic 26, 3) := by decide +kernel
theorem dX7_workMinute_10 : decode cX7_workMinute 10 = .ok (.iconst 0, 1) := by decide +kernel
theorem dX7_workMinute_11 : decode cX7_workMinute 11 = .ok (.istore 4, 2) := by decide +kernel
theorem dX7_workMinute_13 : decode cX7_workMinute 13 = .ok (.iload 4, 2) := by decide +kernel
theorem dX7_workMinute_15 : decode cX7_workMinute 15 = .ok (.sipush 200, 3) := by decide +kernel
theorem dX7_workMinute_18 : decode cX7_workMinute 18 = .ok (.if_icmp .ge 38, 3) := by decide +kernel
theorem dX7_workMinute_21 : decode cX7_workMinute 21 = .ok (.aload_n 0, 1) := by decide +kernel
theorem dX7_workMinute_22 : decode cX7_workMinute 22 = .ok (.getfield 13, 3) := by decide +kernel
theorem dX7_workMinute_25 : decode cX7_workMinute 25 = .ok (.iload 4, 2) := by decide +kernel
theorem dX7_workMinute_27 : decode cX7_workMinute 27 = .ok (.laload, 1) := by decide +kernel
theorem dX7_workMinute_28 : decode cX7_workMinute 28 = .ok (.ldc2_w 24, 3) := by decide +kernel
theorem dX7_workMinute_31 : decode cX7_workMinute 31 = .ok (.lcmp, 1) := by decide +kernel
theorem dX7_workMinute_32 : decode cX7_workMinute 32 = .ok (.ifCond .eq 18, 3) := by decide +kernel
theorem dX7_workMinute_35 : decode cX7_workMinute 35 = .ok (.aload_n 0, 1) := by decide +kernel
theorem dX7_workMinute_36 : decode cX7_workMinute 36 = .ok (.iload 4, 2) := by decide +kernel
theorem dX7_workMinute_38 : decode cX7_workMinute 38 = .ok (.iload_n 1, 1) := by decide +kernel
theorem dX7_workMinute_39 : decode cX7_workMinute 39 = .ok (.invokevirtual 50, 3) := by decide +kernel
theorem dX7_workMinute_42 : decode cX7_workMinute 42 = .ok (.aload_n 0, 1) := by decide +kernel
theorem dX7_workMinute_43 : decode cX7_workMinute 43 = .ok (.iload 4, 2) := by decide +kernel
theorem dX7_workMinute_45 : decode cX7_workMinute 45 = .ok (.iload_n 1, 1) := by decide +kernel
theorem dX7_workMinute_46 : decode cX7_workMinute 46 = .ok (.lload_n 2, 1) := by decide +kernel
theorem dX7_workMinute_47 : decode cX7_workMinute 47 = .ok (.invokevirtual 54, 3) := by decide +kernel
theorem dX7_workMinute_50 : decode cX7_workMinute 50 = .ok (.iinc 4 1, 3) := by decide +kernel
theorem dX7_workMinute_53 : decode cX7_workMinute 53 = .ok (.goto (-40), 3) := by decide +kernel
theorem dX7_workMinute_56 : decode cX7_workMinute 56 = .ok (.aload_n 0, 1) := by decide +kernel
theorem dX7_workMinute_57 : decode cX7_workMinute 57 = .ok (.getfield 13, 3) := by decide +kernel
theorem dX7_workMinute_60 : decode cX7_workMinute 60 = .ok (.astore 4, 2) := by decide +kernel
theorem dX7_workMinute_62 : decode cX7_workMinute 62 = .ok (.aload_n 0, 1) := by decide +kernel
theorem dX7_workMinute_63 : decode cX7_workMinute 63 = .ok (.aload_n 0, 1) := by decide +kernel
theorem dX7_workMinute_64 : decode cX7_workMinute 64 = .ok (.getfield 17, 3) := by decide +kernel
theorem dX7_workMinute_67 : decode cX7_workMinute 67 = .ok (.putfield 13, 3) := by decide +kernel
theorem dX7_workMinute_70 : decode cX7_workMinute 70 = .ok (.aload_n 0, 1) := by decide +kernel
theorem dX7_workMinute_71 : decode cX7_workMinute 71 = .ok (.aload 4, 2) := by decide +kernel
theorem dX7_workMinute_73 : decode cX7_workMinute 73 = .ok (.putfield 17, 3) := by decide +kernel
theorem dX7_workMinute_76 : decode cX7_workMinute 76 = .ok (.return_, 1) := by decide +kernel
theorem dX7_workFirst_0 : decode cX7_workFirst 0 = .ok (.iload_n 1, 1) := by decide +kernel
theorem dX7_workFirst_1 : decode cX7_workFirst 1 = .ok (.invokestatic 58, 3) := by decide +kernel
theorem dX7_workFirst_4 : decode cX7_workFirst 4 = .ok (.istore_n 3, 1) := by decide +kernel
theorem dX7_workFirst_5 : decode cX7_workFirst 5 = .ok (.iload_n 3, 1) := by decide +kernel
theorem dX7_workFirst_6 : decode cX7_workFirst 6 = .ok (.iload_n 1, 1) := by decide +kernel
theorem dX7_workFirst_7 : decode cX7_workFirst 7 = .ok (.invokestatic 62, 3) := by decide +kernel
theorem dX7_workFirst_10 : decode cX7_workFirst 10 = .ok (.ifCond .ne 7, 3) := by decide +kernel
theorem dX7_workFirst_13 : decode cX7_workFirst 13 = .ok (.iconst 0, 1) := by decide +kernel
theorem dX7_workFirst_14 : decode cX7_workFirst 14 = .ok (.goto 4, 3) := by decide +kernel
theorem dX7_workFirst_17 : decode cX7_workFirst 17 = .ok (.iload_n 2, 1) := by decide +kernel
theorem dX7_workFirst_18 : decode cX7_workFirst 18 = .ok (.iadd, 1) := by decide +kernel
theorem dX7_workFirst_19 : decode cX7_workFirst 19 = .ok (.i2l, 1) := by decide +kernel
theorem dX7_workFirst_20 : decode cX7_workFirst 20 = .ok (.lstore 4, 2) := by decide +kernel
theorem dX7_workFirst_22 : decode cX7_workFirst 22 = .ok (.bipush 9, 2) := by decide +kernel
theorem dX7_workFirst_24 : decode cX7_workFirst 24 = .ok (.iload_n 3, 1) := by decide +kernel
theorem dX7_workFirst_25 : decode cX7_workFirst 25 = .ok (.iconst 1, 1) := by decide +kernel
theorem dX7_workFirst_26 : decode cX7_workFirst 26 = .ok (.iadd, 1) := by decide +kernel
theorem dX7_workFirst_27 : decode cX7_workFirst 27 = .ok (.invokestatic 65, 3) := by decide +kernel
theorem dX7_workFirst_30 : decode cX7_workFirst 30 = .ok (.iconst 0, 1) := by decide +kernel
theorem dX7_workFirst_31 : decode cX7_workFirst 31 = .ok (.iload_n 1, 1) := by decide +kernel
theorem dX7_workFirst_32 : decode cX7_workFirst 32 = .ok (.invokestatic 68, 3) := by decide +kernel
theorem dX7_workFirst_35 : decode cX7_workFirst 35 = .ok (.iconst 1, 1) := by decide +kernel
theorem dX7_workFirst_36 : decode cX7_workFirst 36 = .ok (.isub, 1) := by decide +kernel
theorem dX7_workFirst_37 : decode cX7_workFirst 37 = .ok (.invokestatic 71, 3) := by decide +kernel
theorem dX7_workFirst_40 : decode cX7_workFirst 40 = .ok (.iconst 0, 1) := by decide +kernel
theorem dX7_workFirst_41 : decode cX7_workFirst 41 = .ok (.invokestatic 32, 3) := by decide +kernel
theorem dX7_workFirst_44 : decode cX7_workFirst 44 = .ok (.istore 6, 2) := by decide +kernel
theorem dX7_workFirst_46 : decode cX7_workFirst 46 = .ok (.aload_n 0, 1) := by decide +kernel
theorem dX7_workFirst_47 : decode cX7_workFirst 47 = .ok (.getfield 17, 3) := by decide +kernel
theorem dX7_workFirst_50 : decode cX7_workFirst 50 = .ok (.iload 6, 2) := by decide +kernel
theorem dX7_workFirst_52 : decode cX7_workFirst 52 = .ok (.aload_n 0, 1) := by decide +kernel
theorem dX7_workFirst_53 : decode cX7_workFirst 53 = .ok (.getfield 17, 3) := by decide +kernel
theorem dX7_workFirst_56 : decode cX7_workFirst 56 = .ok (.iload 6, 2) := by decide +kernel
theorem dX7_workFirst_58 : decode cX7_workFirst 58 = .ok (.laload, 1) := by decide +kernel
theorem dX7_workFirst_59 : decode cX7_workFirst 59 = .ok (.aload_n 0, 1) := by decide +kernel
theorem dX7_workFirst_60 : decode cX7_workFirst 60 = .ok (.getfield 13, 3) := by decide +kernel
theorem dX7_workFirst_63 : decode cX7_workFirst 63 = .ok (.iload_n 1, 1) := by decide +kernel
theorem dX7_workFirst_64 : decode cX7_workFirst 64 = .ok (.laload, 1) := by decide +kernel
theorem dX7_workFirst_65 : decode cX7_workFirst 65 = .ok (.lload 4, 2) := by decide +kernel
theorem dX7_workFirst_67 : decode cX7_workFirst 67 = .ok (.bipush 40, 2) := by decide +kernel
theorem dX7_workFirst_69 : decode cX7_workFirst 69 = .ok (.lshl, 1) := by decide +kernel
theorem dX7_workFirst_70 : decode cX7_workFirst 70 = .ok (.ladd, 1) := by decide +kernel
theorem dX7_workFirst_71 : decode cX7_workFirst 71 = .ok (.invokestatic 44, 3) := by decide +kernel
theorem dX7_workFirst_74 : decode cX7_workFirst 74 = .ok (.lastore, 1) := by decide +kernel
theorem dX7_workFirst_75 : decode cX7_workFirst 75 = .ok (.return_, 1) := by decide +kernel
theorem dX7_workSecond_0 : decode cX7_workSecond 0 = .ok (.iload_n 1, 1) := by decide +kernel
theorem dX7_workSecond_1 : decode cX7_workSecond 1 = .ok (.invokestatic 68, 3) := by decide +kernel
theorem dX7_workSecond_4 : decode cX7_workSecond 4 = .ok (.istore 5, 2) := by decide +kernel
theorem dX7_workSecond_6 : decode cX7_workSecond 6 = .ok (.iload 5, 2) := by decide +kernel
theorem dX7_workSecond_8 : decode cX7_workSecond 8 = .ok (.iload_n 1, 1) := by decide +kernel
theorem dX7_workSecond_9 : decode cX7_workSecond 9 = .ok (.invokestatic 62, 3) := by decide +kernel
theorem dX7_workSecond_12 : decode cX7_workSecond 12 = .ok (.iconst 1, 1) := by decide +kernel
theorem dX7_workSecond_13 : decode cX7_workSecond 13 = .ok (.if_icmp .ne 7, 3) := by decide +kernel
theorem dX7_workSecond_16 : decode cX7_workSecond 16 = .ok (.iconst 0, 1) := by decide +kernel
theorem dX7_workSecond_17 : decode cX7_workSecond 17 = .ok (.goto 4, 3) := by decide +kernel
theorem dX7_workSecond_20 : decode cX7_workSecond 20 = .ok (.iload_n 2, 1) := by decide +kernel
theorem dX7_workSecond_21 : decode cX7_workSecond 21 = .ok (.iadd, 1) := by decide +kernel
theorem dX7_workSecond_22 : decode cX7_workSecond 22 = .ok (.i2l, 1) := by decide +kernel
theorem dX7_workSecond_23 : decode cX7_workSecond 23 = .ok (.lstore 6, 2) := by decide +kernel
theorem dX7_workSecond_25 : decode cX7_workSecond 25 = .ok (.iconst 0, 1) := by decide +kernel
theorem dX7_workSecond_26 : decode cX7_workSecond 26 = .ok (.iload_n 1, 1) := by decide +kernel
theorem dX7_workSecond_27 : decode cX7_workSecond 27 = .ok (.invokestatic 58, 3) := by decide +kernel
theorem dX7_workSecond_30 : decode cX7_workSecond 30 = .ok (.iconst 1, 1) := by decide +kernel
theorem dX7_workSecond_31 : decode cX7_workSecond 31 = .ok (.isub, 1) := by decide +kernel
theorem dX7_workSecond_32 : decode cX7_workSecond 32 = .ok (.invokestatic 71, 3) := by decide +kernel
theorem dX7_workSecond_35 : decode cX7_workSecond 35 = .ok (.bipush 9, 2) := by decide +kernel
theorem dX7_workSecond_37 : decode cX7_workSecond 37 = .ok (.iload 5, 2) := by decide +kernel
theorem dX7_workSecond_39 : decode cX7_workSecond 39 = .ok (.iconst 1, 1) := by decide +kernel
theorem dX7_workSecond_40 : decode cX7_workSecond 40 = .ok (.iadd, 1) := by decide +kernel
theorem dX7_workSecond_41 : decode cX7_workSecond 41 = .ok (.invokestatic 65, 3) := by decide +kernel
theorem dX7_workSecond_44 : decode cX7_workSecond 44 = .ok (.iconst 1, 1) := by decide +kernel
theorem dX7_workSecond_45 : decode cX7_workSecond 45 = .ok (.invokestatic 32, 3) := by decide +kernel
theorem dX7_workSecond_48 : decode cX7_workSecond 48 = .ok (.istore 8, 2) := by decide +kernel
theorem dX7_workSecond_50 : decode cX7_workSecond 50 = .ok (.aload_n 0, 1) := by decide +kernel
theorem dX7_workSecond_51 : decode cX7_workSecond 51 = .ok (.getfield 17, 3) := by decide +kernel
theorem dX7_workSecond_54 : decode cX7_workSecond 54 = .ok (.iload 8, 2) := by decide +kernel
theorem dX7_workSecond_56 : decode cX7_workSecond 56 = .ok (.aload_n 0, 1) := by decide +kernel
theorem dX7_workSecond_57 : decode cX7_workSecond 57 = .ok (.getfield 17, 3) := by decide +kernel
theorem dX7_workSecond_60 : decode cX7_workSecond 60 = .ok (.iload 8, 2) := by decide +kernel
theorem dX7_workSecond_62 : decode cX7_workSecond 62 = .ok (.laload, 1) := by decide +kernel
theorem dX7_workSecond_63 : decode cX7_workSecond 63 = .ok (.aload_n 0, 1) := by decide +kernel
theorem dX7_workSecond_64 : decode cX7_workSecond 64 = .ok (.getfield 13, 3) := by decide +kernel
theorem dX7_workSecond_67 : decode cX7_workSecond 67 = .ok (.iload_n 1, 1) := by decide +kernel
theorem dX7_workSecond_68 : decode cX7_workSecond 68 = .ok (.laload, 1) := by decide +kernel
theorem dX7_workSecond_69 : decode cX7_workSecond 69 = .ok (.lload 6, 2) := by decide +kernel
theorem dX7_workSecond_71 : decode cX7_workSecond 71 = .ok (.bipush 40, 2) := by decide +kernel
theorem dX7_workSecond_73 : decode cX7_workSecond 73 = .ok (.lshl, 1) := by decide +kernel
theorem dX7_workSecond_74 : decode cX7_workSecond 74 = .ok (.ladd, 1) := by decide +kernel
theorem dX7_workSecond_75 : decode cX7_workSecond 75 = .ok (.lload_n 3, 1) := by decide +kernel
theorem dX7_workSecond_76 : decode cX7_workSecond 76 = .ok (.ladd, 1) := by decide +kernel
theorem dX7_workSecond_77 : decode cX7_workSecond 77 = .ok (.invokestatic 44, 3) := by decide +kernel
theorem dX7_workSecond_80 : decode cX7_workSecond 80 = .ok (.lastore, 1) := by decide +kernel
theorem dX7_workSecond_81 : decode cX7_workSecond 81 = .ok (.return_, 1) := by decide +kernel
theorem dX7_stateOf_0 : decode cX7_stateOf 0 = .ok (.iload_n 0, 1) := by decide +kernel
theorem dX7_stateOf_1 : decode cX7_stateOf 1 = .ok (.bipush 10, 2) := by decide +kernel
theorem dX7_stateOf_3 : decode cX7_stateOf 3 = .ok (.imul, 1) := by decide +kernel
theorem dX7_stateOf_4 : decode cX7_stateOf 4 = .ok (.iload_n 1, 1) := by decide +kernel
theorem dX7_stateOf_5 : decode cX7_stateOf 5 = .ok (.iadd, 1) := by decide +kernel
theorem dX7_stateOf_6 : decode cX7_stateOf 6 = .ok (.iconst 2, 1) := by decide +kernel
theorem dX7_stateOf_7 : decode cX7_stateOf 7 = .ok (.imul, 1) := by decide +kernel
theorem dX7_stateOf_8 : decode cX7_stateOf 8 = .ok (.iload_n 2, 1) := by decide +kernel
theorem dX7_stateOf_9 : decode cX7_stateOf 9 = .ok (.iadd, 1) := by decide +kernel
theorem dX7_stateOf_10 : decode cX7_stateOf 10 = .ok (.ireturn, 1) := by decide +kernel
theorem dX7_firstOf_0 : decode cX7_firstOf 0 = .ok (.iload_n 0, 1) := by decide +kernel
theorem dX7_firstOf_1 : decode cX7_firstOf 1 = .ok (.bipush 20, 2) := by decide +kernel
theorem dX7_firstOf_3 : decode cX7_firstOf 3 = .ok (.idiv, 1) := by decide +kernel
theorem dX7_firstOf_4 : decode cX7_firstOf 4 = .ok (.ireturn, 1) := by decide +kernel
theorem dX7_secondOf_0 : decode cX7_secondOf 0 = .ok (.iload_n 0, 1) := by decide +kernel
theorem dX7_secondOf_1 : decode cX7_secondOf 1 = .ok (.iconst 2, 1) := by decide +kernel
theorem dX7_secondOf_2 : decode cX7_secondOf 2 = .ok (.idiv, 1) := by decide +kernel
theorem dX7_secondOf_3 : decode cX7_secondOf 3 = .ok (.bipush 10, 2) := by decide +kernel
theorem dX7_secondOf_5 : decode cX7_secondOf 5 = .ok (.irem, 1) := by decide +kernel
theorem dX7_secondOf_6 : decode cX7_secondOf 6 = .ok (.ireturn, 1) := by decide +kernel
theorem dX7_lastOf_0 : decode cX7_lastOf 0 = .ok (.iload_n 0, 1) := by decide +kernel
theorem dX7_lastOf_1 : decode cX7_lastOf 1 = .ok (.iconst 2, 1) := by decide +kernel
theorem dX7_lastOf_2 : decode cX7_lastOf 2 = .ok (.irem, 1) := by decide +kernel
theorem dX7_lastOf_3 : decode cX7_lastOf 3 = .ok (.ireturn, 1) := by decide +kernel
theorem dX8_init_0 : decode cX8_init 0 = .ok (.aload_n 0, 1) := by decide +kernel
theorem dX8_init_1 : decode cX8_init 1 = .ok (.invokespecial 3, 3) := by decide +kernel
theorem dX8_init_4 : decode cX8_init 4 = .ok (.aload_n 0, 1) := by decide +kernel
theorem dX8_init_5 : decode cX8_init 5 = .ok (.bipush 12, 2) := by decide +kernel
theorem dX8_init_7 : decode cX8_init 7 = .ok (.bipush 7, 2) := by decide +kernel
theorem dX8_init_9 : decode cX8_init 9 = .ok (.multianewarray 9 2, 4) := by decide +kernel
theorem dX8_init_13 : decode cX8_init 13 = .ok (.putfield 11, 3) := by decide +kernel
theorem dX8_init_16 : decode cX8_init 16 = .ok (.aload_n 0, 1) := by decide +kernel
theorem dX8_init_17 : decode cX8_init 17 = .ok (.bipush 12, 2) := by decide +kernel
theorem dX8_init_19 : decode cX8_init 19 = .ok (.newarray .int, 2) := by decide +kernel
theorem dX8_init_21 : decode cX8_init 21 = .ok (.putfield 16, 3) := by decide +kernel
theorem dX8_init_24 : decode cX8_init 24 = .ok (.return_, 1) := by decide +kernel
theorem dX8_take_0 : decode cX8_take 0 = .ok (.aload_n 0, 1) := by decide +kernel
theorem dX8_take_1 : decode cX8_take 1 = .ok (.iload_n 2, 1) := by decide +kernel
theorem dX8_take_2 : decode cX8_take 2 = .ok (.putfield 20, 3) := by decide +kernel
theorem dX8_take_5 : decode cX8_take 5 = .ok (.iconst 0, 1) := by decide +kernel
theorem dX8_take_6 : decode cX8_take 6 = .ok (.istore_n 3, 1) := by decide +kernel
theorem dX8_take_7 : decode cX8_take 7 = .ok (.iload_n 3, 1) := by decide +kernel
theorem dX8_take_8 : decode cX8_take 8 = .ok (.iconst 2, 1) := by decide +kernel
theorem dX8_take_9 : decode cX8_take 9 = .ok (.if_icmp .ge 44, 3) := by decide +kernel
theorem dX8_take_12 : decode cX8_take 12 = .ok (.iconst 0, 1) := by decide +kernel
theorem dX8_take_13 : decode cX8_take 13 = .ok (.istore 4, 2) := by decide +kernel
theorem dX8_take_15 : decode cX8_take 15 = .ok (.iload 4, 2) := by decide +kernel
theorem dX8_take_17 : decode cX8_take 17 = .ok (.iload_n 2, 1) := by decide +kernel
theorem dX8_take_18 : decode cX8_take 18 = .ok (.if_icmp .ge 29, 3) := by decide +kernel
theorem dX8_take_21 : decode cX8_take 21 = .ok (.aload_n 0, 1) := by decide +kernel
theorem dX8_take_22 : decode cX8_take 22 = .ok (.aload_n 1, 1) := by decide +kernel
theorem dX8_take_23 : decode cX8_take 23 = .ok (.iload_n 3, 1) := by decide +kernel
theorem dX8_take_24 : decode cX8_take 24 = .ok (.bipush 6, 2) := by decide +kernel
theorem dX8_take_26 : decode cX8_take 26 = .ok (.imul, 1) := by decide +kernel
theorem dX8_take_27 : decode cX8_take 27 = .ok (.iload 4, 2) := by decide +kernel
theorem dX8_take_29 : decode cX8_take 29 = .ok (.iadd, 1) := by decide +kernel
theorem dX8_take_30 : decode cX8_take 30 = .ok (.aaload, 1) := by decide +kernel
theorem dX8_take_31 : decode cX8_take 31 = .ok (.iload_n 3, 1) := by decide +kernel
theorem dX8_take_32 : decode cX8_take 32 = .ok (.bipush 6, 2) := by decide +kernel
theorem dX8_take_34 : decode cX8_take 34 = .ok (.imul, 1) := by decide +kernel
theorem dX8_take_35 : decode cX8_take 35 = .ok (.iload 4, 2) := by decide +kernel
theorem dX8_take_37 : decode cX8_take 37 = .ok (.iadd, 1) := by decide +kernel
theorem dX8_take_38 : decode cX8_take 38 = .ok (.invokevirtual 24, 3) := by decide +kernel
theorem dX8_take_41 : decode cX8_take 41 = .ok (.iinc 4 1, 3) := by decide +kernel
theorem dX8_take_44 : decode cX8_take 44 = .ok (.goto (-29), 3) := by decide +kernel
theorem dX8_take_47 : decode cX8_take 47 = .ok (.iinc 3 1, 3) := by decide +kernel
theorem dX8_take_50 : decode cX8_take 50 = .ok (.goto (-43), 3) := by decide +kernel
theorem dX8_take_53 : decode cX8_take 53 = .ok (.return_, 1) := by decide +kernel
theorem dX8_takeWord_0 : decode cX8_takeWord 0 = .ok (.bipush 12, 2) := by decide +kernel
theorem dX8_takeWord_2 : decode cX8_takeWord 2 = .ok (.istore_n 3, 1) := by decide +kernel
theorem dX8_takeWord_3 : decode cX8_takeWord 3 = .ok (.iconst 0, 1) := by decide +kernel
theorem dX8_takeWord_4 : decode cX8_takeWord 4 = .ok (.istore 4, 2) := by decide +kernel
theorem dX8_takeWord_6 : decode cX8_takeWord 6 = .ok (.iconst 0, 1) := by decide +kernel
theorem dX8_takeWord_7 : decode cX8_takeWord 7 = .ok (.istore 5, 2) := by decide +kernel
theorem dX8_takeWord_9 : decode cX8_takeWord 9 = .ok (.iload 5, 2) := by decide +kernel
theorem dX8_takeWord_11 : decode cX8_takeWord 11 = .ok (.aload_n 0, 1) := by decide +kernel
theorem dX8_takeWord_12 : decode cX8_takeWord 12 = .ok (.getfield 20, 3) := by decide +kernel
theorem dX8_takeWord_15 : decode cX8_takeWord 15 = .ok (.if_icmp .ge 44, 3) := by decide +kernel
theorem dX8_takeWord_18 : decode cX8_takeWord 18 = .ok (.aload_n 0, 1) := by decide +kernel
theorem dX8_takeWord_19 : decode cX8_takeWord 19 = .ok (.getfield 11, 3) := by decide +kernel
theorem dX8_takeWord_22 : decode cX8_takeWord 22 = .ok (.iload_n 2, 1) := by decide +kernel
theorem dX8_takeWord_23 : decode cX8_takeWord 23 = .ok (.aaload, 1) := by decide +kernel
theorem dX8_takeWord_24 : decode cX8_takeWord 24 = .ok (.iload 5, 2) := by decide +kernel
theorem dX8_takeWord_26 : decode cX8_takeWord 26 = .ok (.aload_n 1, 1) := by decide +kernel
theorem dX8_takeWord_27 : decode cX8_takeWord 27 = .ok (.iload 5, 2) := by decide +kernel
theorem dX8_takeWord_29 : decode cX8_takeWord 29 = .ok (.iaload, 1) := by decide +kernel
theorem dX8_takeWord_30 : decode cX8_takeWord 30 = .ok (.iastore, 1) := by decide +kernel
theorem dX8_takeWord_31 : decode cX8_takeWord 31 = .ok (.iload_n 3, 1) := by decide +kernel
theorem dX8_takeWord_32 : decode cX8_takeWord 32 = .ok (.aload_n 1, 1) := by decide +kernel
theorem dX8_takeWord_33 : decode cX8_takeWord 33 = .ok (.iload 5, 2) := by decide +kernel
theorem dX8_takeWord_35 : decode cX8_takeWord 35 = .ok (.iaload, 1) := by decide +kernel
theorem dX8_takeWord_36 : decode cX8_takeWord 36 = .ok (.isub, 1) := by decide +kernel
theorem dX8_takeWord_37 : decode cX8_takeWord 37 = .ok (.istore_n 3, 1) := by decide +kernel
theorem dX8_takeWord_38 : decode cX8_takeWord 38 = .ok (.aload_n 1, 1) := by decide +kernel
theorem dX8_takeWord_39 : decode cX8_takeWord 39 = .ok (.iload 5, 2) := by decide +kernel
theorem dX8_takeWord_41 : decode cX8_takeWord 41 = .ok (.iaload, 1) := by decide +kernel
theorem dX8_takeWord_42 : decode cX8_takeWord 42 = .ok (.aload_n 1, 1) := by decide +kernel
theorem dX8_takeWord_43 : decode cX8_takeWord 43 = .ok (.iload 4, 2) := by decide +kernel
theorem dX8_takeWord_45 : decode cX8_takeWord 45 = .ok (.iaload, 1) := by decide +kernel
theorem dX8_takeWord_46 : decode cX8_takeWord 46 = .ok (.if_icmp .le 7, 3) := by decide +kernel
theorem dX8_takeWord_49 : decode cX8_takeWord 49 = .ok (.iload 5, 2) := by decide +kernel
theorem dX8_takeWord_51 : decode cX8_takeWord 51 = .ok (.istore 4, 2) := by decide +kernel
theorem dX8_takeWord_53 : decode cX8_takeWord 53 = .ok (.iinc 5 1, 3) := by decide +kernel
theorem dX8_takeWord_56 : decode cX8_takeWord 56 = .ok (.goto (-47), 3) := by decide +kernel
theorem dX8_takeWord_59 : decode cX8_takeWord 59 = .ok (.aload_n 0, 1) := by decide +kernel
theorem dX8_takeWord_60 : decode cX8_takeWord 60 = .ok (.getfield 11, 3) := by decide +kernel
theorem dX8_takeWord_63 : decode cX8_takeWord 63 = .ok (.iload_n 2, 1) := by decide +kernel
theorem dX8_takeWord_64 : decode cX8_takeWord 64 = .ok (.aaload, 1) := by decide +kernel
theorem dX8_takeWord_65 : decode cX8_takeWord 65 = .ok (.aload_n 0, 1) := by decide +kernel
theorem dX8_takeWord_66 : decode cX8_takeWord 66 = .ok (.getfield 20, 3) := by decide +kernel
theorem dX8_takeWord_69 : decode cX8_takeWord 69 = .ok (.iload_n 3, 1) := by decide +kernel
theorem dX8_takeWord_70 : decode cX8_takeWord 70 = .ok (.iastore, 1) := by decide +kernel
theorem dX8_takeWord_71 : decode cX8_takeWord 71 = .ok (.aload_n 0, 1) := by decide +kernel
theorem dX8_takeWord_72 : decode cX8_takeWord 72 = .ok (.getfield 16, 3) := by decide +kernel
theorem dX8_takeWord_75 : decode cX8_takeWord 75 = .ok (.iload_n 2, 1) := by decide +kernel
theorem dX8_takeWord_76 : decode cX8_takeWord 76 = .ok (.iload 4, 2) := by decide +kernel
theorem dX8_takeWord_78 : decode cX8_takeWord 78 = .ok (.iastore, 1) := by decide +kernel
theorem dX8_takeWord_79 : decode cX8_takeWord 79 = .ok (.return_, 1) := by decide +kernel
theorem dX8_twelfths_0 : decode cX8_twelfths 0 = .ok (.aload_n 0, 1) := by decide +kernel
theorem dX8_twelfths_1 : decode cX8_twelfths 1 = .ok (.getfield 11, 3) := by decide +kernel
theorem dX8_twelfths_4 : decode cX8_twelfths 4 = .ok (.iload_n 1, 1) := by decide +kernel
theorem dX8_twelfths_5 : decode cX8_twelfths 5 = .ok (.bipush 6, 2) := by decide +kernel
theorem dX8_twelfths_7 : decode cX8_twelfths 7 = .ok (.imul, 1) := by decide +kernel
theorem dX8_twelfths_8 : decode cX8_twelfths 8 = .ok (.iload_n 2, 1) := by decide +kernel
theorem dX8_twelfths_9 : decode cX8_twelfths 9 = .ok (.iadd, 1) := by decide +kernel
theorem dX8_twelfths_10 : decode cX8_twelfths 10 = .ok (.aaload, 1) := by decide +kernel
theorem dX8_twelfths_11 : decode cX8_twelfths 11 = .ok (.iload_n 3, 1) := by decide +kernel
theorem dX8_twelfths_12 : decode cX8_twelfths 12 = .ok (.iaload, 1) := by decide +kernel
theorem dX8_twelfths_13 : decode cX8_twelfths 13 = .ok (.ireturn, 1) := by decide +kernel
theorem dX8_meaning_0 : decode cX8_meaning 0 = .ok (.aload_n 0, 1) := by decide +kernel
theorem dX8_meaning_1 : decode cX8_meaning 1 = .ok (.getfield 16, 3) := by decide +kernel
