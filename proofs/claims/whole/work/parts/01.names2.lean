theorem dX0_ofTwo_0 : decode cX0_ofTwo 0 = .ok (.lconst 1, 1) := by decide +kernel
theorem dX0_ofTwo_1 : decode cX0_ofTwo 1 = .ok (.lstore_n 2, 1) := by decide +kernel
theorem dX0_ofTwo_2 : decode cX0_ofTwo 2 = .ok (.lconst 1, 1) := by decide +kernel
theorem dX0_ofTwo_3 : decode cX0_ofTwo 3 = .ok (.lstore 4, 2) := by decide +kernel
theorem dX0_ofTwo_5 : decode cX0_ofTwo 5 = .ok (.lconst 0, 1) := by decide +kernel
theorem dX0_ofTwo_6 : decode cX0_ofTwo 6 = .ok (.lstore 6, 2) := by decide +kernel
theorem dX0_ofTwo_8 : decode cX0_ofTwo 8 = .ok (.iconst 0, 1) := by decide +kernel
theorem dX0_ofTwo_9 : decode cX0_ofTwo 9 = .ok (.istore 8, 2) := by decide +kernel
theorem dX0_ofTwo_11 : decode cX0_ofTwo 11 = .ok (.iload 8, 2) := by decide +kernel
theorem dX0_ofTwo_13 : decode cX0_ofTwo 13 = .ok (.aload_n 0, 1) := by decide +kernel
theorem dX0_ofTwo_14 : decode cX0_ofTwo 14 = .ok (.getfield 9, 3) := by decide +kernel
theorem dX0_ofTwo_17 : decode cX0_ofTwo 17 = .ok (.if_icmp .ge 68, 3) := by decide +kernel
theorem dX0_ofTwo_20 : decode cX0_ofTwo 20 = .ok (.iload 8, 2) := by decide +kernel
theorem dX0_ofTwo_22 : decode cX0_ofTwo 22 = .ok (.bipush 8, 2) := by decide +kernel
theorem dX0_ofTwo_24 : decode cX0_ofTwo 24 = .ok (.if_icmp .ge 61, 3) := by decide +kernel
theorem dX0_ofTwo_27 : decode cX0_ofTwo 27 = .ok (.bipush 99, 2) := by decide +kernel
theorem dX0_ofTwo_29 : decode cX0_ofTwo 29 = .ok (.aload_n 0, 1) := by decide +kernel
theorem dX0_ofTwo_30 : decode cX0_ofTwo 30 = .ok (.getfield 15, 3) := by decide +kernel
theorem dX0_ofTwo_33 : decode cX0_ofTwo 33 = .ok (.iload 8, 2) := by decide +kernel
theorem dX0_ofTwo_35 : decode cX0_ofTwo 35 = .ok (.aaload, 1) := by decide +kernel
theorem dX0_ofTwo_36 : decode cX0_ofTwo 36 = .ok (.invokevirtual 19, 3) := by decide +kernel
theorem dX0_ofTwo_39 : decode cX0_ofTwo 39 = .ok (.invokestatic 25, 3) := by decide +kernel
theorem dX0_ofTwo_42 : decode cX0_ofTwo 42 = .ok (.i2l, 1) := by decide +kernel
theorem dX0_ofTwo_43 : decode cX0_ofTwo 43 = .ok (.lstore 9, 2) := by decide +kernel
theorem dX0_ofTwo_45 : decode cX0_ofTwo 45 = .ok (.lload_n 2, 1) := by decide +kernel
theorem dX0_ofTwo_46 : decode cX0_ofTwo 46 = .ok (.ldc2_w 31, 3) := by decide +kernel
theorem dX0_ofTwo_49 : decode cX0_ofTwo 49 = .ok (.lmul, 1) := by decide +kernel
theorem dX0_ofTwo_50 : decode cX0_ofTwo 50 = .ok (.lstore_n 2, 1) := by decide +kernel
theorem dX0_ofTwo_51 : decode cX0_ofTwo 51 = .ok (.lload 6, 2) := by decide +kernel
theorem dX0_ofTwo_53 : decode cX0_ofTwo 53 = .ok (.ldc2_w 31, 3) := by decide +kernel
theorem dX0_ofTwo_56 : decode cX0_ofTwo 56 = .ok (.lload 9, 2) := by decide +kernel
theorem dX0_ofTwo_58 : decode cX0_ofTwo 58 = .ok (.lsub, 1) := by decide +kernel
theorem dX0_ofTwo_59 : decode cX0_ofTwo 59 = .ok (.lmul, 1) := by decide +kernel
theorem dX0_ofTwo_60 : decode cX0_ofTwo 60 = .ok (.lload 4, 2) := by decide +kernel
theorem dX0_ofTwo_62 : decode cX0_ofTwo 62 = .ok (.lload 9, 2) := by decide +kernel
theorem dX0_ofTwo_64 : decode cX0_ofTwo 64 = .ok (.lmul, 1) := by decide +kernel
theorem dX0_ofTwo_65 : decode cX0_ofTwo 65 = .ok (.ladd, 1) := by decide +kernel
theorem dX0_ofTwo_66 : decode cX0_ofTwo 66 = .ok (.lstore 6, 2) := by decide +kernel
theorem dX0_ofTwo_68 : decode cX0_ofTwo 68 = .ok (.lload 4, 2) := by decide +kernel
theorem dX0_ofTwo_70 : decode cX0_ofTwo 70 = .ok (.ldc2_w 31, 3) := by decide +kernel
theorem dX0_ofTwo_73 : decode cX0_ofTwo 73 = .ok (.lload 9, 2) := by decide +kernel
theorem dX0_ofTwo_75 : decode cX0_ofTwo 75 = .ok (.lsub, 1) := by decide +kernel
theorem dX0_ofTwo_76 : decode cX0_ofTwo 76 = .ok (.lmul, 1) := by decide +kernel
theorem dX0_ofTwo_77 : decode cX0_ofTwo 77 = .ok (.lstore 4, 2) := by decide +kernel
theorem dX0_ofTwo_79 : decode cX0_ofTwo 79 = .ok (.iinc 8 1, 3) := by decide +kernel
theorem dX0_ofTwo_82 : decode cX0_ofTwo 82 = .ok (.goto (-71), 3) := by decide +kernel
theorem dX0_ofTwo_85 : decode cX0_ofTwo 85 = .ok (.lload_n 2, 1) := by decide +kernel
theorem dX0_ofTwo_86 : decode cX0_ofTwo 86 = .ok (.lload 4, 2) := by decide +kernel
theorem dX0_ofTwo_88 : decode cX0_ofTwo 88 = .ok (.lsub, 1) := by decide +kernel
theorem dX0_ofTwo_89 : decode cX0_ofTwo 89 = .ok (.lstore 8, 2) := by decide +kernel
theorem dX0_ofTwo_91 : decode cX0_ofTwo 91 = .ok (.lload 8, 2) := by decide +kernel
theorem dX0_ofTwo_93 : decode cX0_ofTwo 93 = .ok (.lload 6, 2) := by decide +kernel
theorem dX0_ofTwo_95 : decode cX0_ofTwo 95 = .ok (.lsub, 1) := by decide +kernel
theorem dX0_ofTwo_96 : decode cX0_ofTwo 96 = .ok (.lstore 10, 2) := by decide +kernel
theorem dX0_ofTwo_98 : decode cX0_ofTwo 98 = .ok (.lload 8, 2) := by decide +kernel
theorem dX0_ofTwo_100 : decode cX0_ofTwo 100 = .ok (.lload 10, 2) := by decide +kernel
theorem dX0_ofTwo_102 : decode cX0_ofTwo 102 = .ok (.invokestatic 33, 3) := by decide +kernel
theorem dX0_ofTwo_105 : decode cX0_ofTwo 105 = .ok (.lstore 12, 2) := by decide +kernel
theorem dX0_ofTwo_107 : decode cX0_ofTwo 107 = .ok (.lload 12, 2) := by decide +kernel
theorem dX0_ofTwo_109 : decode cX0_ofTwo 109 = .ok (.lconst 0, 1) := by decide +kernel
theorem dX0_ofTwo_110 : decode cX0_ofTwo 110 = .ok (.lcmp, 1) := by decide +kernel
theorem dX0_ofTwo_111 : decode cX0_ofTwo 111 = .ok (.ifCond .gt 5, 3) := by decide +kernel
theorem dX0_ofTwo_114 : decode cX0_ofTwo 114 = .ok (.lconst 0, 1) := by decide +kernel
theorem dX0_ofTwo_115 : decode cX0_ofTwo 115 = .ok (.lreturn, 1) := by decide +kernel
theorem dX0_ofTwo_116 : decode cX0_ofTwo 116 = .ok (.iload_n 1, 1) := by decide +kernel
theorem dX0_ofTwo_117 : decode cX0_ofTwo 117 = .ok (.ifCond .eq 8, 3) := by decide +kernel
theorem dX0_ofTwo_120 : decode cX0_ofTwo 120 = .ok (.lload 10, 2) := by decide +kernel
theorem dX0_ofTwo_122 : decode cX0_ofTwo 122 = .ok (.goto 5, 3) := by decide +kernel
theorem dX0_ofTwo_125 : decode cX0_ofTwo 125 = .ok (.lload 8, 2) := by decide +kernel
theorem dX0_ofTwo_127 : decode cX0_ofTwo 127 = .ok (.lload 12, 2) := by decide +kernel
theorem dX0_ofTwo_129 : decode cX0_ofTwo 129 = .ok (.ldiv, 1) := by decide +kernel
theorem dX0_ofTwo_130 : decode cX0_ofTwo 130 = .ok (.lreturn, 1) := by decide +kernel
theorem dX0_greatestShared_0 : decode cX0_greatestShared 0 = .ok (.lload_n 0, 1) := by decide +kernel
theorem dX0_greatestShared_1 : decode cX0_greatestShared 1 = .ok (.lstore 4, 2) := by decide +kernel
theorem dX0_greatestShared_3 : decode cX0_greatestShared 3 = .ok (.lload_n 2, 1) := by decide +kernel
theorem dX0_greatestShared_4 : decode cX0_greatestShared 4 = .ok (.lstore 6, 2) := by decide +kernel
theorem dX0_greatestShared_6 : decode cX0_greatestShared 6 = .ok (.iconst 0, 1) := by decide +kernel
theorem dX0_greatestShared_7 : decode cX0_greatestShared 7 = .ok (.istore 8, 2) := by decide +kernel
theorem dX0_greatestShared_9 : decode cX0_greatestShared 9 = .ok (.iload 8, 2) := by decide +kernel
theorem dX0_greatestShared_11 : decode cX0_greatestShared 11 = .ok (.sipush 1000, 3) := by decide +kernel
theorem dX0_greatestShared_14 : decode cX0_greatestShared 14 = .ok (.if_icmp .ge 31, 3) := by decide +kernel
theorem dX0_greatestShared_17 : decode cX0_greatestShared 17 = .ok (.lload 6, 2) := by decide +kernel
theorem dX0_greatestShared_19 : decode cX0_greatestShared 19 = .ok (.lconst 0, 1) := by decide +kernel
theorem dX0_greatestShared_20 : decode cX0_greatestShared 20 = .ok (.lcmp, 1) := by decide +kernel
theorem dX0_greatestShared_21 : decode cX0_greatestShared 21 = .ok (.ifCond .eq 24, 3) := by decide +kernel
theorem dX0_greatestShared_24 : decode cX0_greatestShared 24 = .ok (.lload 4, 2) := by decide +kernel
theorem dX0_greatestShared_26 : decode cX0_greatestShared 26 = .ok (.lload 6, 2) := by decide +kernel
theorem dX0_greatestShared_28 : decode cX0_greatestShared 28 = .ok (.lrem, 1) := by decide +kernel
theorem dX0_greatestShared_29 : decode cX0_greatestShared 29 = .ok (.lstore 9, 2) := by decide +kernel
theorem dX0_greatestShared_31 : decode cX0_greatestShared 31 = .ok (.lload 6, 2) := by decide +kernel
theorem dX0_greatestShared_33 : decode cX0_greatestShared 33 = .ok (.lstore 4, 2) := by decide +kernel
theorem dX0_greatestShared_35 : decode cX0_greatestShared 35 = .ok (.lload 9, 2) := by decide +kernel
theorem dX0_greatestShared_37 : decode cX0_greatestShared 37 = .ok (.lstore 6, 2) := by decide +kernel
theorem dX0_greatestShared_39 : decode cX0_greatestShared 39 = .ok (.iinc 8 1, 3) := by decide +kernel
theorem dX0_greatestShared_42 : decode cX0_greatestShared 42 = .ok (.goto (-33), 3) := by decide +kernel
theorem dX0_greatestShared_45 : decode cX0_greatestShared 45 = .ok (.lload 4, 2) := by decide +kernel
theorem dX0_greatestShared_47 : decode cX0_greatestShared 47 = .ok (.lreturn, 1) := by decide +kernel
theorem dX1_init_0 : decode cX1_init 0 = .ok (.aload_n 0, 1) := by decide +kernel
theorem dX1_init_1 : decode cX1_init 1 = .ok (.invokespecial 3, 3) := by decide +kernel
theorem dX1_init_4 : decode cX1_init 4 = .ok (.return_, 1) := by decide +kernel
theorem dX1_begin_0 : decode cX1_begin 0 = .ok (.aload_n 0, 1) := by decide +kernel
theorem dX1_begin_1 : decode cX1_begin 1 = .ok (.iload_n 1, 1) := by decide +kernel
theorem dX1_begin_2 : decode cX1_begin 2 = .ok (.putfield 9, 3) := by decide +kernel
theorem dX1_begin_5 : decode cX1_begin 5 = .ok (.aload_n 0, 1) := by decide +kernel
theorem dX1_begin_6 : decode cX1_begin 6 = .ok (.iload_n 2, 1) := by decide +kernel
theorem dX1_begin_7 : decode cX1_begin 7 = .ok (.putfield 15, 3) := by decide +kernel
theorem dX1_begin_10 : decode cX1_begin 10 = .ok (.aload_n 0, 1) := by decide +kernel
theorem dX1_begin_11 : decode cX1_begin 11 = .ok (.iload_n 3, 1) := by decide +kernel
theorem dX1_begin_12 : decode cX1_begin 12 = .ok (.putfield 18, 3) := by decide +kernel
theorem dX1_begin_15 : decode cX1_begin 15 = .ok (.aload_n 0, 1) := by decide +kernel
theorem dX1_begin_16 : decode cX1_begin 16 = .ok (.invokevirtual 21, 3) := by decide +kernel
theorem dX1_begin_19 : decode cX1_begin 19 = .ok (.return_, 1) := by decide +kernel
theorem dX1_copyFrom_0 : decode cX1_copyFrom 0 = .ok (.aload_n 0, 1) := by decide +kernel
theorem dX1_copyFrom_1 : decode cX1_copyFrom 1 = .ok (.aload_n 1, 1) := by decide +kernel
theorem dX1_copyFrom_2 : decode cX1_copyFrom 2 = .ok (.getfield 9, 3) := by decide +kernel
theorem dX1_copyFrom_5 : decode cX1_copyFrom 5 = .ok (.putfield 9, 3) := by decide +kernel
theorem dX1_copyFrom_8 : decode cX1_copyFrom 8 = .ok (.aload_n 0, 1) := by decide +kernel
theorem dX1_copyFrom_9 : decode cX1_copyFrom 9 = .ok (.aload_n 1, 1) := by decide +kernel
theorem dX1_copyFrom_10 : decode cX1_copyFrom 10 = .ok (.getfield 15, 3) := by decide +kernel
theorem dX1_copyFrom_13 : decode cX1_copyFrom 13 = .ok (.putfield 15, 3) := by decide +kernel
theorem dX1_copyFrom_16 : decode cX1_copyFrom 16 = .ok (.aload_n 0, 1) := by decide +kernel
theorem dX1_copyFrom_17 : decode cX1_copyFrom 17 = .ok (.aload_n 1, 1) := by decide +kernel
theorem dX1_copyFrom_18 : decode cX1_copyFrom 18 = .ok (.getfield 18, 3) := by decide +kernel
theorem dX1_copyFrom_21 : decode cX1_copyFrom 21 = .ok (.putfield 18, 3) := by decide +kernel
theorem dX1_copyFrom_24 : decode cX1_copyFrom 24 = .ok (.aload_n 0, 1) := by decide +kernel
theorem dX1_copyFrom_25 : decode cX1_copyFrom 25 = .ok (.aload_n 1, 1) := by decide +kernel
theorem dX1_copyFrom_26 : decode cX1_copyFrom 26 = .ok (.getfield 24, 3) := by decide +kernel
theorem dX1_copyFrom_29 : decode cX1_copyFrom 29 = .ok (.putfield 24, 3) := by decide +kernel
theorem dX1_copyFrom_32 : decode cX1_copyFrom 32 = .ok (.aload_n 0, 1) := by decide +kernel
theorem dX1_copyFrom_33 : decode cX1_copyFrom 33 = .ok (.aload_n 1, 1) := by decide +kernel
theorem dX1_copyFrom_34 : decode cX1_copyFrom 34 = .ok (.getfield 27, 3) := by decide +kernel
theorem dX1_copyFrom_37 : decode cX1_copyFrom 37 = .ok (.putfield 27, 3) := by decide +kernel
theorem dX1_copyFrom_40 : decode cX1_copyFrom 40 = .ok (.return_, 1) := by decide +kernel
theorem dX1_putAnew_0 : decode cX1_putAnew 0 = .ok (.aload_n 0, 1) := by decide +kernel
theorem dX1_putAnew_1 : decode cX1_putAnew 1 = .ok (.iconst 0, 1) := by decide +kernel
theorem dX1_putAnew_2 : decode cX1_putAnew 2 = .ok (.putfield 24, 3) := by decide +kernel
theorem dX1_putAnew_5 : decode cX1_putAnew 5 = .ok (.aload_n 0, 1) := by decide +kernel
theorem dX1_putAnew_6 : decode cX1_putAnew 6 = .ok (.iconst 0, 1) := by decide +kernel
theorem dX1_putAnew_7 : decode cX1_putAnew 7 = .ok (.putfield 27, 3) := by decide +kernel
theorem dX1_putAnew_10 : decode cX1_putAnew 10 = .ok (.return_, 1) := by decide +kernel
theorem dX1_isWell_0 : decode cX1_isWell 0 = .ok (.aload_n 0, 1) := by decide +kernel
theorem dX1_isWell_1 : decode cX1_isWell 1 = .ok (.getfield 27, 3) := by decide +kernel
theorem dX1_isWell_4 : decode cX1_isWell 4 = .ok (.ifCond .ne 7, 3) := by decide +kernel
theorem dX1_isWell_7 : decode cX1_isWell 7 = .ok (.iconst 1, 1) := by decide +kernel
theorem dX1_isWell_8 : decode cX1_isWell 8 = .ok (.goto 4, 3) := by decide +kernel
theorem dX1_isWell_11 : decode cX1_isWell 11 = .ok (.iconst 0, 1) := by decide +kernel
theorem dX1_isWell_12 : decode cX1_isWell 12 = .ok (.ireturn, 1) := by decide +kernel
theorem dX1_breaksRow_0 : decode cX1_breaksRow 0 = .ok (.aload_n 0, 1) := by decide +kernel
theorem dX1_breaksRow_1 : decode cX1_breaksRow 1 = .ok (.getfield 27, 3) := by decide +kernel
theorem dX1_breaksRow_4 : decode cX1_breaksRow 4 = .ok (.iconst 1, 1) := by decide +kernel
theorem dX1_breaksRow_5 : decode cX1_breaksRow 5 = .ok (.if_icmp .eq 11, 3) := by decide +kernel
theorem dX1_breaksRow_8 : decode cX1_breaksRow 8 = .ok (.aload_n 0, 1) := by decide +kernel
theorem dX1_breaksRow_9 : decode cX1_breaksRow 9 = .ok (.getfield 27, 3) := by decide +kernel
theorem dX1_breaksRow_12 : decode cX1_breaksRow 12 = .ok (.iconst 3, 1) := by decide +kernel
theorem dX1_breaksRow_13 : decode cX1_breaksRow 13 = .ok (.if_icmp .ne 7, 3) := by decide +kernel
theorem dX1_breaksRow_16 : decode cX1_breaksRow 16 = .ok (.iconst 1, 1) := by decide +kernel
theorem dX1_breaksRow_17 : decode cX1_breaksRow 17 = .ok (.goto 4, 3) := by decide +kernel
theorem dX1_breaksRow_20 : decode cX1_breaksRow 20 = .ok (.iconst 0, 1) := by decide +kernel
theorem dX1_breaksRow_21 : decode cX1_breaksRow 21 = .ok (.ireturn, 1) := by decide +kernel
theorem dX1_isLoose_0 : decode cX1_isLoose 0 = .ok (.aload_n 0, 1) := by decide +kernel
theorem dX1_isLoose_1 : decode cX1_isLoose 1 = .ok (.getfield 9, 3) := by decide +kernel
theorem dX1_isLoose_4 : decode cX1_isLoose 4 = .ok (.iconst 2, 1) := by decide +kernel
theorem dX1_isLoose_5 : decode cX1_isLoose 5 = .ok (.if_icmp .eq 11, 3) := by decide +kernel
theorem dX1_isLoose_8 : decode cX1_isLoose 8 = .ok (.aload_n 0, 1) := by decide +kernel
theorem dX1_isLoose_9 : decode cX1_isLoose 9 = .ok (.getfield 9, 3) := by decide +kernel
theorem dX1_isLoose_12 : decode cX1_isLoose 12 = .ok (.iconst 3, 1) := by decide +kernel
theorem dX1_isLoose_13 : decode cX1_isLoose 13 = .ok (.if_icmp .ne 7, 3) := by decide +kernel
theorem dX1_isLoose_16 : decode cX1_isLoose 16 = .ok (.iconst 1, 1) := by decide +kernel
theorem dX1_isLoose_17 : decode cX1_isLoose 17 = .ok (.goto 4, 3) := by decide +kernel
theorem dX1_isLoose_20 : decode cX1_isLoose 20 = .ok (.iconst 0, 1) := by decide +kernel
theorem dX1_isLoose_21 : decode cX1_isLoose 21 = .ok (.ireturn, 1) := by decide +kernel
theorem dX1_isBridger_0 : decode cX1_isBridger 0 = .ok (.aload_n 0, 1) := by decide +kernel
theorem dX1_isBridger_1 : decode cX1_isBridger 1 = .ok (.getfield 9, 3) := by decide +kernel
theorem dX1_isBridger_4 : decode cX1_isBridger 4 = .ok (.iconst 1, 1) := by decide +kernel
theorem dX1_isBridger_5 : decode cX1_isBridger 5 = .ok (.if_icmp .eq 11, 3) := by decide +kernel
theorem dX1_isBridger_8 : decode cX1_isBridger 8 = .ok (.aload_n 0, 1) := by decide +kernel
theorem dX1_isBridger_9 : decode cX1_isBridger 9 = .ok (.getfield 9, 3) := by decide +kernel
theorem dX1_isBridger_12 : decode cX1_isBridger 12 = .ok (.iconst 5, 1) := by decide +kernel
theorem dX1_isBridger_13 : decode cX1_isBridger 13 = .ok (.if_icmp .ne 7, 3) := by decide +kernel
theorem dX1_isBridger_16 : decode cX1_isBridger 16 = .ok (.iconst 1, 1) := by decide +kernel
theorem dX1_isBridger_17 : decode cX1_isBridger 17 = .ok (.goto 4, 3) := by decide +kernel
theorem dX1_isBridger_20 : decode cX1_isBridger 20 = .ok (.iconst 0, 1) := by decide +kernel
theorem dX1_isBridger_21 : decode cX1_isBridger 21 = .ok (.ireturn, 1) := by decide +kernel
theorem dX1_drag_0 : decode cX1_drag 0 = .ok (.aload_n 0, 1) := by decide +kernel
theorem dX1_drag_1 : decode cX1_drag 1 = .ok (.getfield 27, 3) := by decide +kernel
theorem dX1_drag_4 : decode cX1_drag 4 = .ok (.iconst 2, 1) := by decide +kernel
theorem dX1_drag_5 : decode cX1_drag 5 = .ok (.if_icmp .ne 5, 3) := by decide +kernel
theorem dX1_drag_8 : decode cX1_drag 8 = .ok (.iconst 0, 1) := by decide +kernel
theorem dX1_drag_9 : decode cX1_drag 9 = .ok (.ireturn, 1) := by decide +kernel
theorem dX1_drag_10 : decode cX1_drag 10 = .ok (.aload_n 0, 1) := by decide +kernel
theorem dX1_drag_11 : decode cX1_drag 11 = .ok (.getfield 9, 3) := by decide +kernel
theorem dX1_drag_14 : decode cX1_drag 14 = .ok (.tableswitch 35 3 5 #[26, 29, 32], 26) := by decide +kernel
theorem dX1_drag_40 : decode cX1_drag 40 = .ok (.bipush 15, 2) := by decide +kernel
theorem dX1_drag_42 : decode cX1_drag 42 = .ok (.ireturn, 1) := by decide +kernel
theorem dX1_drag_43 : decode cX1_drag 43 = .ok (.bipush 6, 2) := by decide +kernel
theorem dX1_drag_45 : decode cX1_drag 45 = .ok (.ireturn, 1) := by decide +kernel
theorem dX1_drag_46 : decode cX1_drag 46 = .ok (.bipush 20, 2) := by decide +kernel
theorem dX1_drag_48 : decode cX1_drag 48 = .ok (.ireturn, 1) := by decide +kernel
theorem dX1_drag_49 : decode cX1_drag 49 = .ok (.bipush 10, 2) := by decide +kernel
theorem dX1_drag_51 : decode cX1_drag 51 = .ok (.ireturn, 1) := by decide +kernel
theorem dX1_brightAt_0 : decode cX1_brightAt 0 = .ok (.aload_n 0, 1) := by decide +kernel
theorem dX1_brightAt_1 : decode cX1_brightAt 1 = .ok (.invokevirtual 30, 3) := by decide +kernel
theorem dX1_brightAt_4 : decode cX1_brightAt 4 = .ok (.ifCond .eq 15, 3) := by decide +kernel
theorem dX1_brightAt_7 : decode cX1_brightAt 7 = .ok (.iload_n 1, 1) := by decide +kernel
theorem dX1_brightAt_8 : decode cX1_brightAt 8 = .ok (.aload_n 0, 1) := by decide +kernel
theorem dX1_brightAt_9 : decode cX1_brightAt 9 = .ok (.invokevirtual 34, 3) := by decide +kernel
theorem dX1_brightAt_12 : decode cX1_brightAt 12 = .ok (.imul, 1) := by decide +kernel
theorem dX1_brightAt_13 : decode cX1_brightAt 13 = .ok (.bipush 100, 2) := by decide +kernel
theorem dX1_brightAt_15 : decode cX1_brightAt 15 = .ok (.idiv, 1) := by decide +kernel
theorem dX1_brightAt_16 : decode cX1_brightAt 16 = .ok (.goto 4, 3) := by decide +kernel
theorem dX1_brightAt_19 : decode cX1_brightAt 19 = .ok (.iconst 0, 1) := by decide +kernel
theorem dX1_brightAt_20 : decode cX1_brightAt 20 = .ok (.ireturn, 1) := by decide +kernel
theorem dX1_likely_0 : decode cX1_likely 0 = .ok (.aload_n 0, 1) := by decide +kernel
theorem dX1_likely_1 : decode cX1_likely 1 = .ok (.invokevirtual 38, 3) := by decide +kernel
theorem dX1_likely_4 : decode cX1_likely 4 = .ok (.ifCond .eq 5, 3) := by decide +kernel
theorem dX1_likely_7 : decode cX1_likely 7 = .ok (.iconst 1, 1) := by decide +kernel
theorem dX1_likely_8 : decode cX1_likely 8 = .ok (.ireturn, 1) := by decide +kernel
theorem dX1_likely_9 : decode cX1_likely 9 = .ok (.aload_n 0, 1) := by decide +kernel
theorem dX1_likely_10 : decode cX1_likely 10 = .ok (.getfield 24, 3) := by decide +kernel
theorem dX1_likely_13 : decode cX1_likely 13 = .ok (.bipush 10, 2) := by decide +kernel
theorem dX1_likely_15 : decode cX1_likely 15 = .ok (.idiv, 1) := by decide +kernel
theorem dX1_likely_16 : decode cX1_likely 16 = .ok (.iconst 1, 1) := by decide +kernel
theorem dX1_likely_17 : decode cX1_likely 17 = .ok (.iadd, 1) := by decide +kernel
theorem dX1_likely_18 : decode cX1_likely 18 = .ok (.istore_n 1, 1) := by decide +kernel
theorem dX1_likely_19 : decode cX1_likely 19 = .ok (.aload_n 0, 1) := by decide +kernel
theorem dX1_likely_20 : decode cX1_likely 20 = .ok (.invokevirtual 41, 3) := by decide +kernel
theorem dX1_likely_23 : decode cX1_likely 23 = .ok (.ifCond .eq 9, 3) := by decide +kernel
theorem dX1_likely_26 : decode cX1_likely 26 = .ok (.iload_n 1, 1) := by decide +kernel
theorem dX1_likely_27 : decode cX1_likely 27 = .ok (.iconst 3, 1) := by decide +kernel
theorem dX1_likely_28 : decode cX1_likely 28 = .ok (.iadd, 1) := by decide +kernel
theorem dX1_likely_29 : decode cX1_likely 29 = .ok (.goto 4, 3) := by decide +kernel
theorem dX1_likely_32 : decode cX1_likely 32 = .ok (.iload_n 1, 1) := by decide +kernel
theorem dX1_likely_33 : decode cX1_likely 33 = .ok (.ireturn, 1) := by decide +kernel
theorem dX1_burn_0 : decode cX1_burn 0 = .ok (.aload_n 0, 1) := by decide +kernel
theorem dX1_burn_1 : decode cX1_burn 1 = .ok (.sipush 9999, 3) := by decide +kernel
theorem dX1_burn_4 : decode cX1_burn 4 = .ok (.aload_n 0, 1) := by decide +kernel
theorem dX1_burn_5 : decode cX1_burn 5 = .ok (.getfield 24, 3) := by decide +kernel
theorem dX1_burn_8 : decode cX1_burn 8 = .ok (.aload_n 0, 1) := by decide +kernel
theorem dX1_burn_9 : decode cX1_burn 9 = .ok (.iload_n 1, 1) := by decide +kernel
theorem dX1_burn_10 : decode cX1_burn 10 = .ok (.invokevirtual 44, 3) := by decide +kernel
theorem dX1_burn_13 : decode cX1_burn 13 = .ok (.bipush 10, 2) := by decide +kernel
theorem dX1_burn_15 : decode cX1_burn 15 = .ok (.idiv, 1) := by decide +kernel
theorem dX1_burn_16 : decode cX1_burn 16 = .ok (.iadd, 1) := by decide +kernel
theorem dX1_burn_17 : decode cX1_burn 17 = .ok (.invokestatic 48, 3) := by decide +kernel
theorem dX1_burn_20 : decode cX1_burn 20 = .ok (.putfield 24, 3) := by decide +kernel
theorem dX1_burn_23 : decode cX1_burn 23 = .ok (.aload_n 0, 1) := by decide +kernel
theorem dX1_burn_24 : decode cX1_burn 24 = .ok (.iload_n 1, 1) := by decide +kernel
theorem dX1_burn_25 : decode cX1_burn 25 = .ok (.invokevirtual 54, 3) := by decide +kernel
theorem dX1_burn_28 : decode cX1_burn 28 = .ok (.ifCond .eq 11, 3) := by decide +kernel
theorem dX1_burn_31 : decode cX1_burn 31 = .ok (.aload_n 0, 1) := by decide +kernel
theorem dX1_burn_32 : decode cX1_burn 32 = .ok (.aload_n 0, 1) := by decide +kernel
theorem dX1_burn_33 : decode cX1_burn 33 = .ok (.invokevirtual 58, 3) := by decide +kernel
theorem dX1_burn_36 : decode cX1_burn 36 = .ok (.putfield 27, 3) := by decide +kernel
theorem dX1_burn_39 : decode cX1_burn 39 = .ok (.return_, 1) := by decide +kernel
theorem dX1_mustDie_0 : decode cX1_mustDie 0 = .ok (.aload_n 0, 1) := by decide +kernel
theorem dX1_mustDie_1 : decode cX1_mustDie 1 = .ok (.getfield 9, 3) := by decide +kernel
theorem dX1_mustDie_4 : decode cX1_mustDie 4 = .ok (.lookupswitch 64 #[(4, 28), (5, 44)], 28) := by decide +kernel
theorem dX1_mustDie_32 : decode cX1_mustDie 32 = .ok (.iload_n 1, 1) := by decide +kernel
theorem dX1_mustDie_33 : decode cX1_mustDie 33 = .ok (.iconst 5, 1) := by decide +kernel
theorem dX1_mustDie_34 : decode cX1_mustDie 34 = .ok (.aload_n 0, 1) := by decide +kernel
theorem dX1_mustDie_35 : decode cX1_mustDie 35 = .ok (.getfield 15, 3) := by decide +kernel
theorem dX1_mustDie_38 : decode cX1_mustDie 38 = .ok (.imul, 1) := by decide +kernel
theorem dX1_mustDie_39 : decode cX1_mustDie 39 = .ok (.if_icmp .le 7, 3) := by decide +kernel
theorem dX1_mustDie_42 : decode cX1_mustDie 42 = .ok (.iconst 1, 1) := by decide +kernel
theorem dX1_mustDie_43 : decode cX1_mustDie 43 = .ok (.goto 4, 3) := by decide +kernel
theorem dX1_mustDie_46 : decode cX1_mustDie 46 = .ok (.iconst 0, 1) := by decide +kernel
theorem dX1_mustDie_47 : decode cX1_mustDie 47 = .ok (.ireturn, 1) := by decide +kernel
theorem dX1_mustDie_48 : decode cX1_mustDie 48 = .ok (.aload_n 0, 1) := by decide +kernel
theorem dX1_mustDie_49 : decode cX1_mustDie 49 = .ok (.getfield 24, 3) := by decide +kernel
theorem dX1_mustDie_52 : decode cX1_mustDie 52 = .ok (.bipush 20, 2) := by decide +kernel
theorem dX1_mustDie_54 : decode cX1_mustDie 54 = .ok (.aload_n 0, 1) := by decide +kernel
theorem dX1_mustDie_55 : decode cX1_mustDie 55 = .ok (.getfield 15, 3) := by decide +kernel
theorem dX1_mustDie_58 : decode cX1_mustDie 58 = .ok (.imul, 1) := by decide +kernel
theorem dX1_mustDie_59 : decode cX1_mustDie 59 = .ok (.if_icmp .lt 7, 3) := by decide +kernel
theorem dX1_mustDie_62 : decode cX1_mustDie 62 = .ok (.iconst 1, 1) := by decide +kernel
theorem dX1_mustDie_63 : decode cX1_mustDie 63 = .ok (.goto 4, 3) := by decide +kernel
theorem dX1_mustDie_66 : decode cX1_mustDie 66 = .ok (.iconst 0, 1) := by decide +kernel
theorem dX1_mustDie_67 : decode cX1_mustDie 67 = .ok (.ireturn, 1) := by decide +kernel
theorem dX1_mustDie_68 : decode cX1_mustDie 68 = .ok (.aload_n 0, 1) := by decide +kernel
theorem dX1_mustDie_69 : decode cX1_mustDie 69 = .ok (.getfield 24, 3) := by decide +kernel
theorem dX1_mustDie_72 : decode cX1_mustDie 72 = .ok (.bipush 10, 2) := by decide +kernel
theorem dX1_mustDie_74 : decode cX1_mustDie 74 = .ok (.aload_n 0, 1) := by decide +kernel
theorem dX1_mustDie_75 : decode cX1_mustDie 75 = .ok (.getfield 15, 3) := by decide +kernel
theorem dX1_mustDie_78 : decode cX1_mustDie 78 = .ok (.imul, 1) := by decide +kernel
theorem dX1_mustDie_79 : decode cX1_mustDie 79 = .ok (.if_icmp .lt 7, 3) := by decide +kernel
theorem dX1_mustDie_82 : decode cX1_mustDie 82 = .ok (.iconst 1, 1) := by decide +kernel
theorem dX1_mustDie_83 : decode cX1_mustDie 83 = .ok (.goto 4, 3) := by decide +kernel
theorem dX1_mustDie_86 : decode cX1_mustDie 86 = .ok (.iconst 0, 1) := by decide +kernel
theorem dX1_mustDie_87 : decode cX1_mustDie 87 = .ok (.ireturn, 1) := by decide +kernel
theorem dX1_whenDead_0 : decode cX1_whenDead 0 = .ok (.aload_n 0, 1) := by decide +kernel
theorem dX1_whenDead_1 : decode cX1_whenDead 1 = .ok (.invokevirtual 38, 3) := by decide +kernel
theorem dX1_whenDead_4 : decode cX1_whenDead 4 = .ok (.ifCond .eq 5, 3) := by decide +kernel
theorem dX1_whenDead_7 : decode cX1_whenDead 7 = .ok (.iconst 2, 1) := by decide +kernel
theorem dX1_whenDead_8 : decode cX1_whenDead 8 = .ok (.ireturn, 1) := by decide +kernel
theorem dX1_whenDead_9 : decode cX1_whenDead 9 = .ok (.aload_n 0, 1) := by decide +kernel
theorem dX1_whenDead_10 : decode cX1_whenDead 10 = .ok (.getfield 9, 3) := by decide +kernel
theorem dX1_whenDead_13 : decode cX1_whenDead 13 = .ok (.iconst 3, 1) := by decide +kernel
theorem dX1_whenDead_14 : decode cX1_whenDead 14 = .ok (.if_icmp .ne 7, 3) := by decide +kernel
theorem dX1_whenDead_17 : decode cX1_whenDead 17 = .ok (.iconst 3, 1) := by decide +kernel
theorem dX1_whenDead_18 : decode cX1_whenDead 18 = .ok (.goto 4, 3) := by decide +kernel
theorem dX1_whenDead_21 : decode cX1_whenDead 21 = .ok (.iconst 1, 1) := by decide +kernel
theorem dX1_whenDead_22 : decode cX1_whenDead 22 = .ok (.ireturn, 1) := by decide +kernel
theorem dX1_worksLoose_0 : decode cX1_worksLoose 0 = .ok (.aload_n 0, 1) := by decide +kernel
theorem dX1_worksLoose_1 : decode cX1_worksLoose 1 = .ok (.getfield 9, 3) := by decide +kernel
theorem dX1_worksLoose_4 : decode cX1_worksLoose 4 = .ok (.lookupswitch 57 #[(2, 28), (3, 42)], 28) := by decide +kernel
theorem dX1_worksLoose_32 : decode cX1_worksLoose 32 = .ok (.iload_n 1, 1) := by decide +kernel
theorem dX1_worksLoose_33 : decode cX1_worksLoose 33 = .ok (.bipush 10, 2) := by decide +kernel
theorem dX1_worksLoose_35 : decode cX1_worksLoose 35 = .ok (.irem, 1) := by decide +kernel
theorem dX1_worksLoose_36 : decode cX1_worksLoose 36 = .ok (.iload_n 2, 1) := by decide +kernel
theorem dX1_worksLoose_37 : decode cX1_worksLoose 37 = .ok (.if_icmp .ne 7, 3) := by decide +kernel
theorem dX1_worksLoose_40 : decode cX1_worksLoose 40 = .ok (.iconst 1, 1) := by decide +kernel
theorem dX1_worksLoose_41 : decode cX1_worksLoose 41 = .ok (.goto 4, 3) := by decide +kernel
theorem dX1_worksLoose_44 : decode cX1_worksLoose 44 = .ok (.iconst 0, 1) := by decide +kernel
theorem dX1_worksLoose_45 : decode cX1_worksLoose 45 = .ok (.ireturn, 1) := by decide +kernel
theorem dX1_worksLoose_46 : decode cX1_worksLoose 46 = .ok (.iload_n 1, 1) := by decide +kernel
theorem dX1_worksLoose_47 : decode cX1_worksLoose 47 = .ok (.iconst 5, 1) := by decide +kernel
theorem dX1_worksLoose_48 : decode cX1_worksLoose 48 = .ok (.irem, 1) := by decide +kernel
theorem dX1_worksLoose_49 : decode cX1_worksLoose 49 = .ok (.iload_n 2, 1) := by decide +kernel
theorem dX1_worksLoose_50 : decode cX1_worksLoose 50 = .ok (.iconst 5, 1) := by decide +kernel
theorem dX1_worksLoose_51 : decode cX1_worksLoose 51 = .ok (.irem, 1) := by decide +kernel
theorem dX1_worksLoose_52 : decode cX1_worksLoose 52 = .ok (.if_icmp .ne 7, 3) := by decide +kernel
theorem dX1_worksLoose_55 : decode cX1_worksLoose 55 = .ok (.iconst 1, 1) := by decide +kernel
theorem dX1_worksLoose_56 : decode cX1_worksLoose 56 = .ok (.goto 4, 3) := by decide +kernel
theorem dX1_worksLoose_59 : decode cX1_worksLoose 59 = .ok (.iconst 0, 1) := by decide +kernel
theorem dX1_worksLoose_60 : decode cX1_worksLoose 60 = .ok (.ireturn, 1) := by decide +kernel
theorem dX1_worksLoose_61 : decode cX1_worksLoose 61 = .ok (.iconst 0, 1) := by decide +kernel
theorem dX1_worksLoose_62 : decode cX1_worksLoose 62 = .ok (.ireturn, 1) := by decide +kernel
theorem dX1_touchWith_0 : decode cX1_touchWith 0 = .ok (.aload_n 0, 1) := by decide +kernel
theorem dX1_touchWith_1 : decode cX1_touchWith 1 = .ok (.getfield 27, 3) := by decide +kernel
theorem dX1_touchWith_4 : decode cX1_touchWith 4 = .ok (.iconst 3, 1) := by decide +kernel
theorem dX1_touchWith_5 : decode cX1_touchWith 5 = .ok (.if_icmp .ne 11, 3) := by decide +kernel
theorem dX1_touchWith_8 : decode cX1_touchWith 8 = .ok (.aload_n 0, 1) := by decide +kernel
theorem dX1_touchWith_9 : decode cX1_touchWith 9 = .ok (.iconst 0, 1) := by decide +kernel
theorem dX1_touchWith_10 : decode cX1_touchWith 10 = .ok (.putfield 27, 3) := by decide +kernel
theorem dX1_touchWith_13 : decode cX1_touchWith 13 = .ok (.goto 27, 3) := by decide +kernel
theorem dX1_touchWith_16 : decode cX1_touchWith 16 = .ok (.aload_n 0, 1) := by decide +kernel
theorem dX1_touchWith_17 : decode cX1_touchWith 17 = .ok (.invokevirtual 30, 3) := by decide +kernel
theorem dX1_touchWith_20 : decode cX1_touchWith 20 = .ok (.ifCond .eq 20, 3) := by decide +kernel
theorem dX1_touchWith_23 : decode cX1_touchWith 23 = .ok (.aload_n 0, 1) := by decide +kernel
theorem dX1_touchWith_24 : decode cX1_touchWith 24 = .ok (.invokevirtual 41, 3) := by decide +kernel
theorem dX1_touchWith_27 : decode cX1_touchWith 27 = .ok (.ifCond .eq 13, 3) := by decide +kernel
theorem dX1_touchWith_30 : decode cX1_touchWith 30 = .ok (.iload_n 1, 1) := by decide +kernel
theorem dX1_touchWith_31 : decode cX1_touchWith 31 = .ok (.iconst 3, 1) := by decide +kernel
theorem dX1_touchWith_32 : decode cX1_touchWith 32 = .ok (.if_icmp .gt 8, 3) := by decide +kernel
theorem dX1_touchWith_35 : decode cX1_touchWith 35 = .ok (.aload_n 0, 1) := by decide +kernel
theorem dX1_touchWith_36 : decode cX1_touchWith 36 = .ok (.iconst 3, 1) := by decide +kernel
theorem dX1_touchWith_37 : decode cX1_touchWith 37 = .ok (.putfield 27, 3) := by decide +kernel
theorem dX1_touchWith_40 : decode cX1_touchWith 40 = .ok (.return_, 1) := by decide +kernel
theorem dX2_init_0 : decode cX2_init 0 = .ok (.aload_n 0, 1) := by decide +kernel
theorem dX2_init_1 : decode cX2_init 1 = .ok (.invokespecial 3, 3) := by decide +kernel
theorem dX2_init_4 : decode cX2_init 4 = .ok (.aload_n 0, 1) := by decide +kernel
theorem dX2_init_5 : decode cX2_init 5 = .ok (.bipush 64, 2) := by decide +kernel
theorem dX2_init_7 : decode cX2_init 7 = .ok (.newarray .char, 2) := by decide +kernel
theorem dX2_init_9 : decode cX2_init 9 = .ok (.putfield 9, 3) := by decide +kernel
theorem dX2_init_12 : decode cX2_init 12 = .ok (.return_, 1) := by decide +kernel
theorem dX2_add_0 : decode cX2_add 0 = .ok (.aload_n 0, 1) := by decide +kernel
theorem dX2_add_1 : decode cX2_add 1 = .ok (.getfield 15, 3) := by decide +kernel
theorem dX2_add_4 : decode cX2_add 4 = .ok (.bipush 64, 2) := by decide +kernel
theorem dX2_add_6 : decode cX2_add 6 = .ok (.if_icmp .ge 24, 3) := by decide +kernel
theorem dX2_add_9 : decode cX2_add 9 = .ok (.aload_n 0, 1) := by decide +kernel
theorem dX2_add_10 : decode cX2_add 10 = .ok (.getfield 9, 3) := by decide +kernel
theorem dX2_add_13 : decode cX2_add 13 = .ok (.aload_n 0, 1) := by decide +kernel
theorem dX2_add_14 : decode cX2_add 14 = .ok (.getfield 15, 3) := by decide +kernel
theorem dX2_add_17 : decode cX2_add 17 = .ok (.iload_n 1, 1) := by decide +kernel
theorem dX2_add_18 : decode cX2_add 18 = .ok (.i2c, 1) := by decide +kernel
theorem dX2_add_19 : decode cX2_add 19 = .ok (.castore, 1) := by decide +kernel
theorem dX2_add_20 : decode cX2_add 20 = .ok (.aload_n 0, 1) := by decide +kernel
theorem dX2_add_21 : decode cX2_add 21 = .ok (.dup, 1) := by decide +kernel
theorem dX2_add_22 : decode cX2_add 22 = .ok (.getfield 15, 3) := by decide +kernel
theorem dX2_add_25 : decode cX2_add 25 = .ok (.iconst 1, 1) := by decide +kernel
theorem dX2_add_26 : decode cX2_add 26 = .ok (.iadd, 1) := by decide +kernel
theorem dX2_add_27 : decode cX2_add 27 = .ok (.putfield 15, 3) := by decide +kernel
theorem dX2_add_30 : decode cX2_add 30 = .ok (.return_, 1) := by decide +kernel
theorem dX2_signAt_0 : decode cX2_signAt 0 = .ok (.iload_n 1, 1) := by decide +kernel
theorem dX2_signAt_1 : decode cX2_signAt 1 = .ok (.ifCond .lt 20, 3) := by decide +kernel
theorem dX2_signAt_4 : decode cX2_signAt 4 = .ok (.iload_n 1, 1) := by decide +kernel
theorem dX2_signAt_5 : decode cX2_signAt 5 = .ok (.aload_n 0, 1) := by decide +kernel
theorem dX2_signAt_6 : decode cX2_signAt 6 = .ok (.getfield 15, 3) := by decide +kernel
theorem dX2_signAt_9 : decode cX2_signAt 9 = .ok (.if_icmp .ge 12, 3) := by decide +kernel
theorem dX2_signAt_12 : decode cX2_signAt 12 = .ok (.aload_n 0, 1) := by decide +kernel
theorem dX2_signAt_13 : decode cX2_signAt 13 = .ok (.getfield 9, 3) := by decide +kernel
theorem dX2_signAt_16 : decode cX2_signAt 16 = .ok (.iload_n 1, 1) := by decide +kernel
theorem dX2_signAt_17 : decode cX2_signAt 17 = .ok (.caload, 1) := by decide +kernel
theorem dX2_signAt_18 : decode cX2_signAt 18 = .ok (.goto 4, 3) := by decide +kernel
theorem dX2_signAt_21 : decode cX2_signAt 21 = .ok (.iconst (-1), 1) := by decide +kernel
theorem dX2_signAt_22 : decode cX2_signAt 22 = .ok (.ireturn, 1) := by decide +kernel
theorem dX3_init_0 : decode cX3_init 0 = .ok (.aload_n 0, 1) := by decide +kernel
theorem dX3_init_1 : decode cX3_init 1 = .ok (.invokespecial 3, 3) := by decide +kernel
theorem dX3_init_4 : decode cX3_init 4 = .ok (.aload_n 0, 1) := by decide +kernel
theorem dX3_init_5 : decode cX3_init 5 = .ok (.bipush 6, 2) := by decide +kernel
theorem dX3_init_7 : decode cX3_init 7 = .ok (.newarray .int, 2) := by decide +kernel
theorem dX3_init_9 : decode cX3_init 9 = .ok (.putfield 9, 3) := by decide +kernel
theorem dX3_init_12 : decode cX3_init 12 = .ok (.aload_n 0, 1) := by decide +kernel
theorem dX3_init_13 : decode cX3_init 13 = .ok (.bipush 6, 2) := by decide +kernel
theorem dX3_init_15 : decode cX3_init 15 = .ok (.newarray .int, 2) := by decide +kernel
theorem dX3_init_17 : decode cX3_init 17 = .ok (.putfield 15, 3) := by decide +kernel
theorem dX3_init_20 : decode cX3_init 20 = .ok (.return_, 1) := by decide +kernel
theorem dX3_add_0 : decode cX3_add 0 = .ok (.aload_n 0, 1) := by decide +kernel
theorem dX3_add_1 : decode cX3_add 1 = .ok (.getfield 18, 3) := by decide +kernel
theorem dX3_add_4 : decode cX3_add 4 = .ok (.bipush 6, 2) := by decide +kernel
theorem dX3_add_6 : decode cX3_add 6 = .ok (.if_icmp .ge 33, 3) := by decide +kernel
theorem dX3_add_9 : decode cX3_add 9 = .ok (.aload_n 0, 1) := by decide +kernel
theorem dX3_add_10 : decode cX3_add 10 = .ok (.getfield 9, 3) := by decide +kernel
theorem dX3_add_13 : decode cX3_add 13 = .ok (.aload_n 0, 1) := by decide +kernel
theorem dX3_add_14 : decode cX3_add 14 = .ok (.getfield 18, 3) := by decide +kernel
theorem dX3_add_17 : decode cX3_add 17 = .ok (.iload_n 1, 1) := by decide +kernel
theorem dX3_add_18 : decode cX3_add 18 = .ok (.iastore, 1) := by decide +kernel
theorem dX3_add_19 : decode cX3_add 19 = .ok (.aload_n 0, 1) := by decide +kernel
theorem dX3_add_20 : decode cX3_add 20 = .ok (.getfield 15, 3) := by decide +kernel
theorem dX3_add_23 : decode cX3_add 23 = .ok (.aload_n 0, 1) := by decide +kernel
theorem dX3_add_24 : decode cX3_add 24 = .ok (.getfield 18, 3) := by decide +kernel
theorem dX3_add_27 : decode cX3_add 27 = .ok (.iload_n 2, 1) := by decide +kernel
theorem dX3_add_28 : decode cX3_add 28 = .ok (.iastore, 1) := by decide +kernel
theorem dX3_add_29 : decode cX3_add 29 = .ok (.aload_n 0, 1) := by decide +kernel
theorem dX3_add_30 : decode cX3_add 30 = .ok (.dup, 1) := by decide +kernel
theorem dX3_add_31 : decode cX3_add 31 = .ok (.getfield 18, 3) := by decide +kernel
theorem dX3_add_34 : decode cX3_add 34 = .ok (.iconst 1, 1) := by decide +kernel
theorem dX3_add_35 : decode cX3_add 35 = .ok (.iadd, 1) := by decide +kernel
theorem dX3_add_36 : decode cX3_add 36 = .ok (.putfield 18, 3) := by decide +kernel
theorem dX3_add_39 : decode cX3_add 39 = .ok (.return_, 1) := by decide +kernel
theorem dX3_leftAfter_0 : decode cX3_leftAfter 0 = .ok (.iconst 1, 1) := by decide +kernel
theorem dX3_leftAfter_1 : decode cX3_leftAfter 1 = .ok (.iload_n 2, 1) := by decide +kernel
theorem dX3_leftAfter_2 : decode cX3_leftAfter 2 = .ok (.ishl, 1) := by decide +kernel
theorem dX3_leftAfter_3 : decode cX3_leftAfter 3 = .ok (.iconst 1, 1) := by decide +kernel
theorem dX3_leftAfter_4 : decode cX3_leftAfter 4 = .ok (.isub, 1) := by decide +kernel
theorem dX3_leftAfter_5 : decode cX3_leftAfter 5 = .ok (.istore_n 3, 1) := by decide +kernel
theorem dX3_leftAfter_6 : decode cX3_leftAfter 6 = .ok (.iconst 0, 1) := by decide +kernel
theorem dX3_leftAfter_7 : decode cX3_leftAfter 7 = .ok (.istore 4, 2) := by decide +kernel
theorem dX3_leftAfter_9 : decode cX3_leftAfter 9 = .ok (.iload 4, 2) := by decide +kernel
theorem dX3_leftAfter_11 : decode cX3_leftAfter 11 = .ok (.iload_n 1, 1) := by decide +kernel
theorem dX3_leftAfter_12 : decode cX3_leftAfter 12 = .ok (.if_icmp .ge 54, 3) := by decide +kernel
theorem dX3_leftAfter_15 : decode cX3_leftAfter 15 = .ok (.iload 4, 2) := by decide +kernel
theorem dX3_leftAfter_17 : decode cX3_leftAfter 17 = .ok (.aload_n 0, 1) := by decide +kernel
theorem dX3_leftAfter_18 : decode cX3_leftAfter 18 = .ok (.getfield 18, 3) := by decide +kernel
theorem dX3_leftAfter_21 : decode cX3_leftAfter 21 = .ok (.if_icmp .ge 45, 3) := by decide +kernel
theorem dX3_leftAfter_24 : decode cX3_leftAfter 24 = .ok (.iconst 1, 1) := by decide +kernel
theorem dX3_leftAfter_25 : decode cX3_leftAfter 25 = .ok (.aload_n 0, 1) := by decide +kernel
theorem dX3_leftAfter_26 : decode cX3_leftAfter 26 = .ok (.getfield 9, 3) := by decide +kernel
theorem dX3_leftAfter_29 : decode cX3_leftAfter 29 = .ok (.iload 4, 2) := by decide +kernel
theorem dX3_leftAfter_31 : decode cX3_leftAfter 31 = .ok (.iaload, 1) := by decide +kernel
theorem dX3_leftAfter_32 : decode cX3_leftAfter 32 = .ok (.ishl, 1) := by decide +kernel
theorem dX3_leftAfter_33 : decode cX3_leftAfter 33 = .ok (.iconst 1, 1) := by decide +kernel
theorem dX3_leftAfter_34 : decode cX3_leftAfter 34 = .ok (.isub, 1) := by decide +kernel
theorem dX3_leftAfter_35 : decode cX3_leftAfter 35 = .ok (.istore 5, 2) := by decide +kernel
theorem dX3_leftAfter_37 : decode cX3_leftAfter 37 = .ok (.iload_n 3, 1) := by decide +kernel
theorem dX3_leftAfter_38 : decode cX3_leftAfter 38 = .ok (.aload_n 0, 1) := by decide +kernel
theorem dX3_leftAfter_39 : decode cX3_leftAfter 39 = .ok (.getfield 15, 3) := by decide +kernel
theorem dX3_leftAfter_42 : decode cX3_leftAfter 42 = .ok (.iload 4, 2) := by decide +kernel
theorem dX3_leftAfter_44 : decode cX3_leftAfter 44 = .ok (.iaload, 1) := by decide +kernel
theorem dX3_leftAfter_45 : decode cX3_leftAfter 45 = .ok (.iconst 1, 1) := by decide +kernel
theorem dX3_leftAfter_46 : decode cX3_leftAfter 46 = .ok (.if_icmp .ne 10, 3) := by decide +kernel
theorem dX3_leftAfter_49 : decode cX3_leftAfter 49 = .ok (.iload 5, 2) := by decide +kernel
theorem dX3_leftAfter_51 : decode cX3_leftAfter 51 = .ok (.iconst (-1), 1) := by decide +kernel
theorem dX3_leftAfter_52 : decode cX3_leftAfter 52 = .ok (.ixor, 1) := by decide +kernel
theorem dX3_leftAfter_53 : decode cX3_leftAfter 53 = .ok (.goto 5, 3) := by decide +kernel
theorem dX3_leftAfter_56 : decode cX3_leftAfter 56 = .ok (.iload 5, 2) := by decide +kernel
theorem dX3_leftAfter_58 : decode cX3_leftAfter 58 = .ok (.iand, 1) := by decide +kernel
theorem dX3_leftAfter_59 : decode cX3_leftAfter 59 = .ok (.istore_n 3, 1) := by decide +kernel
theorem dX3_leftAfter_60 : decode cX3_leftAfter 60 = .ok (.iinc 4 1, 3) := by decide +kernel
theorem dX3_leftAfter_63 : decode cX3_leftAfter 63 = .ok (.goto (-54), 3) := by decide +kernel
theorem dX3_leftAfter_66 : decode cX3_leftAfter 66 = .ok (.iload_n 3, 1) := by decide +kernel
theorem dX3_leftAfter_67 : decode cX3_leftAfter 67 = .ok (.ireturn, 1) := by decide +kernel
theorem dX3_firstThatLeavesNone_0 : decode cX3_firstThatLeavesNone 0 = .ok (.iconst 0, 1) := by decide +kernel
theorem dX3_firstThatLeavesNone_1 : decode cX3_firstThatLeavesNone 1 = .ok (.istore_n 2, 1) := by decide +kernel
theorem dX3_firstThatLeavesNone_2 : decode cX3_firstThatLeavesNone 2 = .ok (.iload_n 2, 1) := by decide +kernel
theorem dX3_firstThatLeavesNone_3 : decode cX3_firstThatLeavesNone 3 = .ok (.aload_n 0, 1) := by decide +kernel
theorem dX3_firstThatLeavesNone_4 : decode cX3_firstThatLeavesNone 4 = .ok (.getfield 18, 3) := by decide +kernel
theorem dX3_firstThatLeavesNone_7 : decode cX3_firstThatLeavesNone 7 = .ok (.if_icmp .ge 22, 3) := by decide +kernel
theorem dX3_firstThatLeavesNone_10 : decode cX3_firstThatLeavesNone 10 = .ok (.aload_n 0, 1) := by decide +kernel
theorem dX3_firstThatLeavesNone_11 : decode cX3_firstThatLeavesNone 11 = .ok (.iload_n 2, 1) := by decide +kernel
theorem dX3_firstThatLeavesNone_12 : decode cX3_firstThatLeavesNone 12 = .ok (.iconst 1, 1) := by decide +kernel
theorem dX3_firstThatLeavesNone_13 : decode cX3_firstThatLeavesNone 13 = .ok (.iadd, 1) := by decide +kernel
theorem dX3_firstThatLeavesNone_14 : decode cX3_firstThatLeavesNone 14 = .ok (.iload_n 1, 1) := by decide +kernel
theorem dX3_firstThatLeavesNone_15 : decode cX3_firstThatLeavesNone 15 = .ok (.invokevirtual 22, 3) := by decide +kernel
theorem dX3_firstThatLeavesNone_18 : decode cX3_firstThatLeavesNone 18 = .ok (.ifCond .ne 5, 3) := by decide +kernel
theorem dX3_firstThatLeavesNone_21 : decode cX3_firstThatLeavesNone 21 = .ok (.iload_n 2, 1) := by decide +kernel
theorem dX3_firstThatLeavesNone_22 : decode cX3_firstThatLeavesNone 22 = .ok (.ireturn, 1) := by decide +kernel
theorem dX3_firstThatLeavesNone_23 : decode cX3_firstThatLeavesNone 23 = .ok (.iinc 2 1, 3) := by decide +kernel
theorem dX3_firstThatLeavesNone_26 : decode cX3_firstThatLeavesNone 26 = .ok (.goto (-24), 3) := by decide +kernel
theorem dX3_firstThatLeavesNone_29 : decode cX3_firstThatLeavesNone 29 = .ok (.bipush (-9), 2) := by decide +kernel
theorem dX3_firstThatLeavesNone_31 : decode cX3_firstThatLeavesNone 31 = .ok (.ireturn, 1) := by decide +kernel
theorem dX4_init_0 : decode cX4_init 0 = .ok (.aload_n 0, 1) := by decide +kernel
theorem dX4_init_1 : decode cX4_init 1 = .ok (.invokespecial 3, 3) := by decide +kernel
theorem dX4_init_4 : decode cX4_init 4 = .ok (.aload_n 0, 1) := by decide +kernel
theorem dX4_init_5 : decode cX4_init 5 = .ok (.new 9, 3) := by decide +kernel
theorem dX4_init_8 : decode cX4_init 8 = .ok (.dup, 1) := by decide +kernel
theorem dX4_init_9 : decode cX4_init 9 = .ok (.invokespecial 11, 3) := by decide +kernel
theorem dX4_init_12 : decode cX4_init 12 = .ok (.putfield 12, 3) := by decide +kernel
theorem dX4_init_15 : decode cX4_init 15 = .ok (.return_, 1) := by decide +kernel
theorem dX4_startFrom_0 : decode cX4_startFrom 0 = .ok (.aload_n 0, 1) := by decide +kernel
theorem dX4_startFrom_1 : decode cX4_startFrom 1 = .ok (.getfield 12, 3) := by decide +kernel
theorem dX4_startFrom_4 : decode cX4_startFrom 4 = .ok (.aload_n 1, 1) := by decide +kernel
theorem dX4_startFrom_5 : decode cX4_startFrom 5 = .ok (.invokevirtual 18, 3) := by decide +kernel
theorem dX4_startFrom_8 : decode cX4_startFrom 8 = .ok (.aload_n 0, 1) := by decide +kernel
theorem dX4_startFrom_9 : decode cX4_startFrom 9 = .ok (.getfield 12, 3) := by decide +kernel
theorem dX4_startFrom_12 : decode cX4_startFrom 12 = .ok (.areturn, 1) := by decide +kernel
theorem dX4_hoursTillDark_0 : decode cX4_hoursTillDark 0 = .ok (.aload_n 0, 1) := by decide +kernel
theorem dX4_hoursTillDark_1 : decode cX4_hoursTillDark 1 = .ok (.aload_n 1, 1) := by decide +kernel
theorem dX4_hoursTillDark_2 : decode cX4_hoursTillDark 2 = .ok (.invokevirtual 22, 3) := by decide +kernel
theorem dX4_hoursTillDark_5 : decode cX4_hoursTillDark 5 = .ok (.pop, 1) := by decide +kernel
theorem dX4_hoursTillDark_6 : decode cX4_hoursTillDark 6 = .ok (.iconst 0, 1) := by decide +kernel
theorem dX4_hoursTillDark_7 : decode cX4_hoursTillDark 7 = .ok (.istore_n 2, 1) := by decide +kernel
theorem dX4_hoursTillDark_8 : decode cX4_hoursTillDark 8 = .ok (.iload_n 2, 1) := by decide +kernel
theorem dX4_hoursTillDark_9 : decode cX4_hoursTillDark 9 = .ok (.sipush 400, 3) := by decide +kernel
theorem dX4_hoursTillDark_12 : decode cX4_hoursTillDark 12 = .ok (.if_icmp .gt 29, 3) := by decide +kernel
theorem dX4_hoursTillDark_15 : decode cX4_hoursTillDark 15 = .ok (.aload_n 0, 1) := by decide +kernel
theorem dX4_hoursTillDark_16 : decode cX4_hoursTillDark 16 = .ok (.getfield 12, 3) := by decide +kernel
theorem dX4_hoursTillDark_19 : decode cX4_hoursTillDark 19 = .ok (.invokevirtual 26, 3) := by decide +kernel
theorem dX4_hoursTillDark_22 : decode cX4_hoursTillDark 22 = .ok (.ifCond .ne 5, 3) := by decide +kernel
theorem dX4_hoursTillDark_25 : decode cX4_hoursTillDark 25 = .ok (.iload_n 2, 1) := by decide +kernel
theorem dX4_hoursTillDark_26 : decode cX4_hoursTillDark 26 = .ok (.ireturn, 1) := by decide +kernel
theorem dX4_hoursTillDark_27 : decode cX4_hoursTillDark 27 = .ok (.aload_n 0, 1) := by decide +kernel
theorem dX4_hoursTillDark_28 : decode cX4_hoursTillDark 28 = .ok (.getfield 12, 3) := by decide +kernel
theorem dX4_hoursTillDark_31 : decode cX4_hoursTillDark 31 = .ok (.invokevirtual 30, 3) := by decide +kernel
theorem dX4_hoursTillDark_34 : decode cX4_hoursTillDark 34 = .ok (.pop, 1) := by decide +kernel
theorem dX4_hoursTillDark_35 : decode cX4_hoursTillDark 35 = .ok (.iinc 2 1, 3) := by decide +kernel
theorem dX4_hoursTillDark_38 : decode cX4_hoursTillDark 38 = .ok (.goto (-30), 3) := by decide +kernel
theorem dX4_hoursTillDark_41 : decode cX4_hoursTillDark 41 = .ok (.bipush (-9), 2) := by decide +kernel
theorem dX4_hoursTillDark_43 : decode cX4_hoursTillDark 43 = .ok (.ireturn, 1) := by decide +kernel
theorem dX4_firstToGo_0 : decode cX4_firstToGo 0 = .ok (.aload_n 0, 1) := by decide +kernel
theorem dX4_firstToGo_1 : decode cX4_firstToGo 1 = .ok (.aload_n 1, 1) := by decide +kernel
theorem dX4_firstToGo_2 : decode cX4_firstToGo 2 = .ok (.invokevirtual 22, 3) := by decide +kernel
theorem dX4_firstToGo_5 : decode cX4_firstToGo 5 = .ok (.pop, 1) := by decide +kernel
theorem dX4_firstToGo_6 : decode cX4_firstToGo 6 = .ok (.iconst 1, 1) := by decide +kernel
theorem dX4_firstToGo_7 : decode cX4_firstToGo 7 = .ok (.istore_n 3, 1) := by decide +kernel
theorem dX4_firstToGo_8 : decode cX4_firstToGo 8 = .ok (.iload_n 3, 1) := by decide +kernel
theorem dX4_firstToGo_9 : decode cX4_firstToGo 9 = .ok (.sipush 400, 3) := by decide +kernel
theorem dX4_firstToGo_12 : decode cX4_firstToGo 12 = .ok (.if_icmp .gt 40, 3) := by decide +kernel
theorem dX4_firstToGo_15 : decode cX4_firstToGo 15 = .ok (.aload_n 0, 1) := by decide +kernel
theorem dX4_firstToGo_16 : decode cX4_firstToGo 16 = .ok (.getfield 12, 3) := by decide +kernel
theorem dX4_firstToGo_19 : decode cX4_firstToGo 19 = .ok (.invokevirtual 30, 3) := by decide +kernel
theorem dX4_firstToGo_22 : decode cX4_firstToGo 22 = .ok (.pop, 1) := by decide +kernel
theorem dX4_firstToGo_23 : decode cX4_firstToGo 23 = .ok (.aload_n 0, 1) := by decide +kernel
theorem dX4_firstToGo_24 : decode cX4_firstToGo 24 = .ok (.aload_n 1, 1) := by decide +kernel
theorem dX4_firstToGo_25 : decode cX4_firstToGo 25 = .ok (.invokevirtual 34, 3) := by decide +kernel
theorem dX4_firstToGo_28 : decode cX4_firstToGo 28 = .ok (.istore 4, 2) := by decide +kernel
theorem dX4_firstToGo_30 : decode cX4_firstToGo 30 = .ok (.iload 4, 2) := by decide +kernel
theorem dX4_firstToGo_32 : decode cX4_firstToGo 32 = .ok (.ifCond .lt 14, 3) := by decide +kernel
theorem dX4_firstToGo_35 : decode cX4_firstToGo 35 = .ok (.iload_n 2, 1) := by decide +kernel
theorem dX4_firstToGo_36 : decode cX4_firstToGo 36 = .ok (.ifCond .eq 8, 3) := by decide +kernel
theorem dX4_firstToGo_39 : decode cX4_firstToGo 39 = .ok (.iload 4, 2) := by decide +kernel
theorem dX4_firstToGo_41 : decode cX4_firstToGo 41 = .ok (.goto 4, 3) := by decide +kernel
theorem dX4_firstToGo_44 : decode cX4_firstToGo 44 = .ok (.iload_n 3, 1) := by decide +kernel
theorem dX4_firstToGo_45 : decode cX4_firstToGo 45 = .ok (.ireturn, 1) := by decide +kernel
theorem dX4_firstToGo_46 : decode cX4_firstToGo 46 = .ok (.iinc 3 1, 3) := by decide +kernel
theorem dX4_firstToGo_49 : decode cX4_firstToGo 49 = .ok (.goto (-41), 3) := by decide +kernel
theorem dX4_firstToGo_52 : decode cX4_firstToGo 52 = .ok (.bipush (-9), 2) := by decide +kernel
theorem dX4_firstToGo_54 : decode cX4_firstToGo 54 = .ok (.ireturn, 1) := by decide +kernel
theorem dX4_firstGone_0 : decode cX4_firstGone 0 = .ok (.iconst 0, 1) := by decide +kernel
theorem dX4_firstGone_1 : decode cX4_firstGone 1 = .ok (.istore_n 2, 1) := by decide +kernel
theorem dX4_firstGone_2 : decode cX4_firstGone 2 = .ok (.iload_n 2, 1) := by decide +kernel
theorem dX4_firstGone_3 : decode cX4_firstGone 3 = .ok (.aload_n 0, 1) := by decide +kernel
theorem dX4_firstGone_4 : decode cX4_firstGone 4 = .ok (.getfield 12, 3) := by decide +kernel
theorem dX4_firstGone_7 : decode cX4_firstGone 7 = .ok (.getfield 38, 3) := by decide +kernel
theorem dX4_firstGone_10 : decode cX4_firstGone 10 = .ok (.if_icmp .ge 38, 3) := by decide +kernel
theorem dX4_firstGone_13 : decode cX4_firstGone 13 = .ok (.aload_n 1, 1) := by decide +kernel
theorem dX4_firstGone_14 : decode cX4_firstGone 14 = .ok (.getfield 42, 3) := by decide +kernel
theorem dX4_firstGone_17 : decode cX4_firstGone 17 = .ok (.iload_n 2, 1) := by decide +kernel
theorem dX4_firstGone_18 : decode cX4_firstGone 18 = .ok (.aaload, 1) := by decide +kernel
theorem dX4_firstGone_19 : decode cX4_firstGone 19 = .ok (.invokevirtual 46, 3) := by decide +kernel
theorem dX4_firstGone_22 : decode cX4_firstGone 22 = .ok (.ifCond .eq 20, 3) := by decide +kernel
theorem dX4_firstGone_25 : decode cX4_firstGone 25 = .ok (.aload_n 0, 1) := by decide +kernel
theorem dX4_firstGone_26 : decode cX4_firstGone 26 = .ok (.getfield 12, 3) := by decide +kernel
theorem dX4_firstGone_29 : decode cX4_firstGone 29 = .ok (.getfield 42, 3) := by decide +kernel
theorem dX4_firstGone_32 : decode cX4_firstGone 32 = .ok (.iload_n 2, 1) := by decide +kernel
theorem dX4_firstGone_33 : decode cX4_firstGone 33 = .ok (.aaload, 1) := by decide +kernel
theorem dX4_firstGone_34 : decode cX4_firstGone 34 = .ok (.invokevirtual 46, 3) := by decide +kernel
theorem dX4_firstGone_37 : decode cX4_firstGone 37 = .ok (.ifCond .ne 5, 3) := by decide +kernel
theorem dX4_firstGone_40 : decode cX4_firstGone 40 = .ok (.iload_n 2, 1) := by decide +kernel
theorem dX4_firstGone_41 : decode cX4_firstGone 41 = .ok (.ireturn, 1) := by decide +kernel
theorem dX4_firstGone_42 : decode cX4_firstGone 42 = .ok (.iinc 2 1, 3) := by decide +kernel
theorem dX4_firstGone_45 : decode cX4_firstGone 45 = .ok (.goto (-43), 3) := by decide +kernel
theorem dX4_firstGone_48 : decode cX4_firstGone 48 = .ok (.bipush (-9), 2) := by decide +kernel
theorem dX4_firstGone_50 : decode cX4_firstGone 50 = .ok (.ireturn, 1) := by decide +kernel
theorem dX4_hoursTillBridged_0 : decode cX4_hoursTillBridged 0 = .ok (.aload_n 0, 1) := by decide +kernel
theorem dX4_hoursTillBridged_1 : decode cX4_hoursTillBridged 1 = .ok (.aload_n 1, 1) := by decide +kernel
theorem dX4_hoursTillBridged_2 : decode cX4_hoursTillBridged 2 = .ok (.invokevirtual 22, 3) := by decide +kernel
theorem dX4_hoursTillBridged_5 : decode cX4_hoursTillBridged 5 = .ok (.pop, 1) := by decide +kernel
theorem dX4_hoursTillBridged_6 : decode cX4_hoursTillBridged 6 = .ok (.iconst 0, 1) := by decide +kernel
theorem dX4_hoursTillBridged_7 : decode cX4_hoursTillBridged 7 = .ok (.istore_n 3, 1) := by decide +kernel
theorem dX4_hoursTillBridged_8 : decode cX4_hoursTillBridged 8 = .ok (.iload_n 3, 1) := by decide +kernel
theorem dX4_hoursTillBridged_9 : decode cX4_hoursTillBridged 9 = .ok (.sipush 400, 3) := by decide +kernel
theorem dX4_hoursTillBridged_12 : decode cX4_hoursTillBridged 12 = .ok (.if_icmp .gt 31, 3) := by decide +kernel
theorem dX4_hoursTillBridged_15 : decode cX4_hoursTillBridged 15 = .ok (.aload_n 0, 1) := by decide +kernel
theorem dX4_hoursTillBridged_16 : decode cX4_hoursTillBridged 16 = .ok (.getfield 12, 3) := by decide +kernel
theorem dX4_hoursTillBridged_19 : decode cX4_hoursTillBridged 19 = .ok (.iconst 2, 1) := by decide +kernel
theorem dX4_hoursTillBridged_20 : decode cX4_hoursTillBridged 20 = .ok (.invokevirtual 51, 3) := by decide +kernel
theorem dX4_hoursTillBridged_23 : decode cX4_hoursTillBridged 23 = .ok (.iload_n 2, 1) := by decide +kernel
theorem dX4_hoursTillBridged_24 : decode cX4_hoursTillBridged 24 = .ok (.if_icmp .lt 5, 3) := by decide +kernel
theorem dX4_hoursTillBridged_27 : decode cX4_hoursTillBridged 27 = .ok (.iload_n 3, 1) := by decide +kernel
theorem dX4_hoursTillBridged_28 : decode cX4_hoursTillBridged 28 = .ok (.ireturn, 1) := by decide +kernel
theorem dX4_hoursTillBridged_29 : decode cX4_hoursTillBridged 29 = .ok (.aload_n 0, 1) := by decide +kernel
theorem dX4_hoursTillBridged_30 : decode cX4_hoursTillBridged 30 = .ok (.getfield 12, 3) := by decide +kernel
theorem dX4_hoursTillBridged_33 : decode cX4_hoursTillBridged 33 = .ok (.invokevirtual 30, 3) := by decide +kernel
theorem dX4_hoursTillBridged_36 : decode cX4_hoursTillBridged 36 = .ok (.pop, 1) := by decide +kernel
theorem dX4_hoursTillBridged_37 : decode cX4_hoursTillBridged 37 = .ok (.iinc 3 1, 3) := by decide +kernel
theorem dX4_hoursTillBridged_40 : decode cX4_hoursTillBridged 40 = .ok (.goto (-32), 3) := by decide +kernel
theorem dX4_hoursTillBridged_43 : decode cX4_hoursTillBridged 43 = .ok (.bipush (-9), 2) := by decide +kernel
theorem dX4_hoursTillBridged_45 : decode cX4_hoursTillBridged 45 = .ok (.ireturn, 1) := by decide +kernel
theorem dX4_lightOf_0 : decode cX4_lightOf 0 = .ok (.aload_n 0, 1) := by decide +kernel
theorem dX4_lightOf_1 : decode cX4_lightOf 1 = .ok (.aload_n 1, 1) := by decide +kernel
theorem dX4_lightOf_2 : decode cX4_lightOf 2 = .ok (.invokevirtual 22, 3) := by decide +kernel
theorem dX4_lightOf_5 : decode cX4_lightOf 5 = .ok (.pop, 1) := by decide +kernel
theorem dX4_lightOf_6 : decode cX4_lightOf 6 = .ok (.iconst 0, 1) := by decide +kernel
theorem dX4_lightOf_7 : decode cX4_lightOf 7 = .ok (.istore_n 3, 1) := by decide +kernel
theorem dX4_lightOf_8 : decode cX4_lightOf 8 = .ok (.iconst 0, 1) := by decide +kernel
theorem dX4_lightOf_9 : decode cX4_lightOf 9 = .ok (.istore 4, 2) := by decide +kernel
theorem dX4_lightOf_11 : decode cX4_lightOf 11 = .ok (.iload 4, 2) := by decide +kernel
theorem dX4_lightOf_13 : decode cX4_lightOf 13 = .ok (.iload_n 2, 1) := by decide +kernel
theorem dX4_lightOf_14 : decode cX4_lightOf 14 = .ok (.if_icmp .ge 27, 3) := by decide +kernel
theorem dX4_lightOf_17 : decode cX4_lightOf 17 = .ok (.iload_n 3, 1) := by decide +kernel
theorem dX4_lightOf_18 : decode cX4_lightOf 18 = .ok (.aload_n 0, 1) := by decide +kernel
theorem dX4_lightOf_19 : decode cX4_lightOf 19 = .ok (.getfield 12, 3) := by decide +kernel
theorem dX4_lightOf_22 : decode cX4_lightOf 22 = .ok (.invokevirtual 55, 3) := by decide +kernel
theorem dX4_lightOf_25 : decode cX4_lightOf 25 = .ok (.iadd, 1) := by decide +kernel
theorem dX4_lightOf_26 : decode cX4_lightOf 26 = .ok (.istore_n 3, 1) := by decide +kernel
theorem dX4_lightOf_27 : decode cX4_lightOf 27 = .ok (.aload_n 0, 1) := by decide +kernel
theorem dX4_lightOf_28 : decode cX4_lightOf 28 = .ok (.getfield 12, 3) := by decide +kernel
theorem dX4_lightOf_31 : decode cX4_lightOf 31 = .ok (.invokevirtual 30, 3) := by decide +kernel
theorem dX4_lightOf_34 : decode cX4_lightOf 34 = .ok (.pop, 1) := by decide +kernel
theorem dX4_lightOf_35 : decode cX4_lightOf 35 = .ok (.iinc 4 1, 3) := by decide +kernel
theorem dX4_lightOf_38 : decode cX4_lightOf 38 = .ok (.goto (-27), 3) := by decide +kernel
theorem dX4_lightOf_41 : decode cX4_lightOf 41 = .ok (.iload_n 3, 1) := by decide +kernel
theorem dX4_lightOf_42 : decode cX4_lightOf 42 = .ok (.ireturn, 1) := by decide +kernel
theorem dX4_sparesTaken_0 : decode cX4_sparesTaken 0 = .ok (.aload_n 0, 1) := by decide +kernel
theorem dX4_sparesTaken_1 : decode cX4_sparesTaken 1 = .ok (.aload_n 1, 1) := by decide +kernel
theorem dX4_sparesTaken_2 : decode cX4_sparesTaken 2 = .ok (.invokevirtual 22, 3) := by decide +kernel
theorem dX4_sparesTaken_5 : decode cX4_sparesTaken 5 = .ok (.pop, 1) := by decide +kernel
theorem dX4_sparesTaken_6 : decode cX4_sparesTaken 6 = .ok (.iconst 0, 1) := by decide +kernel
theorem dX4_sparesTaken_7 : decode cX4_sparesTaken 7 = .ok (.istore_n 3, 1) := by decide +kernel
theorem dX4_sparesTaken_8 : decode cX4_sparesTaken 8 = .ok (.iconst 0, 1) := by decide +kernel
theorem dX4_sparesTaken_9 : decode cX4_sparesTaken 9 = .ok (.istore 4, 2) := by decide +kernel
theorem dX4_sparesTaken_11 : decode cX4_sparesTaken 11 = .ok (.iload 4, 2) := by decide +kernel
theorem dX4_sparesTaken_13 : decode cX4_sparesTaken 13 = .ok (.iload_n 2, 1) := by decide +kernel
theorem dX4_sparesTaken_14 : decode cX4_sparesTaken 14 = .ok (.if_icmp .ge 27, 3) := by decide +kernel
theorem dX4_sparesTaken_17 : decode cX4_sparesTaken 17 = .ok (.iload_n 3, 1) := by decide +kernel
theorem dX4_sparesTaken_18 : decode cX4_sparesTaken 18 = .ok (.aload_n 0, 1) := by decide +kernel
theorem dX4_sparesTaken_19 : decode cX4_sparesTaken 19 = .ok (.getfield 12, 3) := by decide +kernel
theorem dX4_sparesTaken_22 : decode cX4_sparesTaken 22 = .ok (.invokevirtual 58, 3) := by decide +kernel
theorem dX4_sparesTaken_25 : decode cX4_sparesTaken 25 = .ok (.iadd, 1) := by decide +kernel
theorem dX4_sparesTaken_26 : decode cX4_sparesTaken 26 = .ok (.istore_n 3, 1) := by decide +kernel
theorem dX4_sparesTaken_27 : decode cX4_sparesTaken 27 = .ok (.aload_n 0, 1) := by decide +kernel
theorem dX4_sparesTaken_28 : decode cX4_sparesTaken 28 = .ok (.getfield 12, 3) := by decide +kernel
theorem dX4_sparesTaken_31 : decode cX4_sparesTaken 31 = .ok (.invokevirtual 30, 3) := by decide +kernel
theorem dX4_sparesTaken_34 : decode cX4_sparesTaken 34 = .ok (.pop, 1) := by decide +kernel
theorem dX4_sparesTaken_35 : decode cX4_sparesTaken 35 = .ok (.iinc 4 1, 3) := by decide +kernel
theorem dX4_sparesTaken_38 : decode cX4_sparesTaken 38 = .ok (.goto (-27), 3) := by decide +kernel
theorem dX4_sparesTaken_41 : decode cX4_sparesTaken 41 = .ok (.iload_n 3, 1) := by decide +kernel
theorem dX4_sparesTaken_42 : decode cX4_sparesTaken 42 = .ok (.ireturn, 1) := by decide +kernel
theorem dX4_greatestAnew_0 : decode cX4_greatestAnew 0 = .ok (.bipush 50, 2) := by decide +kernel
theorem dX4_greatestAnew_2 : decode cX4_greatestAnew 2 = .ok (.istore_n 2, 1) := by decide +kernel
theorem dX4_greatestAnew_3 : decode cX4_greatestAnew 3 = .ok (.iload_n 2, 1) := by decide +kernel
theorem dX4_greatestAnew_4 : decode cX4_greatestAnew 4 = .ok (.iconst 1, 1) := by decide +kernel
theorem dX4_greatestAnew_5 : decode cX4_greatestAnew 5 = .ok (.if_icmp .lt 25, 3) := by decide +kernel
theorem dX4_greatestAnew_8 : decode cX4_greatestAnew 8 = .ok (.aload_n 0, 1) := by decide +kernel
theorem dX4_greatestAnew_9 : decode cX4_greatestAnew 9 = .ok (.aload_n 1, 1) := by decide +kernel
theorem dX4_greatestAnew_10 : decode cX4_greatestAnew 10 = .ok (.invokevirtual 22, 3) := by decide +kernel
theorem dX4_greatestAnew_13 : decode cX4_greatestAnew 13 = .ok (.pop, 1) := by decide +kernel
theorem dX4_greatestAnew_14 : decode cX4_greatestAnew 14 = .ok (.aload_n 0, 1) := by decide +kernel
theorem dX4_greatestAnew_15 : decode cX4_greatestAnew 15 = .ok (.iload_n 2, 1) := by decide +kernel
theorem dX4_greatestAnew_16 : decode cX4_greatestAnew 16 = .ok (.invokevirtual 61, 3) := by decide +kernel
theorem dX4_greatestAnew_19 : decode cX4_greatestAnew 19 = .ok (.ifCond .eq 5, 3) := by decide +kernel
theorem dX4_greatestAnew_22 : decode cX4_greatestAnew 22 = .ok (.iload_n 2, 1) := by decide +kernel
theorem dX4_greatestAnew_23 : decode cX4_greatestAnew 23 = .ok (.ireturn, 1) := by decide +kernel
theorem dX4_greatestAnew_24 : decode cX4_greatestAnew 24 = .ok (.iinc 2 (-1), 3) := by decide +kernel
theorem dX4_greatestAnew_27 : decode cX4_greatestAnew 27 = .ok (.goto (-24), 3) := by decide +kernel
theorem dX4_greatestAnew_30 : decode cX4_greatestAnew 30 = .ok (.bipush (-9), 2) := by decide +kernel
theorem dX4_greatestAnew_32 : decode cX4_greatestAnew 32 = .ok (.ireturn, 1) := by decide +kernel
theorem dX4_staysLive_0 : decode cX4_staysLive 0 = .ok (.iconst 0, 1) := by decide +kernel
theorem dX4_staysLive_1 : decode cX4_staysLive 1 = .ok (.istore_n 2, 1) := by decide +kernel
theorem dX4_staysLive_2 : decode cX4_staysLive 2 = .ok (.iconst 0, 1) := by decide +kernel
theorem dX4_staysLive_3 : decode cX4_staysLive 3 = .ok (.istore_n 3, 1) := by decide +kernel
theorem dX4_staysLive_4 : decode cX4_staysLive 4 = .ok (.iload_n 3, 1) := by decide +kernel
theorem dX4_staysLive_5 : decode cX4_staysLive 5 = .ok (.bipush 60, 2) := by decide +kernel
theorem dX4_staysLive_7 : decode cX4_staysLive 7 = .ok (.if_icmp .ge 45, 3) := by decide +kernel
theorem dX4_staysLive_10 : decode cX4_staysLive 10 = .ok (.iload_n 2, 1) := by decide +kernel
theorem dX4_staysLive_11 : decode cX4_staysLive 11 = .ok (.ifCond .ne 12, 3) := by decide +kernel
theorem dX4_staysLive_14 : decode cX4_staysLive 14 = .ok (.aload_n 0, 1) := by decide +kernel
theorem dX4_staysLive_15 : decode cX4_staysLive 15 = .ok (.getfield 12, 3) := by decide +kernel
theorem dX4_staysLive_18 : decode cX4_staysLive 18 = .ok (.invokevirtual 65, 3) := by decide +kernel
theorem dX4_staysLive_21 : decode cX4_staysLive 21 = .ok (.iload_n 1, 1) := by decide +kernel
theorem dX4_staysLive_22 : decode cX4_staysLive 22 = .ok (.istore_n 2, 1) := by decide +kernel
theorem dX4_staysLive_23 : decode cX4_staysLive 23 = .ok (.aload_n 0, 1) := by decide +kernel
theorem dX4_staysLive_24 : decode cX4_staysLive 24 = .ok (.getfield 12, 3) := by decide +kernel
theorem dX4_staysLive_27 : decode cX4_staysLive 27 = .ok (.invokevirtual 26, 3) := by decide +kernel
theorem dX4_staysLive_30 : decode cX4_staysLive 30 = .ok (.ifCond .ne 5, 3) := by decide +kernel
theorem dX4_staysLive_33 : decode cX4_staysLive 33 = .ok (.iconst 0, 1) := by decide +kernel
theorem dX4_staysLive_34 : decode cX4_staysLive 34 = .ok (.ireturn, 1) := by decide +kernel
theorem dX4_staysLive_35 : decode cX4_staysLive 35 = .ok (.aload_n 0, 1) := by decide +kernel
theorem dX4_staysLive_36 : decode cX4_staysLive 36 = .ok (.getfield 12, 3) := by decide +kernel
theorem dX4_staysLive_39 : decode cX4_staysLive 39 = .ok (.invokevirtual 30, 3) := by decide +kernel
theorem dX4_staysLive_42 : decode cX4_staysLive 42 = .ok (.pop, 1) := by decide +kernel
theorem dX4_staysLive_43 : decode cX4_staysLive 43 = .ok (.iinc 2 (-1), 3) := by decide +kernel
theorem dX4_staysLive_46 : decode cX4_staysLive 46 = .ok (.iinc 3 1, 3) := by decide +kernel
theorem dX4_staysLive_49 : decode cX4_staysLive 49 = .ok (.goto (-45), 3) := by decide +kernel
theorem dX4_staysLive_52 : decode cX4_staysLive 52 = .ok (.iconst 1, 1) := by decide +kernel
theorem dX4_staysLive_53 : decode cX4_staysLive 53 = .ok (.ireturn, 1) := by decide +kernel
theorem dX4_wellAfterTouches_0 : decode cX4_wellAfterTouches 0 = .ok (.aload_n 0, 1) := by decide +kernel
theorem dX4_wellAfterTouches_1 : decode cX4_wellAfterTouches 1 = .ok (.aload_n 1, 1) := by decide +kernel
theorem dX4_wellAfterTouches_2 : decode cX4_wellAfterTouches 2 = .ok (.invokevirtual 22, 3) := by decide +kernel
theorem dX4_wellAfterTouches_5 : decode cX4_wellAfterTouches 5 = .ok (.pop, 1) := by decide +kernel
theorem dX4_wellAfterTouches_6 : decode cX4_wellAfterTouches 6 = .ok (.iload_n 3, 1) := by decide +kernel
theorem dX4_wellAfterTouches_7 : decode cX4_wellAfterTouches 7 = .ok (.istore 4, 2) := by decide +kernel
theorem dX4_wellAfterTouches_9 : decode cX4_wellAfterTouches 9 = .ok (.iconst 0, 1) := by decide +kernel
theorem dX4_wellAfterTouches_10 : decode cX4_wellAfterTouches 10 = .ok (.istore 5, 2) := by decide +kernel
theorem dX4_wellAfterTouches_12 : decode cX4_wellAfterTouches 12 = .ok (.iload 5, 2) := by decide +kernel
theorem dX4_wellAfterTouches_14 : decode cX4_wellAfterTouches 14 = .ok (.iload_n 2, 1) := by decide +kernel
theorem dX4_wellAfterTouches_15 : decode cX4_wellAfterTouches 15 = .ok (.if_icmp .ge 47, 3) := by decide +kernel
theorem dX4_wellAfterTouches_18 : decode cX4_wellAfterTouches 18 = .ok (.iload 4, 2) := by decide +kernel
theorem dX4_wellAfterTouches_20 : decode cX4_wellAfterTouches 20 = .ok (.ldc 68, 2) := by decide +kernel
theorem dX4_wellAfterTouches_22 : decode cX4_wellAfterTouches 22 = .ok (.imul, 1) := by decide +kernel
theorem dX4_wellAfterTouches_23 : decode cX4_wellAfterTouches 23 = .ok (.sipush 12345, 3) := by decide +kernel
theorem dX4_wellAfterTouches_26 : decode cX4_wellAfterTouches 26 = .ok (.iadd, 1) := by decide +kernel
theorem dX4_wellAfterTouches_27 : decode cX4_wellAfterTouches 27 = .ok (.istore 4, 2) := by decide +kernel
theorem dX4_wellAfterTouches_29 : decode cX4_wellAfterTouches 29 = .ok (.aload_n 0, 1) := by decide +kernel
theorem dX4_wellAfterTouches_30 : decode cX4_wellAfterTouches 30 = .ok (.getfield 12, 3) := by decide +kernel
theorem dX4_wellAfterTouches_33 : decode cX4_wellAfterTouches 33 = .ok (.iload 4, 2) := by decide +kernel
theorem dX4_wellAfterTouches_35 : decode cX4_wellAfterTouches 35 = .ok (.aload_n 0, 1) := by decide +kernel
theorem dX4_wellAfterTouches_36 : decode cX4_wellAfterTouches 36 = .ok (.getfield 12, 3) := by decide +kernel
theorem dX4_wellAfterTouches_39 : decode cX4_wellAfterTouches 39 = .ok (.getfield 38, 3) := by decide +kernel
theorem dX4_wellAfterTouches_42 : decode cX4_wellAfterTouches 42 = .ok (.invokestatic 69, 3) := by decide +kernel
theorem dX4_wellAfterTouches_45 : decode cX4_wellAfterTouches 45 = .ok (.invokevirtual 73, 3) := by decide +kernel
theorem dX4_wellAfterTouches_48 : decode cX4_wellAfterTouches 48 = .ok (.aload_n 0, 1) := by decide +kernel
theorem dX4_wellAfterTouches_49 : decode cX4_wellAfterTouches 49 = .ok (.getfield 12, 3) := by decide +kernel
theorem dX4_wellAfterTouches_52 : decode cX4_wellAfterTouches 52 = .ok (.invokevirtual 30, 3) := by decide +kernel
theorem dX4_wellAfterTouches_55 : decode cX4_wellAfterTouches 55 = .ok (.pop, 1) := by decide +kernel
theorem dX4_wellAfterTouches_56 : decode cX4_wellAfterTouches 56 = .ok (.iinc 5 1, 3) := by decide +kernel
theorem dX4_wellAfterTouches_59 : decode cX4_wellAfterTouches 59 = .ok (.goto (-47), 3) := by decide +kernel
theorem dX4_wellAfterTouches_62 : decode cX4_wellAfterTouches 62 = .ok (.aload_n 0, 1) := by decide +kernel
theorem dX4_wellAfterTouches_63 : decode cX4_wellAfterTouches 63 = .ok (.getfield 12, 3) := by decide +kernel
theorem dX4_wellAfterTouches_66 : decode cX4_wellAfterTouches 66 = .ok (.iconst 0, 1) := by decide +kernel
theorem dX4_wellAfterTouches_67 : decode cX4_wellAfterTouches 67 = .ok (.invokevirtual 51, 3) := by decide +kernel
theorem dX4_wellAfterTouches_70 : decode cX4_wellAfterTouches 70 = .ok (.ireturn, 1) := by decide +kernel
theorem dX4_drawBelow_0 : decode cX4_drawBelow 0 = .ok (.iload_n 1, 1) := by decide +kernel
theorem dX4_drawBelow_1 : decode cX4_drawBelow 1 = .ok (.ifCond .gt 7, 3) := by decide +kernel
theorem dX4_drawBelow_4 : decode cX4_drawBelow 4 = .ok (.iconst 0, 1) := by decide +kernel
theorem dX4_drawBelow_5 : decode cX4_drawBelow 5 = .ok (.goto 12, 3) := by decide +kernel
theorem dX4_drawBelow_8 : decode cX4_drawBelow 8 = .ok (.iload_n 0, 1) := by decide +kernel
theorem dX4_drawBelow_9 : decode cX4_drawBelow 9 = .ok (.ldc 77, 2) := by decide +kernel
theorem dX4_drawBelow_11 : decode cX4_drawBelow 11 = .ok (.iand, 1) := by decide +kernel
theorem dX4_drawBelow_12 : decode cX4_drawBelow 12 = .ok (.ldc 78, 2) := by decide +kernel
theorem dX4_drawBelow_14 : decode cX4_drawBelow 14 = .ok (.idiv, 1) := by decide +kernel
theorem dX4_drawBelow_15 : decode cX4_drawBelow 15 = .ok (.iload_n 1, 1) := by decide +kernel
theorem dX4_drawBelow_16 : decode cX4_drawBelow 16 = .ok (.irem, 1) := by decide +kernel
theorem dX4_drawBelow_17 : decode cX4_drawBelow 17 = .ok (.ireturn, 1) := by decide +kernel
theorem dX5_init_0 : decode cX5_init 0 = .ok (.aload_n 0, 1) := by decide +kernel
theorem dX5_init_1 : decode cX5_init 1 = .ok (.invokespecial 3, 3) := by decide +kernel
theorem dX5_init_4 : decode cX5_init 4 = .ok (.aload_n 0, 1) := by decide +kernel
theorem dX5_init_5 : decode cX5_init 5 = .ok (.bipush 12, 2) := by decide +kernel
theorem dX5_init_7 : decode cX5_init 7 = .ok (.anewarray 9, 3) := by decide +kernel
theorem dX5_init_10 : decode cX5_init 10 = .ok (.putfield 11, 3) := by decide +kernel
theorem dX5_init_13 : decode cX5_init 13 = .ok (.aload_n 0, 1) := by decide +kernel
theorem dX5_init_14 : decode cX5_init 14 = .ok (.iconst 4, 1) := by decide +kernel
theorem dX5_init_15 : decode cX5_init 15 = .ok (.newarray .int, 2) := by decide +kernel
theorem dX5_init_17 : decode cX5_init 17 = .ok (.dup, 1) := by decide +kernel
theorem dX5_init_18 : decode cX5_init 18 = .ok (.iconst 0, 1) := by decide +kernel
theorem dX5_init_19 : decode cX5_init 19 = .ok (.sipush 230, 3) := by decide +kernel
theorem dX5_init_22 : decode cX5_init 22 = .ok (.iastore, 1) := by decide +kernel
theorem dX5_init_23 : decode cX5_init 23 = .ok (.dup, 1) := by decide +kernel
theorem dX5_init_24 : decode cX5_init 24 = .ok (.iconst 1, 1) := by decide +kernel
theorem dX5_init_25 : decode cX5_init 25 = .ok (.iconst 3, 1) := by decide +kernel
theorem dX5_init_26 : decode cX5_init 26 = .ok (.iastore, 1) := by decide +kernel
theorem dX5_init_27 : decode cX5_init 27 = .ok (.dup, 1) := by decide +kernel
theorem dX5_init_28 : decode cX5_init 28 = .ok (.iconst 2, 1) := by decide +kernel
theorem dX5_init_29 : decode cX5_init 29 = .ok (.bipush 100, 2) := by decide +kernel
theorem dX5_init_31 : decode cX5_init 31 = .ok (.iastore, 1) := by decide +kernel
theorem dX5_init_32 : decode cX5_init 32 = .ok (.dup, 1) := by decide +kernel
theorem dX5_init_33 : decode cX5_init 33 = .ok (.iconst 3, 1) := by decide +kernel
theorem dX5_init_34 : decode cX5_init 34 = .ok (.iconst 3, 1) := by decide +kernel
theorem dX5_init_35 : decode cX5_init 35 = .ok (.iastore, 1) := by decide +kernel
theorem dX5_init_36 : decode cX5_init 36 = .ok (.putfield 17, 3) := by decide +kernel
theorem dX5_init_39 : decode cX5_init 39 = .ok (.iconst 0, 1) := by decide +kernel
theorem dX5_init_40 : decode cX5_init 40 = .ok (.istore_n 1, 1) := by decide +kernel
theorem dX5_init_41 : decode cX5_init 41 = .ok (.iload_n 1, 1) := by decide +kernel
theorem dX5_init_42 : decode cX5_init 42 = .ok (.bipush 12, 2) := by decide +kernel
theorem dX5_init_44 : decode cX5_init 44 = .ok (.if_icmp .ge 22, 3) := by decide +kernel
theorem dX5_init_47 : decode cX5_init 47 = .ok (.aload_n 0, 1) := by decide +kernel
theorem dX5_init_48 : decode cX5_init 48 = .ok (.getfield 11, 3) := by decide +kernel
theorem dX5_init_51 : decode cX5_init 51 = .ok (.iload_n 1, 1) := by decide +kernel
theorem dX5_init_52 : decode cX5_init 52 = .ok (.new 9, 3) := by decide +kernel
theorem dX5_init_55 : decode cX5_init 55 = .ok (.dup, 1) := by decide +kernel
theorem dX5_init_56 : decode cX5_init 56 = .ok (.invokespecial 21, 3) := by decide +kernel
theorem dX5_init_59 : decode cX5_init 59 = .ok (.aastore, 1) := by decide +kernel
theorem dX5_init_60 : decode cX5_init 60 = .ok (.iinc 1 1, 3) := by decide +kernel
theorem dX5_init_63 : decode cX5_init 63 = .ok (.goto (-22), 3) := by decide +kernel
theorem dX5_init_66 : decode cX5_init 66 = .ok (.return_, 1) := by decide +kernel
theorem dX5_copyFrom_0 : decode cX5_copyFrom 0 = .ok (.aload_n 0, 1) := by decide +kernel
theorem dX5_copyFrom_1 : decode cX5_copyFrom 1 = .ok (.aload_n 1, 1) := by decide +kernel
theorem dX5_copyFrom_2 : decode cX5_copyFrom 2 = .ok (.getfield 22, 3) := by decide +kernel
theorem dX5_copyFrom_5 : decode cX5_copyFrom 5 = .ok (.putfield 22, 3) := by decide +kernel
theorem dX5_copyFrom_8 : decode cX5_copyFrom 8 = .ok (.aload_n 0, 1) := by decide +kernel
theorem dX5_copyFrom_9 : decode cX5_copyFrom 9 = .ok (.aload_n 1, 1) := by decide +kernel
theorem dX5_copyFrom_10 : decode cX5_copyFrom 10 = .ok (.getfield 26, 3) := by decide +kernel
theorem dX5_copyFrom_13 : decode cX5_copyFrom 13 = .ok (.putfield 26, 3) := by decide +kernel
theorem dX5_copyFrom_16 : decode cX5_copyFrom 16 = .ok (.iconst 0, 1) := by decide +kernel
theorem dX5_copyFrom_17 : decode cX5_copyFrom 17 = .ok (.istore_n 2, 1) := by decide +kernel
theorem dX5_copyFrom_18 : decode cX5_copyFrom 18 = .ok (.iload_n 2, 1) := by decide +kernel
theorem dX5_copyFrom_19 : decode cX5_copyFrom 19 = .ok (.iconst 3, 1) := by decide +kernel
theorem dX5_copyFrom_20 : decode cX5_copyFrom 20 = .ok (.if_icmp .gt 21, 3) := by decide +kernel
theorem dX5_copyFrom_23 : decode cX5_copyFrom 23 = .ok (.aload_n 0, 1) := by decide +kernel
theorem dX5_copyFrom_24 : decode cX5_copyFrom 24 = .ok (.getfield 17, 3) := by decide +kernel
theorem dX5_copyFrom_27 : decode cX5_copyFrom 27 = .ok (.iload_n 2, 1) := by decide +kernel
theorem dX5_copyFrom_28 : decode cX5_copyFrom 28 = .ok (.aload_n 1, 1) := by decide +kernel
theorem dX5_copyFrom_29 : decode cX5_copyFrom 29 = .ok (.getfield 17, 3) := by decide +kernel
theorem dX5_copyFrom_32 : decode cX5_copyFrom 32 = .ok (.iload_n 2, 1) := by decide +kernel
theorem dX5_copyFrom_33 : decode cX5_copyFrom 33 = .ok (.iaload, 1) := by decide +kernel
theorem dX5_copyFrom_34 : decode cX5_copyFrom 34 = .ok (.iastore, 1) := by decide +kernel
theorem dX5_copyFrom_35 : decode cX5_copyFrom 35 = .ok (.iinc 2 1, 3) := by decide +kernel
theorem dX5_copyFrom_38 : decode cX5_copyFrom 38 = .ok (.goto (-20), 3) := by decide +kernel
theorem dX5_copyFrom_41 : decode cX5_copyFrom 41 = .ok (.iconst 0, 1) := by decide +kernel
theorem dX5_copyFrom_42 : decode cX5_copyFrom 42 = .ok (.istore_n 2, 1) := by decide +kernel
theorem dX5_copyFrom_43 : decode cX5_copyFrom 43 = .ok (.iload_n 2, 1) := by decide +kernel
theorem dX5_copyFrom_44 : decode cX5_copyFrom 44 = .ok (.aload_n 0, 1) := by decide +kernel
theorem dX5_copyFrom_45 : decode cX5_copyFrom 45 = .ok (.getfield 22, 3) := by decide +kernel
theorem dX5_copyFrom_48 : decode cX5_copyFrom 48 = .ok (.if_icmp .ge 24, 3) := by decide +kernel
theorem dX5_copyFrom_51 : decode cX5_copyFrom 51 = .ok (.aload_n 0, 1) := by decide +kernel
theorem dX5_copyFrom_52 : decode cX5_copyFrom 52 = .ok (.getfield 11, 3) := by decide +kernel
theorem dX5_copyFrom_55 : decode cX5_copyFrom 55 = .ok (.iload_n 2, 1) := by decide +kernel
theorem dX5_copyFrom_56 : decode cX5_copyFrom 56 = .ok (.aaload, 1) := by decide +kernel
theorem dX5_copyFrom_57 : decode cX5_copyFrom 57 = .ok (.aload_n 1, 1) := by decide +kernel
theorem dX5_copyFrom_58 : decode cX5_copyFrom 58 = .ok (.getfield 11, 3) := by decide +kernel
theorem dX5_copyFrom_61 : decode cX5_copyFrom 61 = .ok (.iload_n 2, 1) := by decide +kernel
theorem dX5_copyFrom_62 : decode cX5_copyFrom 62 = .ok (.aaload, 1) := by decide +kernel
theorem dX5_copyFrom_63 : decode cX5_copyFrom 63 = .ok (.invokevirtual 29, 3) := by decide +kernel
theorem dX5_copyFrom_66 : decode cX5_copyFrom 66 = .ok (.iinc 2 1, 3) := by decide +kernel
theorem dX5_copyFrom_69 : decode cX5_copyFrom 69 = .ok (.goto (-26), 3) := by decide +kernel
theorem dX5_copyFrom_72 : decode cX5_copyFrom 72 = .ok (.return_, 1) := by decide +kernel
theorem dX5_has_0 : decode cX5_has 0 = .ok (.iload_n 1, 1) := by decide +kernel
theorem dX5_has_1 : decode cX5_has 1 = .ok (.ifCond .lt 15, 3) := by decide +kernel
theorem dX5_has_4 : decode cX5_has 4 = .ok (.iload_n 1, 1) := by decide +kernel
theorem dX5_has_5 : decode cX5_has 5 = .ok (.aload_n 0, 1) := by decide +kernel
theorem dX5_has_6 : decode cX5_has 6 = .ok (.getfield 22, 3) := by decide +kernel
theorem dX5_has_9 : decode cX5_has 9 = .ok (.if_icmp .ge 7, 3) := by decide +kernel
theorem dX5_has_12 : decode cX5_has 12 = .ok (.iconst 1, 1) := by decide +kernel
theorem dX5_has_13 : decode cX5_has 13 = .ok (.goto 4, 3) := by decide +kernel
theorem dX5_has_16 : decode cX5_has 16 = .ok (.iconst 0, 1) := by decide +kernel
theorem dX5_has_17 : decode cX5_has 17 = .ok (.ireturn, 1) := by decide +kernel
theorem dX5_hasStretch_0 : decode cX5_hasStretch 0 = .ok (.aload_n 0, 1) := by decide +kernel
theorem dX5_hasStretch_1 : decode cX5_hasStretch 1 = .ok (.iload_n 1, 1) := by decide +kernel
theorem dX5_hasStretch_2 : decode cX5_hasStretch 2 = .ok (.invokevirtual 33, 3) := by decide +kernel
theorem dX5_hasStretch_5 : decode cX5_hasStretch 5 = .ok (.ifCond .eq 20, 3) := by decide +kernel
theorem dX5_hasStretch_8 : decode cX5_hasStretch 8 = .ok (.aload_n 0, 1) := by decide +kernel
theorem dX5_hasStretch_9 : decode cX5_hasStretch 9 = .ok (.iload_n 2, 1) := by decide +kernel
theorem dX5_hasStretch_10 : decode cX5_hasStretch 10 = .ok (.invokevirtual 33, 3) := by decide +kernel
theorem dX5_hasStretch_13 : decode cX5_hasStretch 13 = .ok (.ifCond .eq 12, 3) := by decide +kernel
theorem dX5_hasStretch_16 : decode cX5_hasStretch 16 = .ok (.iload_n 1, 1) := by decide +kernel
theorem dX5_hasStretch_17 : decode cX5_hasStretch 17 = .ok (.iload_n 2, 1) := by decide +kernel
theorem dX5_hasStretch_18 : decode cX5_hasStretch 18 = .ok (.if_icmp .gt 7, 3) := by decide +kernel
theorem dX5_hasStretch_21 : decode cX5_hasStretch 21 = .ok (.iconst 1, 1) := by decide +kernel
theorem dX5_hasStretch_22 : decode cX5_hasStretch 22 = .ok (.goto 4, 3) := by decide +kernel
theorem dX5_hasStretch_25 : decode cX5_hasStretch 25 = .ok (.iconst 0, 1) := by decide +kernel
theorem dX5_hasStretch_26 : decode cX5_hasStretch 26 = .ok (.ireturn, 1) := by decide +kernel
theorem dX5_take_0 : decode cX5_take 0 = .ok (.aload_n 1, 1) := by decide +kernel
theorem dX5_take_1 : decode cX5_take 1 = .ok (.getfield 37, 3) := by decide +kernel
theorem dX5_take_4 : decode cX5_take 4 = .ok (.lookupswitch 94 #[(100, 71), (103, 84), (112, 44), (117, 61)], 44) := by decide +kernel
theorem dX5_take_48 : decode cX5_take 48 = .ok (.aload_n 0, 1) := by decide +kernel
theorem dX5_take_49 : decode cX5_take 49 = .ok (.aload_n 1, 1) := by decide +kernel
theorem dX5_take_50 : decode cX5_take 50 = .ok (.getfield 42, 3) := by decide +kernel
theorem dX5_take_53 : decode cX5_take 53 = .ok (.aload_n 1, 1) := by decide +kernel
theorem dX5_take_54 : decode cX5_take 54 = .ok (.getfield 45, 3) := by decide +kernel
theorem dX5_take_57 : decode cX5_take 57 = .ok (.aload_n 1, 1) := by decide +kernel
theorem dX5_take_58 : decode cX5_take 58 = .ok (.getfield 48, 3) := by decide +kernel
theorem dX5_take_61 : decode cX5_take 61 = .ok (.invokevirtual 51, 3) := by decide +kernel
theorem dX5_take_64 : decode cX5_take 64 = .ok (.ireturn, 1) := by decide +kernel
theorem dX5_take_65 : decode cX5_take 65 = .ok (.aload_n 0, 1) := by decide +kernel
theorem dX5_take_66 : decode cX5_take 66 = .ok (.iconst 0, 1) := by decide +kernel
theorem dX5_take_67 : decode cX5_take 67 = .ok (.aload_n 1, 1) := by decide +kernel
theorem dX5_take_68 : decode cX5_take 68 = .ok (.getfield 42, 3) := by decide +kernel
theorem dX5_take_71 : decode cX5_take 71 = .ok (.invokevirtual 55, 3) := by decide +kernel
theorem dX5_take_74 : decode cX5_take 74 = .ok (.ireturn, 1) := by decide +kernel
theorem dX5_take_75 : decode cX5_take 75 = .ok (.aload_n 0, 1) := by decide +kernel
theorem dX5_take_76 : decode cX5_take 76 = .ok (.aload_n 1, 1) := by decide +kernel
theorem dX5_take_77 : decode cX5_take 77 = .ok (.getfield 42, 3) := by decide +kernel
theorem dX5_take_80 : decode cX5_take 80 = .ok (.aload_n 1, 1) := by decide +kernel
theorem dX5_take_81 : decode cX5_take 81 = .ok (.getfield 45, 3) := by decide +kernel
theorem dX5_take_84 : decode cX5_take 84 = .ok (.invokevirtual 59, 3) := by decide +kernel
theorem dX5_take_87 : decode cX5_take 87 = .ok (.ireturn, 1) := by decide +kernel
theorem dX5_take_88 : decode cX5_take 88 = .ok (.aload_n 0, 1) := by decide +kernel
theorem dX5_take_89 : decode cX5_take 89 = .ok (.iconst 3, 1) := by decide +kernel
theorem dX5_take_90 : decode cX5_take 90 = .ok (.aload_n 1, 1) := by decide +kernel
theorem dX5_take_91 : decode cX5_take 91 = .ok (.getfield 42, 3) := by decide +kernel
theorem dX5_take_94 : decode cX5_take 94 = .ok (.invokevirtual 55, 3) := by decide +kernel
theorem dX5_take_97 : decode cX5_take 97 = .ok (.ireturn, 1) := by decide +kernel
theorem dX5_take_98 : decode cX5_take 98 = .ok (.iconst 0, 1) := by decide +kernel
theorem dX5_take_99 : decode cX5_take 99 = .ok (.ireturn, 1) := by decide +kernel
theorem dX5_addLamp_0 : decode cX5_addLamp 0 = .ok (.iload_n 1, 1) := by decide +kernel
theorem dX5_addLamp_1 : decode cX5_addLamp 1 = .ok (.ifCond .lt 34, 3) := by decide +kernel
theorem dX5_addLamp_4 : decode cX5_addLamp 4 = .ok (.iload_n 1, 1) := by decide +kernel
theorem dX5_addLamp_5 : decode cX5_addLamp 5 = .ok (.iconst 5, 1) := by decide +kernel
theorem dX5_addLamp_6 : decode cX5_addLamp 6 = .ok (.if_icmp .gt 29, 3) := by decide +kernel
theorem dX5_addLamp_9 : decode cX5_addLamp 9 = .ok (.iload_n 2, 1) := by decide +kernel
theorem dX5_addLamp_10 : decode cX5_addLamp 10 = .ok (.iconst 1, 1) := by decide +kernel
theorem dX5_addLamp_11 : decode cX5_addLamp 11 = .ok (.if_icmp .lt 24, 3) := by decide +kernel
theorem dX5_addLamp_14 : decode cX5_addLamp 14 = .ok (.iload_n 2, 1) := by decide +kernel
theorem dX5_addLamp_15 : decode cX5_addLamp 15 = .ok (.bipush 99, 2) := by decide +kernel
theorem dX5_addLamp_17 : decode cX5_addLamp 17 = .ok (.if_icmp .gt 18, 3) := by decide +kernel
theorem dX5_addLamp_20 : decode cX5_addLamp 20 = .ok (.iload_n 3, 1) := by decide +kernel
theorem dX5_addLamp_21 : decode cX5_addLamp 21 = .ok (.iconst 1, 1) := by decide +kernel
theorem dX5_addLamp_22 : decode cX5_addLamp 22 = .ok (.if_icmp .lt 13, 3) := by decide +kernel
theorem dX5_addLamp_25 : decode cX5_addLamp 25 = .ok (.iload_n 3, 1) := by decide +kernel
theorem dX5_addLamp_26 : decode cX5_addLamp 26 = .ok (.bipush 9, 2) := by decide +kernel
theorem dX5_addLamp_28 : decode cX5_addLamp 28 = .ok (.if_icmp .gt 7, 3) := by decide +kernel
theorem dX5_addLamp_31 : decode cX5_addLamp 31 = .ok (.iconst 1, 1) := by decide +kernel
theorem dX5_addLamp_32 : decode cX5_addLamp 32 = .ok (.goto 4, 3) := by decide +kernel
theorem dX5_addLamp_35 : decode cX5_addLamp 35 = .ok (.iconst 0, 1) := by decide +kernel
theorem dX5_addLamp_36 : decode cX5_addLamp 36 = .ok (.istore 4, 2) := by decide +kernel
theorem dX5_addLamp_38 : decode cX5_addLamp 38 = .ok (.iload 4, 2) := by decide +kernel
theorem dX5_addLamp_40 : decode cX5_addLamp 40 = .ok (.ifCond .eq 12, 3) := by decide +kernel
theorem dX5_addLamp_43 : decode cX5_addLamp 43 = .ok (.aload_n 0, 1) := by decide +kernel
theorem dX5_addLamp_44 : decode cX5_addLamp 44 = .ok (.getfield 22, 3) := by decide +kernel
theorem dX5_addLamp_47 : decode cX5_addLamp 47 = .ok (.bipush 12, 2) := by decide +kernel
theorem dX5_addLamp_49 : decode cX5_addLamp 49 = .ok (.if_icmp .lt 5, 3) := by decide +kernel
theorem dX5_addLamp_52 : decode cX5_addLamp 52 = .ok (.iconst 0, 1) := by decide +kernel
theorem dX5_addLamp_53 : decode cX5_addLamp 53 = .ok (.ireturn, 1) := by decide +kernel
theorem dX5_addLamp_54 : decode cX5_addLamp 54 = .ok (.aload_n 0, 1) := by decide +kernel
theorem dX5_addLamp_55 : decode cX5_addLamp 55 = .ok (.getfield 11, 3) := by decide +kernel
theorem dX5_addLamp_58 : decode cX5_addLamp 58 = .ok (.aload_n 0, 1) := by decide +kernel
theorem dX5_addLamp_59 : decode cX5_addLamp 59 = .ok (.getfield 22, 3) := by decide +kernel
theorem dX5_addLamp_62 : decode cX5_addLamp 62 = .ok (.aaload, 1) := by decide +kernel
theorem dX5_addLamp_63 : decode cX5_addLamp 63 = .ok (.iload_n 1, 1) := by decide +kernel
theorem dX5_addLamp_64 : decode cX5_addLamp 64 = .ok (.iload_n 2, 1) := by decide +kernel
theorem dX5_addLamp_65 : decode cX5_addLamp 65 = .ok (.iload_n 3, 1) := by decide +kernel
theorem dX5_addLamp_66 : decode cX5_addLamp 66 = .ok (.invokevirtual 62, 3) := by decide +kernel
theorem dX5_addLamp_69 : decode cX5_addLamp 69 = .ok (.aload_n 0, 1) := by decide +kernel
theorem dX5_addLamp_70 : decode cX5_addLamp 70 = .ok (.dup, 1) := by decide +kernel
theorem dX5_addLamp_71 : decode cX5_addLamp 71 = .ok (.getfield 22, 3) := by decide +kernel
theorem dX5_addLamp_74 : decode cX5_addLamp 74 = .ok (.iconst 1, 1) := by decide +kernel
theorem dX5_addLamp_75 : decode cX5_addLamp 75 = .ok (.iadd, 1) := by decide +kernel
theorem dX5_addLamp_76 : decode cX5_addLamp 76 = .ok (.putfield 22, 3) := by decide +kernel
theorem dX5_addLamp_79 : decode cX5_addLamp 79 = .ok (.iconst 1, 1) := by decide +kernel
theorem dX5_addLamp_80 : decode cX5_addLamp 80 = .ok (.ireturn, 1) := by decide +kernel
theorem dX5_takeSetting_0 : decode cX5_takeSetting 0 = .ok (.iload_n 2, 1) := by decide +kernel
theorem dX5_takeSetting_1 : decode cX5_takeSetting 1 = .ok (.getstatic 66, 3) := by decide +kernel
theorem dX5_takeSetting_4 : decode cX5_takeSetting 4 = .ok (.iload_n 1, 1) := by decide +kernel
theorem dX5_takeSetting_5 : decode cX5_takeSetting 5 = .ok (.iaload, 1) := by decide +kernel
theorem dX5_takeSetting_6 : decode cX5_takeSetting 6 = .ok (.if_icmp .lt 12, 3) := by decide +kernel
theorem dX5_takeSetting_9 : decode cX5_takeSetting 9 = .ok (.iload_n 2, 1) := by decide +kernel
theorem dX5_takeSetting_10 : decode cX5_takeSetting 10 = .ok (.getstatic 69, 3) := by decide +kernel
theorem dX5_takeSetting_13 : decode cX5_takeSetting 13 = .ok (.iload_n 1, 1) := by decide +kernel
theorem dX5_takeSetting_14 : decode cX5_takeSetting 14 = .ok (.iaload, 1) := by decide +kernel
theorem dX5_takeSetting_15 : decode cX5_takeSetting 15 = .ok (.if_icmp .le 5, 3) := by decide +kernel
theorem dX5_takeSetting_18 : decode cX5_takeSetting 18 = .ok (.iconst 0, 1) := by decide +kernel
theorem dX5_takeSetting_19 : decode cX5_takeSetting 19 = .ok (.ireturn, 1) := by decide +kernel
theorem dX5_takeSetting_20 : decode cX5_takeSetting 20 = .ok (.aload_n 0, 1) := by decide +kernel
theorem dX5_takeSetting_21 : decode cX5_takeSetting 21 = .ok (.getfield 17, 3) := by decide +kernel
theorem dX5_takeSetting_24 : decode cX5_takeSetting 24 = .ok (.iload_n 1, 1) := by decide +kernel
theorem dX5_takeSetting_25 : decode cX5_takeSetting 25 = .ok (.iload_n 2, 1) := by decide +kernel
theorem dX5_takeSetting_26 : decode cX5_takeSetting 26 = .ok (.iastore, 1) := by decide +kernel
theorem dX5_takeSetting_27 : decode cX5_takeSetting 27 = .ok (.iconst 1, 1) := by decide +kernel
theorem dX5_takeSetting_28 : decode cX5_takeSetting 28 = .ok (.ireturn, 1) := by decide +kernel
theorem dX5_takeCondition_0 : decode cX5_takeCondition 0 = .ok (.aload_n 0, 1) := by decide +kernel
theorem dX5_takeCondition_1 : decode cX5_takeCondition 1 = .ok (.iload_n 1, 1) := by decide +kernel
theorem dX5_takeCondition_2 : decode cX5_takeCondition 2 = .ok (.invokevirtual 33, 3) := by decide +kernel
theorem dX5_takeCondition_5 : decode cX5_takeCondition 5 = .ok (.ifCond .eq 12, 3) := by decide +kernel
theorem dX5_takeCondition_8 : decode cX5_takeCondition 8 = .ok (.iload_n 2, 1) := by decide +kernel
theorem dX5_takeCondition_9 : decode cX5_takeCondition 9 = .ok (.ifCond .lt 8, 3) := by decide +kernel
theorem dX5_takeCondition_12 : decode cX5_takeCondition 12 = .ok (.iload_n 2, 1) := by decide +kernel
theorem dX5_takeCondition_13 : decode cX5_takeCondition 13 = .ok (.iconst 3, 1) := by decide +kernel
theorem dX5_takeCondition_14 : decode cX5_takeCondition 14 = .ok (.if_icmp .le 5, 3) := by decide +kernel
theorem dX5_takeCondition_17 : decode cX5_takeCondition 17 = .ok (.iconst 0, 1) := by decide +kernel
theorem dX5_takeCondition_18 : decode cX5_takeCondition 18 = .ok (.ireturn, 1) := by decide +kernel
theorem dX5_takeCondition_19 : decode cX5_takeCondition 19 = .ok (.aload_n 0, 1) := by decide +kernel
theorem dX5_takeCondition_20 : decode cX5_takeCondition 20 = .ok (.getfield 11, 3) := by decide +kernel
theorem dX5_takeCondition_23 : decode cX5_takeCondition 23 = .ok (.iload_n 1, 1) := by decide +kernel
theorem dX5_takeCondition_24 : decode cX5_takeCondition 24 = .ok (.aaload, 1) := by decide +kernel
theorem dX5_takeCondition_25 : decode cX5_takeCondition 25 = .ok (.iload_n 2, 1) := by decide +kernel
theorem dX5_takeCondition_26 : decode cX5_takeCondition 26 = .ok (.putfield 72, 3) := by decide +kernel
theorem dX5_takeCondition_29 : decode cX5_takeCondition 29 = .ok (.iconst 1, 1) := by decide +kernel
theorem dX5_takeCondition_30 : decode cX5_takeCondition 30 = .ok (.ireturn, 1) := by decide +kernel
theorem dX5_howMany_0 : decode cX5_howMany 0 = .ok (.iconst 0, 1) := by decide +kernel
theorem dX5_howMany_1 : decode cX5_howMany 1 = .ok (.istore_n 2, 1) := by decide +kernel
theorem dX5_howMany_2 : decode cX5_howMany 2 = .ok (.iconst 0, 1) := by decide +kernel
theorem dX5_howMany_3 : decode cX5_howMany 3 = .ok (.istore_n 3, 1) := by decide +kernel
theorem dX5_howMany_4 : decode cX5_howMany 4 = .ok (.iload_n 3, 1) := by decide +kernel
theorem dX5_howMany_5 : decode cX5_howMany 5 = .ok (.aload_n 0, 1) := by decide +kernel
theorem dX5_howMany_6 : decode cX5_howMany 6 = .ok (.getfield 22, 3) := by decide +kernel
theorem dX5_howMany_9 : decode cX5_howMany 9 = .ok (.if_icmp .ge 25, 3) := by decide +kernel
theorem dX5_howMany_12 : decode cX5_howMany 12 = .ok (.aload_n 0, 1) := by decide +kernel
theorem dX5_howMany_13 : decode cX5_howMany 13 = .ok (.getfield 11, 3) := by decide +kernel
theorem dX5_howMany_16 : decode cX5_howMany 16 = .ok (.iload_n 3, 1) := by decide +kernel
theorem dX5_howMany_17 : decode cX5_howMany 17 = .ok (.aaload, 1) := by decide +kernel
theorem dX5_howMany_18 : decode cX5_howMany 18 = .ok (.getfield 72, 3) := by decide +kernel
theorem dX5_howMany_21 : decode cX5_howMany 21 = .ok (.iload_n 1, 1) := by decide +kernel
theorem dX5_howMany_22 : decode cX5_howMany 22 = .ok (.if_icmp .ne 6, 3) := by decide +kernel
theorem dX5_howMany_25 : decode cX5_howMany 25 = .ok (.iinc 2 1, 3) := by decide +kernel
theorem dX5_howMany_28 : decode cX5_howMany 28 = .ok (.iinc 3 1, 3) := by decide +kernel
theorem dX5_howMany_31 : decode cX5_howMany 31 = .ok (.goto (-27), 3) := by decide +kernel
theorem dX5_howMany_34 : decode cX5_howMany 34 = .ok (.iload_n 2, 1) := by decide +kernel
theorem dX5_howMany_35 : decode cX5_howMany 35 = .ok (.ireturn, 1) := by decide +kernel
theorem dX5_allHurt_0 : decode cX5_allHurt 0 = .ok (.iconst 0, 1) := by decide +kernel
theorem dX5_allHurt_1 : decode cX5_allHurt 1 = .ok (.istore_n 1, 1) := by decide +kernel
theorem dX5_allHurt_2 : decode cX5_allHurt 2 = .ok (.iconst 0, 1) := by decide +kernel
theorem dX5_allHurt_3 : decode cX5_allHurt 3 = .ok (.istore_n 2, 1) := by decide +kernel
theorem dX5_allHurt_4 : decode cX5_allHurt 4 = .ok (.iload_n 2, 1) := by decide +kernel
theorem dX5_allHurt_5 : decode cX5_allHurt 5 = .ok (.aload_n 0, 1) := by decide +kernel
theorem dX5_allHurt_6 : decode cX5_allHurt 6 = .ok (.getfield 22, 3) := by decide +kernel
theorem dX5_allHurt_9 : decode cX5_allHurt 9 = .ok (.if_icmp .ge 21, 3) := by decide +kernel
theorem dX5_allHurt_12 : decode cX5_allHurt 12 = .ok (.iload_n 1, 1) := by decide +kernel
theorem dX5_allHurt_13 : decode cX5_allHurt 13 = .ok (.aload_n 0, 1) := by decide +kernel
theorem dX5_allHurt_14 : decode cX5_allHurt 14 = .ok (.getfield 11, 3) := by decide +kernel
theorem dX5_allHurt_17 : decode cX5_allHurt 17 = .ok (.iload_n 2, 1) := by decide +kernel
theorem dX5_allHurt_18 : decode cX5_allHurt 18 = .ok (.aaload, 1) := by decide +kernel
theorem dX5_allHurt_19 : decode cX5_allHurt 19 = .ok (.getfield 75, 3) := by decide +kernel
theorem dX5_allHurt_22 : decode cX5_allHurt 22 = .ok (.iadd, 1) := by decide +kernel
theorem dX5_allHurt_23 : decode cX5_allHurt 23 = .ok (.istore_n 1, 1) := by decide +kernel
theorem dX5_allHurt_24 : decode cX5_allHurt 24 = .ok (.iinc 2 1, 3) := by decide +kernel
theorem dX5_allHurt_27 : decode cX5_allHurt 27 = .ok (.goto (-23), 3) := by decide +kernel
theorem dX5_allHurt_30 : decode cX5_allHurt 30 = .ok (.iload_n 1, 1) := by decide +kernel
theorem dX5_allHurt_31 : decode cX5_allHurt 31 = .ok (.ireturn, 1) := by decide +kernel
theorem dX5_isWhole_0 : decode cX5_isWhole 0 = .ok (.iload_n 1, 1) := by decide +kernel
theorem dX5_isWhole_1 : decode cX5_isWhole 1 = .ok (.istore_n 3, 1) := by decide +kernel
theorem dX5_isWhole_2 : decode cX5_isWhole 2 = .ok (.iload_n 3, 1) := by decide +kernel
theorem dX5_isWhole_3 : decode cX5_isWhole 3 = .ok (.iload_n 2, 1) := by decide +kernel
theorem dX5_isWhole_4 : decode cX5_isWhole 4 = .ok (.if_icmp .gt 31, 3) := by decide +kernel
theorem dX5_isWhole_7 : decode cX5_isWhole 7 = .ok (.iload_n 3, 1) := by decide +kernel
theorem dX5_isWhole_8 : decode cX5_isWhole 8 = .ok (.aload_n 0, 1) := by decide +kernel
theorem dX5_isWhole_9 : decode cX5_isWhole 9 = .ok (.getfield 22, 3) := by decide +kernel
theorem dX5_isWhole_12 : decode cX5_isWhole 12 = .ok (.if_icmp .ge 23, 3) := by decide +kernel
theorem dX5_isWhole_15 : decode cX5_isWhole 15 = .ok (.aload_n 0, 1) := by decide +kernel
theorem dX5_isWhole_16 : decode cX5_isWhole 16 = .ok (.getfield 11, 3) := by decide +kernel
theorem dX5_isWhole_19 : decode cX5_isWhole 19 = .ok (.iload_n 3, 1) := by decide +kernel
theorem dX5_isWhole_20 : decode cX5_isWhole 20 = .ok (.aaload, 1) := by decide +kernel
theorem dX5_isWhole_21 : decode cX5_isWhole 21 = .ok (.invokevirtual 78, 3) := by decide +kernel
theorem dX5_isWhole_24 : decode cX5_isWhole 24 = .ok (.ifCond .eq 5, 3) := by decide +kernel
theorem dX5_isWhole_27 : decode cX5_isWhole 27 = .ok (.iconst 0, 1) := by decide +kernel
theorem dX5_isWhole_28 : decode cX5_isWhole 28 = .ok (.ireturn, 1) := by decide +kernel
theorem dX5_isWhole_29 : decode cX5_isWhole 29 = .ok (.iinc 3 1, 3) := by decide +kernel
theorem dX5_isWhole_32 : decode cX5_isWhole 32 = .ok (.goto (-30), 3) := by decide +kernel
theorem dX5_isWhole_35 : decode cX5_isWhole 35 = .ok (.iconst 1, 1) := by decide +kernel
theorem dX5_isWhole_36 : decode cX5_isWhole 36 = .ok (.ireturn, 1) := by decide +kernel
theorem dX5_allDrags_0 : decode cX5_allDrags 0 = .ok (.iconst 0, 1) := by decide +kernel
theorem dX5_allDrags_1 : decode cX5_allDrags 1 = .ok (.istore_n 1, 1) := by decide +kernel
theorem dX5_allDrags_2 : decode cX5_allDrags 2 = .ok (.iconst 0, 1) := by decide +kernel
theorem dX5_allDrags_3 : decode cX5_allDrags 3 = .ok (.istore_n 2, 1) := by decide +kernel
theorem dX5_allDrags_4 : decode cX5_allDrags 4 = .ok (.iload_n 2, 1) := by decide +kernel
theorem dX5_allDrags_5 : decode cX5_allDrags 5 = .ok (.aload_n 0, 1) := by decide +kernel
theorem dX5_allDrags_6 : decode cX5_allDrags 6 = .ok (.getfield 22, 3) := by decide +kernel
theorem dX5_allDrags_9 : decode cX5_allDrags 9 = .ok (.if_icmp .ge 21, 3) := by decide +kernel
theorem dX5_allDrags_12 : decode cX5_allDrags 12 = .ok (.iload_n 1, 1) := by decide +kernel
theorem dX5_allDrags_13 : decode cX5_allDrags 13 = .ok (.aload_n 0, 1) := by decide +kernel
theorem dX5_allDrags_14 : decode cX5_allDrags 14 = .ok (.getfield 11, 3) := by decide +kernel
theorem dX5_allDrags_17 : decode cX5_allDrags 17 = .ok (.iload_n 2, 1) := by decide +kernel
theorem dX5_allDrags_18 : decode cX5_allDrags 18 = .ok (.aaload, 1) := by decide +kernel
theorem dX5_allDrags_19 : decode cX5_allDrags 19 = .ok (.invokevirtual 82, 3) := by decide +kernel
theorem dX5_allDrags_22 : decode cX5_allDrags 22 = .ok (.iadd, 1) := by decide +kernel
theorem dX5_allDrags_23 : decode cX5_allDrags 23 = .ok (.istore_n 1, 1) := by decide +kernel
theorem dX5_allDrags_24 : decode cX5_allDrags 24 = .ok (.iinc 2 1, 3) := by decide +kernel
theorem dX5_allDrags_27 : decode cX5_allDrags 27 = .ok (.goto (-23), 3) := by decide +kernel
theorem dX5_allDrags_30 : decode cX5_allDrags 30 = .ok (.iload_n 1, 1) := by decide +kernel
theorem dX5_allDrags_31 : decode cX5_allDrags 31 = .ok (.ireturn, 1) := by decide +kernel
theorem dX5_isLive_0 : decode cX5_isLive 0 = .ok (.aload_n 0, 1) := by decide +kernel
theorem dX5_isLive_1 : decode cX5_isLive 1 = .ok (.iconst 0, 1) := by decide +kernel
theorem dX5_isLive_2 : decode cX5_isLive 2 = .ok (.aload_n 0, 1) := by decide +kernel
theorem dX5_isLive_3 : decode cX5_isLive 3 = .ok (.getfield 22, 3) := by decide +kernel
theorem dX5_isLive_6 : decode cX5_isLive 6 = .ok (.iconst 1, 1) := by decide +kernel
theorem dX5_isLive_7 : decode cX5_isLive 7 = .ok (.isub, 1) := by decide +kernel
theorem dX5_isLive_8 : decode cX5_isLive 8 = .ok (.invokevirtual 86, 3) := by decide +kernel
theorem dX5_isLive_11 : decode cX5_isLive 11 = .ok (.ifCond .eq 14, 3) := by decide +kernel
theorem dX5_isLive_14 : decode cX5_isLive 14 = .ok (.aload_n 0, 1) := by decide +kernel
theorem dX5_isLive_15 : decode cX5_isLive 15 = .ok (.invokevirtual 89, 3) := by decide +kernel
theorem dX5_isLive_18 : decode cX5_isLive 18 = .ok (.ifCond .le 7, 3) := by decide +kernel
theorem dX5_isLive_21 : decode cX5_isLive 21 = .ok (.iconst 1, 1) := by decide +kernel
theorem dX5_isLive_22 : decode cX5_isLive 22 = .ok (.goto 4, 3) := by decide +kernel
theorem dX5_isLive_25 : decode cX5_isLive 25 = .ok (.iconst 0, 1) := by decide +kernel
theorem dX5_isLive_26 : decode cX5_isLive 26 = .ok (.ireturn, 1) := by decide +kernel
theorem dX5_flowNow_0 : decode cX5_flowNow 0 = .ok (.aload_n 0, 1) := by decide +kernel
theorem dX5_flowNow_1 : decode cX5_flowNow 1 = .ok (.invokevirtual 92, 3) := by decide +kernel
theorem dX5_flowNow_4 : decode cX5_flowNow 4 = .ok (.ifCond .eq 14, 3) := by decide +kernel
theorem dX5_flowNow_7 : decode cX5_flowNow 7 = .ok (.aload_n 0, 1) := by decide +kernel
theorem dX5_flowNow_8 : decode cX5_flowNow 8 = .ok (.aload_n 0, 1) := by decide +kernel
theorem dX5_flowNow_9 : decode cX5_flowNow 9 = .ok (.invokevirtual 89, 3) := by decide +kernel
theorem dX5_flowNow_12 : decode cX5_flowNow 12 = .ok (.invokevirtual 95, 3) := by decide +kernel
theorem dX5_flowNow_15 : decode cX5_flowNow 15 = .ok (.goto 4, 3) := by decide +kernel
theorem dX5_flowNow_18 : decode cX5_flowNow 18 = .ok (.iconst 0, 1) := by decide +kernel
theorem dX5_flowNow_19 : decode cX5_flowNow 19 = .ok (.ireturn, 1) := by decide +kernel
theorem dX5_flowThrough_0 : decode cX5_flowThrough 0 = .ok (.iload_n 1, 1) := by decide +kernel
theorem dX5_flowThrough_1 : decode cX5_flowThrough 1 = .ok (.ifCond .gt 7, 3) := by decide +kernel
theorem dX5_flowThrough_4 : decode cX5_flowThrough 4 = .ok (.iconst 0, 1) := by decide +kernel
theorem dX5_flowThrough_5 : decode cX5_flowThrough 5 = .ok (.goto 20, 3) := by decide +kernel
theorem dX5_flowThrough_8 : decode cX5_flowThrough 8 = .ok (.sipush 9999, 3) := by decide +kernel
theorem dX5_flowThrough_11 : decode cX5_flowThrough 11 = .ok (.bipush 100, 2) := by decide +kernel
theorem dX5_flowThrough_13 : decode cX5_flowThrough 13 = .ok (.aload_n 0, 1) := by decide +kernel
theorem dX5_flowThrough_14 : decode cX5_flowThrough 14 = .ok (.getfield 17, 3) := by decide +kernel
theorem dX5_flowThrough_17 : decode cX5_flowThrough 17 = .ok (.iconst 0, 1) := by decide +kernel
theorem dX5_flowThrough_18 : decode cX5_flowThrough 18 = .ok (.iaload, 1) := by decide +kernel
theorem dX5_flowThrough_19 : decode cX5_flowThrough 19 = .ok (.imul, 1) := by decide +kernel
theorem dX5_flowThrough_20 : decode cX5_flowThrough 20 = .ok (.iload_n 1, 1) := by decide +kernel
theorem dX5_flowThrough_21 : decode cX5_flowThrough 21 = .ok (.idiv, 1) := by decide +kernel
theorem dX5_flowThrough_22 : decode cX5_flowThrough 22 = .ok (.invokestatic 99, 3) := by decide +kernel
theorem dX5_flowThrough_25 : decode cX5_flowThrough 25 = .ok (.ireturn, 1) := by decide +kernel
theorem dX5_allBright_0 : decode cX5_allBright 0 = .ok (.aload_n 0, 1) := by decide +kernel
theorem dX5_allBright_1 : decode cX5_allBright 1 = .ok (.invokevirtual 105, 3) := by decide +kernel
theorem dX5_allBright_4 : decode cX5_allBright 4 = .ok (.istore_n 1, 1) := by decide +kernel
theorem dX5_allBright_5 : decode cX5_allBright 5 = .ok (.iconst 0, 1) := by decide +kernel
theorem dX5_allBright_6 : decode cX5_allBright 6 = .ok (.istore_n 2, 1) := by decide +kernel
theorem dX5_allBright_7 : decode cX5_allBright 7 = .ok (.iconst 0, 1) := by decide +kernel
theorem dX5_allBright_8 : decode cX5_allBright 8 = .ok (.istore_n 3, 1) := by decide +kernel
theorem dX5_allBright_9 : decode cX5_allBright 9 = .ok (.iload_n 3, 1) := by decide +kernel
theorem dX5_allBright_10 : decode cX5_allBright 10 = .ok (.aload_n 0, 1) := by decide +kernel
theorem dX5_allBright_11 : decode cX5_allBright 11 = .ok (.getfield 22, 3) := by decide +kernel
theorem dX5_allBright_14 : decode cX5_allBright 14 = .ok (.if_icmp .ge 22, 3) := by decide +kernel
theorem dX5_allBright_17 : decode cX5_allBright 17 = .ok (.iload_n 2, 1) := by decide +kernel
theorem dX5_allBright_18 : decode cX5_allBright 18 = .ok (.aload_n 0, 1) := by decide +kernel
theorem dX5_allBright_19 : decode cX5_allBright 19 = .ok (.getfield 11, 3) := by decide +kernel
theorem dX5_allBright_22 : decode cX5_allBright 22 = .ok (.iload_n 3, 1) := by decide +kernel
theorem dX5_allBright_23 : decode cX5_allBright 23 = .ok (.aaload, 1) := by decide +kernel
theorem dX5_allBright_24 : decode cX5_allBright 24 = .ok (.iload_n 1, 1) := by decide +kernel
theorem dX5_allBright_25 : decode cX5_allBright 25 = .ok (.invokevirtual 108, 3) := by decide +kernel
theorem dX5_allBright_28 : decode cX5_allBright 28 = .ok (.iadd, 1) := by decide +kernel
theorem dX5_allBright_29 : decode cX5_allBright 29 = .ok (.istore_n 2, 1) := by decide +kernel
theorem dX5_allBright_30 : decode cX5_allBright 30 = .ok (.iinc 3 1, 3) := by decide +kernel
theorem dX5_allBright_33 : decode cX5_allBright 33 = .ok (.goto (-24), 3) := by decide +kernel
theorem dX5_allBright_36 : decode cX5_allBright 36 = .ok (.iload_n 2, 1) := by decide +kernel
theorem dX5_allBright_37 : decode cX5_allBright 37 = .ok (.ireturn, 1) := by decide +kernel
theorem dX5_passHour_0 : decode cX5_passHour 0 = .ok (.aload_n 0, 1) := by decide +kernel
theorem dX5_passHour_1 : decode cX5_passHour 1 = .ok (.invokevirtual 92, 3) := by decide +kernel
theorem dX5_passHour_4 : decode cX5_passHour 4 = .ok (.istore_n 1, 1) := by decide +kernel
theorem dX5_passHour_5 : decode cX5_passHour 5 = .ok (.iload_n 1, 1) := by decide +kernel
theorem dX5_passHour_6 : decode cX5_passHour 6 = .ok (.ifCond .eq 14, 3) := by decide +kernel
theorem dX5_passHour_9 : decode cX5_passHour 9 = .ok (.aload_n 0, 1) := by decide +kernel
theorem dX5_passHour_10 : decode cX5_passHour 10 = .ok (.aload_n 0, 1) := by decide +kernel
theorem dX5_passHour_11 : decode cX5_passHour 11 = .ok (.invokevirtual 89, 3) := by decide +kernel
theorem dX5_passHour_14 : decode cX5_passHour 14 = .ok (.invokevirtual 95, 3) := by decide +kernel
theorem dX5_passHour_17 : decode cX5_passHour 17 = .ok (.goto 4, 3) := by decide +kernel
theorem dX5_passHour_20 : decode cX5_passHour 20 = .ok (.iconst 0, 1) := by decide +kernel
theorem dX5_passHour_21 : decode cX5_passHour 21 = .ok (.istore_n 2, 1) := by decide +kernel
theorem dX5_passHour_22 : decode cX5_passHour 22 = .ok (.iconst 0, 1) := by decide +kernel
theorem dX5_passHour_23 : decode cX5_passHour 23 = .ok (.istore_n 3, 1) := by decide +kernel
theorem dX5_passHour_24 : decode cX5_passHour 24 = .ok (.iconst 0, 1) := by decide +kernel
theorem dX5_passHour_25 : decode cX5_passHour 25 = .ok (.istore 4, 2) := by decide +kernel
theorem dX5_passHour_27 : decode cX5_passHour 27 = .ok (.iload 4, 2) := by decide +kernel
theorem dX5_passHour_29 : decode cX5_passHour 29 = .ok (.aload_n 0, 1) := by decide +kernel
theorem dX5_passHour_30 : decode cX5_passHour 30 = .ok (.getfield 22, 3) := by decide +kernel
theorem dX5_passHour_33 : decode cX5_passHour 33 = .ok (.if_icmp .ge 88, 3) := by decide +kernel
theorem dX5_passHour_36 : decode cX5_passHour 36 = .ok (.aload_n 0, 1) := by decide +kernel
theorem dX5_passHour_37 : decode cX5_passHour 37 = .ok (.getfield 11, 3) := by decide +kernel
theorem dX5_passHour_40 : decode cX5_passHour 40 = .ok (.iload 4, 2) := by decide +kernel
theorem dX5_passHour_42 : decode cX5_passHour 42 = .ok (.aaload, 1) := by decide +kernel
theorem dX5_passHour_43 : decode cX5_passHour 43 = .ok (.astore 5, 2) := by decide +kernel
theorem dX5_passHour_45 : decode cX5_passHour 45 = .ok (.aload 5, 2) := by decide +kernel
theorem dX5_passHour_47 : decode cX5_passHour 47 = .ok (.invokevirtual 111, 3) := by decide +kernel
theorem dX5_passHour_50 : decode cX5_passHour 50 = .ok (.istore 6, 2) := by decide +kernel
theorem dX5_passHour_52 : decode cX5_passHour 52 = .ok (.iload 6, 2) := by decide +kernel
theorem dX5_passHour_54 : decode cX5_passHour 54 = .ok (.ifCond .eq 13, 3) := by decide +kernel
theorem dX5_passHour_57 : decode cX5_passHour 57 = .ok (.iload_n 1, 1) := by decide +kernel
theorem dX5_passHour_58 : decode cX5_passHour 58 = .ok (.ifCond .eq 9, 3) := by decide +kernel
theorem dX5_passHour_61 : decode cX5_passHour 61 = .ok (.aload 5, 2) := by decide +kernel
theorem dX5_passHour_63 : decode cX5_passHour 63 = .ok (.iload_n 2, 1) := by decide +kernel
theorem dX5_passHour_64 : decode cX5_passHour 64 = .ok (.invokevirtual 114, 3) := by decide +kernel
theorem dX5_passHour_67 : decode cX5_passHour 67 = .ok (.aload 5, 2) := by decide +kernel
theorem dX5_passHour_69 : decode cX5_passHour 69 = .ok (.invokevirtual 111, 3) := by decide +kernel
theorem dX5_passHour_72 : decode cX5_passHour 72 = .ok (.ifCond .eq 27, 3) := by decide +kernel
theorem dX5_passHour_75 : decode cX5_passHour 75 = .ok (.aload 5, 2) := by decide +kernel
theorem dX5_passHour_77 : decode cX5_passHour 77 = .ok (.aload_n 0, 1) := by decide +kernel
theorem dX5_passHour_78 : decode cX5_passHour 78 = .ok (.getfield 26, 3) := by decide +kernel
theorem dX5_passHour_81 : decode cX5_passHour 81 = .ok (.aload_n 0, 1) := by decide +kernel
theorem dX5_passHour_82 : decode cX5_passHour 82 = .ok (.getfield 17, 3) := by decide +kernel
theorem dX5_passHour_85 : decode cX5_passHour 85 = .ok (.iconst 3, 1) := by decide +kernel
theorem dX5_passHour_86 : decode cX5_passHour 86 = .ok (.iaload, 1) := by decide +kernel
theorem dX5_passHour_87 : decode cX5_passHour 87 = .ok (.invokevirtual 118, 3) := by decide +kernel
theorem dX5_passHour_90 : decode cX5_passHour 90 = .ok (.ifCond .eq 9, 3) := by decide +kernel
theorem dX5_passHour_93 : decode cX5_passHour 93 = .ok (.aload 5, 2) := by decide +kernel
theorem dX5_passHour_95 : decode cX5_passHour 95 = .ok (.iconst 3, 1) := by decide +kernel
theorem dX5_passHour_96 : decode cX5_passHour 96 = .ok (.putfield 72, 3) := by decide +kernel
theorem dX5_passHour_99 : decode cX5_passHour 99 = .ok (.iload 6, 2) := by decide +kernel
theorem dX5_passHour_101 : decode cX5_passHour 101 = .ok (.ifCond .eq 14, 3) := by decide +kernel
theorem dX5_passHour_104 : decode cX5_passHour 104 = .ok (.aload 5, 2) := by decide +kernel
theorem dX5_passHour_106 : decode cX5_passHour 106 = .ok (.invokevirtual 111, 3) := by decide +kernel
theorem dX5_passHour_109 : decode cX5_passHour 109 = .ok (.ifCond .ne 6, 3) := by decide +kernel
theorem dX5_passHour_112 : decode cX5_passHour 112 = .ok (.iinc 3 1, 3) := by decide +kernel
theorem dX5_passHour_115 : decode cX5_passHour 115 = .ok (.iinc 4 1, 3) := by decide +kernel
theorem dX5_passHour_118 : decode cX5_passHour 118 = .ok (.goto (-91), 3) := by decide +kernel
theorem dX5_passHour_121 : decode cX5_passHour 121 = .ok (.aload_n 0, 1) := by decide +kernel
theorem dX5_passHour_122 : decode cX5_passHour 122 = .ok (.dup, 1) := by decide +kernel
theorem dX5_passHour_123 : decode cX5_passHour 123 = .ok (.getfield 26, 3) := by decide +kernel
theorem dX5_passHour_126 : decode cX5_passHour 126 = .ok (.iconst 1, 1) := by decide +kernel
theorem dX5_passHour_127 : decode cX5_passHour 127 = .ok (.iadd, 1) := by decide +kernel
theorem dX5_passHour_128 : decode cX5_passHour 128 = .ok (.putfield 26, 3) := by decide +kernel
theorem dX5_passHour_131 : decode cX5_passHour 131 = .ok (.iload_n 3, 1) := by decide +kernel
theorem dX5_passHour_132 : decode cX5_passHour 132 = .ok (.ireturn, 1) := by decide +kernel
theorem dX5_touchAt_0 : decode cX5_touchAt 0 = .ok (.aload_n 0, 1) := by decide +kernel
theorem dX5_touchAt_1 : decode cX5_touchAt 1 = .ok (.iload_n 1, 1) := by decide +kernel
theorem dX5_touchAt_2 : decode cX5_touchAt 2 = .ok (.invokevirtual 33, 3) := by decide +kernel
theorem dX5_touchAt_5 : decode cX5_touchAt 5 = .ok (.ifCond .eq 18, 3) := by decide +kernel
theorem dX5_touchAt_8 : decode cX5_touchAt 8 = .ok (.aload_n 0, 1) := by decide +kernel
theorem dX5_touchAt_9 : decode cX5_touchAt 9 = .ok (.getfield 11, 3) := by decide +kernel
theorem dX5_touchAt_12 : decode cX5_touchAt 12 = .ok (.iload_n 1, 1) := by decide +kernel
theorem dX5_touchAt_13 : decode cX5_touchAt 13 = .ok (.aaload, 1) := by decide +kernel
theorem dX5_touchAt_14 : decode cX5_touchAt 14 = .ok (.aload_n 0, 1) := by decide +kernel
theorem dX5_touchAt_15 : decode cX5_touchAt 15 = .ok (.getfield 17, 3) := by decide +kernel
theorem dX5_touchAt_18 : decode cX5_touchAt 18 = .ok (.iconst 3, 1) := by decide +kernel
theorem dX5_touchAt_19 : decode cX5_touchAt 19 = .ok (.iaload, 1) := by decide +kernel
theorem dX5_touchAt_20 : decode cX5_touchAt 20 = .ok (.invokevirtual 121, 3) := by decide +kernel
theorem dX5_touchAt_23 : decode cX5_touchAt 23 = .ok (.return_, 1) := by decide +kernel
theorem dX5_putAllAnew_0 : decode cX5_putAllAnew 0 = .ok (.iconst 0, 1) := by decide +kernel
theorem dX5_putAllAnew_1 : decode cX5_putAllAnew 1 = .ok (.istore_n 1, 1) := by decide +kernel
theorem dX5_putAllAnew_2 : decode cX5_putAllAnew 2 = .ok (.iload_n 1, 1) := by decide +kernel
theorem dX5_putAllAnew_3 : decode cX5_putAllAnew 3 = .ok (.aload_n 0, 1) := by decide +kernel
theorem dX5_putAllAnew_4 : decode cX5_putAllAnew 4 = .ok (.getfield 22, 3) := by decide +kernel
theorem dX5_putAllAnew_7 : decode cX5_putAllAnew 7 = .ok (.if_icmp .ge 18, 3) := by decide +kernel
theorem dX5_putAllAnew_10 : decode cX5_putAllAnew 10 = .ok (.aload_n 0, 1) := by decide +kernel
theorem dX5_putAllAnew_11 : decode cX5_putAllAnew 11 = .ok (.getfield 11, 3) := by decide +kernel
theorem dX5_putAllAnew_14 : decode cX5_putAllAnew 14 = .ok (.iload_n 1, 1) := by decide +kernel
theorem dX5_putAllAnew_15 : decode cX5_putAllAnew 15 = .ok (.aaload, 1) := by decide +kernel
theorem dX5_putAllAnew_16 : decode cX5_putAllAnew 16 = .ok (.invokevirtual 124, 3) := by decide +kernel
theorem dX5_putAllAnew_19 : decode cX5_putAllAnew 19 = .ok (.iinc 1 1, 3) := by decide +kernel
theorem dX5_putAllAnew_22 : decode cX5_putAllAnew 22 = .ok (.goto (-20), 3) := by decide +kernel
theorem dX5_putAllAnew_25 : decode cX5_putAllAnew 25 = .ok (.return_, 1) := by decide +kernel
theorem dX5_mendAll_0 : decode cX5_mendAll 0 = .ok (.iconst 0, 1) := by decide +kernel
theorem dX5_mendAll_1 : decode cX5_mendAll 1 = .ok (.istore_n 1, 1) := by decide +kernel
theorem dX5_mendAll_2 : decode cX5_mendAll 2 = .ok (.iconst 0, 1) := by decide +kernel
theorem dX5_mendAll_3 : decode cX5_mendAll 3 = .ok (.istore_n 2, 1) := by decide +kernel
theorem dX5_mendAll_4 : decode cX5_mendAll 4 = .ok (.iload_n 2, 1) := by decide +kernel
theorem dX5_mendAll_5 : decode cX5_mendAll 5 = .ok (.aload_n 0, 1) := by decide +kernel
theorem dX5_mendAll_6 : decode cX5_mendAll 6 = .ok (.getfield 22, 3) := by decide +kernel
theorem dX5_mendAll_9 : decode cX5_mendAll 9 = .ok (.if_icmp .ge 33, 3) := by decide +kernel
theorem dX5_mendAll_12 : decode cX5_mendAll 12 = .ok (.aload_n 0, 1) := by decide +kernel
theorem dX5_mendAll_13 : decode cX5_mendAll 13 = .ok (.getfield 11, 3) := by decide +kernel
theorem dX5_mendAll_16 : decode cX5_mendAll 16 = .ok (.iload_n 2, 1) := by decide +kernel
theorem dX5_mendAll_17 : decode cX5_mendAll 17 = .ok (.aaload, 1) := by decide +kernel
theorem dX5_mendAll_18 : decode cX5_mendAll 18 = .ok (.invokevirtual 111, 3) := by decide +kernel
theorem dX5_mendAll_21 : decode cX5_mendAll 21 = .ok (.ifCond .ne 15, 3) := by decide +kernel
theorem dX5_mendAll_24 : decode cX5_mendAll 24 = .ok (.aload_n 0, 1) := by decide +kernel
theorem dX5_mendAll_25 : decode cX5_mendAll 25 = .ok (.getfield 11, 3) := by decide +kernel
theorem dX5_mendAll_28 : decode cX5_mendAll 28 = .ok (.iload_n 2, 1) := by decide +kernel
theorem dX5_mendAll_29 : decode cX5_mendAll 29 = .ok (.aaload, 1) := by decide +kernel
theorem dX5_mendAll_30 : decode cX5_mendAll 30 = .ok (.invokevirtual 124, 3) := by decide +kernel
theorem dX5_mendAll_33 : decode cX5_mendAll 33 = .ok (.iinc 1 1, 3) := by decide +kernel
theorem dX5_mendAll_36 : decode cX5_mendAll 36 = .ok (.iinc 2 1, 3) := by decide +kernel
theorem dX5_mendAll_39 : decode cX5_mendAll 39 = .ok (.goto (-35), 3) := by decide +kernel
theorem dX5_mendAll_42 : decode cX5_mendAll 42 = .ok (.iload_n 1, 1) := by decide +kernel
theorem dX5_mendAll_43 : decode cX5_mendAll 43 = .ok (.ireturn, 1) := by decide +kernel
theorem dX5_bridgedAboveLimit_0 : decode cX5_bridgedAboveLimit 0 = .ok (.iconst 0, 1) := by decide +kernel
theorem dX5_bridgedAboveLimit_1 : decode cX5_bridgedAboveLimit 1 = .ok (.istore_n 1, 1) := by decide +kernel
theorem dX5_bridgedAboveLimit_2 : decode cX5_bridgedAboveLimit 2 = .ok (.iload_n 1, 1) := by decide +kernel
theorem dX5_bridgedAboveLimit_3 : decode cX5_bridgedAboveLimit 3 = .ok (.aload_n 0, 1) := by decide +kernel
theorem dX5_bridgedAboveLimit_4 : decode cX5_bridgedAboveLimit 4 = .ok (.getfield 22, 3) := by decide +kernel
theorem dX5_bridgedAboveLimit_7 : decode cX5_bridgedAboveLimit 7 = .ok (.if_icmp .ge 33, 3) := by decide +kernel
theorem dX5_bridgedAboveLimit_10 : decode cX5_bridgedAboveLimit 10 = .ok (.aload_n 0, 1) := by decide +kernel
theorem dX5_bridgedAboveLimit_11 : decode cX5_bridgedAboveLimit 11 = .ok (.bipush 10, 2) := by decide +kernel
theorem dX5_bridgedAboveLimit_13 : decode cX5_bridgedAboveLimit 13 = .ok (.aload_n 0, 1) := by decide +kernel
theorem dX5_bridgedAboveLimit_14 : decode cX5_bridgedAboveLimit 14 = .ok (.getfield 22, 3) := by decide +kernel
theorem dX5_bridgedAboveLimit_17 : decode cX5_bridgedAboveLimit 17 = .ok (.iload_n 1, 1) := by decide +kernel
theorem dX5_bridgedAboveLimit_18 : decode cX5_bridgedAboveLimit 18 = .ok (.isub, 1) := by decide +kernel
theorem dX5_bridgedAboveLimit_19 : decode cX5_bridgedAboveLimit 19 = .ok (.imul, 1) := by decide +kernel
theorem dX5_bridgedAboveLimit_20 : decode cX5_bridgedAboveLimit 20 = .ok (.invokevirtual 95, 3) := by decide +kernel
theorem dX5_bridgedAboveLimit_23 : decode cX5_bridgedAboveLimit 23 = .ok (.aload_n 0, 1) := by decide +kernel
theorem dX5_bridgedAboveLimit_24 : decode cX5_bridgedAboveLimit 24 = .ok (.getfield 17, 3) := by decide +kernel
theorem dX5_bridgedAboveLimit_27 : decode cX5_bridgedAboveLimit 27 = .ok (.iconst 2, 1) := by decide +kernel
theorem dX5_bridgedAboveLimit_28 : decode cX5_bridgedAboveLimit 28 = .ok (.iaload, 1) := by decide +kernel
theorem dX5_bridgedAboveLimit_29 : decode cX5_bridgedAboveLimit 29 = .ok (.if_icmp .le 5, 3) := by decide +kernel
theorem dX5_bridgedAboveLimit_32 : decode cX5_bridgedAboveLimit 32 = .ok (.iload_n 1, 1) := by decide +kernel
theorem dX5_bridgedAboveLimit_33 : decode cX5_bridgedAboveLimit 33 = .ok (.ireturn, 1) := by decide +kernel
theorem dX5_bridgedAboveLimit_34 : decode cX5_bridgedAboveLimit 34 = .ok (.iinc 1 1, 3) := by decide +kernel
theorem dX5_bridgedAboveLimit_37 : decode cX5_bridgedAboveLimit 37 = .ok (.goto (-35), 3) := by decide +kernel
theorem dX5_bridgedAboveLimit_40 : decode cX5_bridgedAboveLimit 40 = .ok (.bipush (-9), 2) := by decide +kernel
theorem dX5_bridgedAboveLimit_42 : decode cX5_bridgedAboveLimit 42 = .ok (.ireturn, 1) := by decide +kernel
theorem dX5_stringsWithinLimit_0 : decode cX5_stringsWithinLimit 0 = .ok (.aload_n 0, 1) := by decide +kernel
theorem dX5_stringsWithinLimit_1 : decode cX5_stringsWithinLimit 1 = .ok (.invokevirtual 92, 3) := by decide +kernel
theorem dX5_stringsWithinLimit_4 : decode cX5_stringsWithinLimit 4 = .ok (.ifCond .eq 24, 3) := by decide +kernel
theorem dX5_stringsWithinLimit_7 : decode cX5_stringsWithinLimit 7 = .ok (.aload_n 0, 1) := by decide +kernel
theorem dX5_stringsWithinLimit_8 : decode cX5_stringsWithinLimit 8 = .ok (.getfield 17, 3) := by decide +kernel
theorem dX5_stringsWithinLimit_11 : decode cX5_stringsWithinLimit 11 = .ok (.iconst 2, 1) := by decide +kernel
theorem dX5_stringsWithinLimit_12 : decode cX5_stringsWithinLimit 12 = .ok (.iaload, 1) := by decide +kernel
theorem dX5_stringsWithinLimit_13 : decode cX5_stringsWithinLimit 13 = .ok (.iconst 1, 1) := by decide +kernel
theorem dX5_stringsWithinLimit_14 : decode cX5_stringsWithinLimit 14 = .ok (.aload_n 0, 1) := by decide +kernel
theorem dX5_stringsWithinLimit_15 : decode cX5_stringsWithinLimit 15 = .ok (.invokevirtual 105, 3) := by decide +kernel
theorem dX5_stringsWithinLimit_18 : decode cX5_stringsWithinLimit 18 = .ok (.bipush 10, 2) := by decide +kernel
theorem dX5_stringsWithinLimit_20 : decode cX5_stringsWithinLimit 20 = .ok (.idiv, 1) := by decide +kernel
theorem dX5_stringsWithinLimit_21 : decode cX5_stringsWithinLimit 21 = .ok (.invokestatic 127, 3) := by decide +kernel
theorem dX5_stringsWithinLimit_24 : decode cX5_stringsWithinLimit 24 = .ok (.idiv, 1) := by decide +kernel
theorem dX5_stringsWithinLimit_25 : decode cX5_stringsWithinLimit 25 = .ok (.goto 4, 3) := by decide +kernel
theorem dX5_stringsWithinLimit_28 : decode cX5_stringsWithinLimit 28 = .ok (.iconst 0, 1) := by decide +kernel
theorem dX5_stringsWithinLimit_29 : decode cX5_stringsWithinLimit 29 = .ok (.ireturn, 1) := by decide +kernel
theorem dX6_init_0 : decode cX6_init 0 = .ok (.aload_n 0, 1) := by decide +kernel
theorem dX6_init_1 : decode cX6_init 1 = .ok (.invokespecial 3, 3) := by decide +kernel
theorem dX6_init_4 : decode cX6_init 4 = .ok (.aload_n 0, 1) := by decide +kernel
theorem dX6_init_5 : decode cX6_init 5 = .ok (.bipush 12, 2) := by decide +kernel
theorem dX6_init_7 : decode cX6_init 7 = .ok (.bipush 12, 2) := by decide +kernel
theorem dX6_init_9 : decode cX6_init 9 = .ok (.multianewarray 9 2, 4) := by decide +kernel
theorem dX6_init_13 : decode cX6_init 13 = .ok (.putfield 11, 3) := by decide +kernel
theorem dX6_init_16 : decode cX6_init 16 = .ok (.return_, 1) := by decide +kernel
theorem dX6_leastCost_0 : decode cX6_leastCost 0 = .ok (.aload_n 1, 1) := by decide +kernel
theorem dX6_leastCost_1 : decode cX6_leastCost 1 = .ok (.iload_n 2, 1) := by decide +kernel
theorem dX6_leastCost_2 : decode cX6_leastCost 2 = .ok (.iload_n 3, 1) := by decide +kernel
theorem dX6_leastCost_3 : decode cX6_leastCost 3 = .ok (.invokevirtual 16, 3) := by decide +kernel
theorem dX6_leastCost_6 : decode cX6_leastCost 6 = .ok (.ifCond .ne 5, 3) := by decide +kernel
theorem dX6_leastCost_9 : decode cX6_leastCost 9 = .ok (.iconst 0, 1) := by decide +kernel
theorem dX6_leastCost_10 : decode cX6_leastCost 10 = .ok (.ireturn, 1) := by decide +kernel
theorem dX6_leastCost_11 : decode cX6_leastCost 11 = .ok (.aload_n 0, 1) := by decide +kernel
theorem dX6_leastCost_12 : decode cX6_leastCost 12 = .ok (.aload_n 1, 1) := by decide +kernel
theorem dX6_leastCost_13 : decode cX6_leastCost 13 = .ok (.iload_n 2, 1) := by decide +kernel
theorem dX6_leastCost_14 : decode cX6_leastCost 14 = .ok (.iload_n 3, 1) := by decide +kernel
theorem dX6_leastCost_15 : decode cX6_leastCost 15 = .ok (.iload 4, 2) := by decide +kernel
theorem dX6_leastCost_17 : decode cX6_leastCost 17 = .ok (.invokevirtual 22, 3) := by decide +kernel
theorem dX6_leastCost_20 : decode cX6_leastCost 20 = .ok (.aload_n 0, 1) := by decide +kernel
theorem dX6_leastCost_21 : decode cX6_leastCost 21 = .ok (.getfield 11, 3) := by decide +kernel
theorem dX6_leastCost_24 : decode cX6_leastCost 24 = .ok (.iload_n 2, 1) := by decide +kernel
theorem dX6_leastCost_25 : decode cX6_leastCost 25 = .ok (.aaload, 1) := by decide +kernel
theorem dX6_leastCost_26 : decode cX6_leastCost 26 = .ok (.iload_n 3, 1) := by decide +kernel
theorem dX6_leastCost_27 : decode cX6_leastCost 27 = .ok (.iaload, 1) := by decide +kernel
theorem dX6_leastCost_28 : decode cX6_leastCost 28 = .ok (.ireturn, 1) := by decide +kernel
theorem dX6_bestPlace_0 : decode cX6_bestPlace 0 = .ok (.aload_n 0, 1) := by decide +kernel
theorem dX6_bestPlace_1 : decode cX6_bestPlace 1 = .ok (.aload_n 1, 1) := by decide +kernel
theorem dX6_bestPlace_2 : decode cX6_bestPlace 2 = .ok (.iload_n 2, 1) := by decide +kernel
theorem dX6_bestPlace_3 : decode cX6_bestPlace 3 = .ok (.iload_n 3, 1) := by decide +kernel
theorem dX6_bestPlace_4 : decode cX6_bestPlace 4 = .ok (.iload 4, 2) := by decide +kernel
theorem dX6_bestPlace_6 : decode cX6_bestPlace 6 = .ok (.invokevirtual 26, 3) := by decide +kernel
theorem dX6_bestPlace_9 : decode cX6_bestPlace 9 = .ok (.istore 5, 2) := by decide +kernel
theorem dX6_bestPlace_11 : decode cX6_bestPlace 11 = .ok (.aload_n 1, 1) := by decide +kernel
theorem dX6_bestPlace_12 : decode cX6_bestPlace 12 = .ok (.iload_n 2, 1) := by decide +kernel
theorem dX6_bestPlace_13 : decode cX6_bestPlace 13 = .ok (.iload_n 3, 1) := by decide +kernel
theorem dX6_bestPlace_14 : decode cX6_bestPlace 14 = .ok (.invokestatic 30, 3) := by decide +kernel
theorem dX6_bestPlace_17 : decode cX6_bestPlace 17 = .ok (.istore 6, 2) := by decide +kernel
theorem dX6_bestPlace_19 : decode cX6_bestPlace 19 = .ok (.iload_n 2, 1) := by decide +kernel
theorem dX6_bestPlace_20 : decode cX6_bestPlace 20 = .ok (.iconst 1, 1) := by decide +kernel
theorem dX6_bestPlace_21 : decode cX6_bestPlace 21 = .ok (.iadd, 1) := by decide +kernel
theorem dX6_bestPlace_22 : decode cX6_bestPlace 22 = .ok (.istore 7, 2) := by decide +kernel
theorem dX6_bestPlace_24 : decode cX6_bestPlace 24 = .ok (.iload 7, 2) := by decide +kernel
theorem dX6_bestPlace_26 : decode cX6_bestPlace 26 = .ok (.iload_n 3, 1) := by decide +kernel
theorem dX6_bestPlace_27 : decode cX6_bestPlace 27 = .ok (.if_icmp .gt 30, 3) := by decide +kernel
theorem dX6_bestPlace_30 : decode cX6_bestPlace 30 = .ok (.aload_n 0, 1) := by decide +kernel
theorem dX6_bestPlace_31 : decode cX6_bestPlace 31 = .ok (.aload_n 1, 1) := by decide +kernel
theorem dX6_bestPlace_32 : decode cX6_bestPlace 32 = .ok (.iload_n 2, 1) := by decide +kernel
theorem dX6_bestPlace_33 : decode cX6_bestPlace 33 = .ok (.iload_n 3, 1) := by decide +kernel
theorem dX6_bestPlace_34 : decode cX6_bestPlace 34 = .ok (.iload 7, 2) := by decide +kernel
theorem dX6_bestPlace_36 : decode cX6_bestPlace 36 = .ok (.iload 6, 2) := by decide +kernel
theorem dX6_bestPlace_38 : decode cX6_bestPlace 38 = .ok (.iload 4, 2) := by decide +kernel
theorem dX6_bestPlace_40 : decode cX6_bestPlace 40 = .ok (.invokevirtual 34, 3) := by decide +kernel
theorem dX6_bestPlace_43 : decode cX6_bestPlace 43 = .ok (.iload 5, 2) := by decide +kernel
theorem dX6_bestPlace_45 : decode cX6_bestPlace 45 = .ok (.if_icmp .ne 6, 3) := by decide +kernel
theorem dX6_bestPlace_48 : decode cX6_bestPlace 48 = .ok (.iload 7, 2) := by decide +kernel
theorem dX6_bestPlace_50 : decode cX6_bestPlace 50 = .ok (.ireturn, 1) := by decide +kernel
theorem dX6_bestPlace_51 : decode cX6_bestPlace 51 = .ok (.iinc 7 1, 3) := by decide +kernel
theorem dX6_bestPlace_54 : decode cX6_bestPlace 54 = .ok (.goto (-30), 3) := by decide +kernel
theorem dX6_bestPlace_57 : decode cX6_bestPlace 57 = .ok (.bipush (-9), 2) := by decide +kernel
theorem dX6_bestPlace_59 : decode cX6_bestPlace 59 = .ok (.ireturn, 1) := by decide +kernel
theorem dX6_fill_0 : decode cX6_fill 0 = .ok (.iload_n 2, 1) := by decide +kernel
theorem dX6_fill_1 : decode cX6_fill 1 = .ok (.istore 5, 2) := by decide +kernel
theorem dX6_fill_3 : decode cX6_fill 3 = .ok (.iload 5, 2) := by decide +kernel
theorem dX6_fill_5 : decode cX6_fill 5 = .ok (.iload_n 3, 1) := by decide +kernel
theorem dX6_fill_6 : decode cX6_fill 6 = .ok (.if_icmp .gt 20, 3) := by decide +kernel
theorem dX6_fill_9 : decode cX6_fill 9 = .ok (.aload_n 0, 1) := by decide +kernel
theorem dX6_fill_10 : decode cX6_fill 10 = .ok (.getfield 11, 3) := by decide +kernel
theorem dX6_fill_13 : decode cX6_fill 13 = .ok (.iload 5, 2) := by decide +kernel
theorem dX6_fill_15 : decode cX6_fill 15 = .ok (.aaload, 1) := by decide +kernel
theorem dX6_fill_16 : decode cX6_fill 16 = .ok (.iload 5, 2) := by decide +kernel
theorem dX6_fill_18 : decode cX6_fill 18 = .ok (.iconst 0, 1) := by decide +kernel
theorem dX6_fill_19 : decode cX6_fill 19 = .ok (.iastore, 1) := by decide +kernel
theorem dX6_fill_20 : decode cX6_fill 20 = .ok (.iinc 5 1, 3) := by decide +kernel
theorem dX6_fill_23 : decode cX6_fill 23 = .ok (.goto (-20), 3) := by decide +kernel
theorem dX6_fill_26 : decode cX6_fill 26 = .ok (.iconst 1, 1) := by decide +kernel
theorem dX6_fill_27 : decode cX6_fill 27 = .ok (.istore 5, 2) := by decide +kernel
theorem dX6_fill_29 : decode cX6_fill 29 = .ok (.iload 5, 2) := by decide +kernel
theorem dX6_fill_31 : decode cX6_fill 31 = .ok (.iload_n 3, 1) := by decide +kernel
theorem dX6_fill_32 : decode cX6_fill 32 = .ok (.iload_n 2, 1) := by decide +kernel
theorem dX6_fill_33 : decode cX6_fill 33 = .ok (.isub, 1) := by decide +kernel
theorem dX6_fill_34 : decode cX6_fill 34 = .ok (.if_icmp .gt 54, 3) := by decide +kernel
theorem dX6_fill_37 : decode cX6_fill 37 = .ok (.iload_n 2, 1) := by decide +kernel
theorem dX6_fill_38 : decode cX6_fill 38 = .ok (.istore 6, 2) := by decide +kernel
theorem dX6_fill_40 : decode cX6_fill 40 = .ok (.iload 6, 2) := by decide +kernel
theorem dX6_fill_42 : decode cX6_fill 42 = .ok (.iload 5, 2) := by decide +kernel
theorem dX6_fill_44 : decode cX6_fill 44 = .ok (.iadd, 1) := by decide +kernel
theorem dX6_fill_45 : decode cX6_fill 45 = .ok (.iload_n 3, 1) := by decide +kernel
theorem dX6_fill_46 : decode cX6_fill 46 = .ok (.if_icmp .gt 36, 3) := by decide +kernel
theorem dX6_fill_49 : decode cX6_fill 49 = .ok (.aload_n 0, 1) := by decide +kernel
theorem dX6_fill_50 : decode cX6_fill 50 = .ok (.getfield 11, 3) := by decide +kernel
theorem dX6_fill_53 : decode cX6_fill 53 = .ok (.iload 6, 2) := by decide +kernel
theorem dX6_fill_55 : decode cX6_fill 55 = .ok (.aaload, 1) := by decide +kernel
theorem dX6_fill_56 : decode cX6_fill 56 = .ok (.iload 6, 2) := by decide +kernel
theorem dX6_fill_58 : decode cX6_fill 58 = .ok (.iload 5, 2) := by decide +kernel
theorem dX6_fill_60 : decode cX6_fill 60 = .ok (.iadd, 1) := by decide +kernel
theorem dX6_fill_61 : decode cX6_fill 61 = .ok (.aload_n 0, 1) := by decide +kernel
theorem dX6_fill_62 : decode cX6_fill 62 = .ok (.aload_n 1, 1) := by decide +kernel
theorem dX6_fill_63 : decode cX6_fill 63 = .ok (.iload 6, 2) := by decide +kernel
theorem dX6_fill_65 : decode cX6_fill 65 = .ok (.iload 6, 2) := by decide +kernel
theorem dX6_fill_67 : decode cX6_fill 67 = .ok (.iload 5, 2) := by decide +kernel
theorem dX6_fill_69 : decode cX6_fill 69 = .ok (.iadd, 1) := by decide +kernel
theorem dX6_fill_70 : decode cX6_fill 70 = .ok (.iload 4, 2) := by decide +kernel
theorem dX6_fill_72 : decode cX6_fill 72 = .ok (.invokevirtual 38, 3) := by decide +kernel
theorem dX6_fill_75 : decode cX6_fill 75 = .ok (.iastore, 1) := by decide +kernel
theorem dX6_fill_76 : decode cX6_fill 76 = .ok (.iinc 6 1, 3) := by decide +kernel
theorem dX6_fill_79 : decode cX6_fill 79 = .ok (.goto (-39), 3) := by decide +kernel
theorem dX6_fill_82 : decode cX6_fill 82 = .ok (.iinc 5 1, 3) := by decide +kernel
theorem dX6_fill_85 : decode cX6_fill 85 = .ok (.goto (-56), 3) := by decide +kernel
theorem dX6_fill_88 : decode cX6_fill 88 = .ok (.return_, 1) := by decide +kernel
theorem dX6_leastOf_0 : decode cX6_leastOf 0 = .ok (.aload_n 1, 1) := by decide +kernel
theorem dX6_leastOf_1 : decode cX6_leastOf 1 = .ok (.iload_n 2, 1) := by decide +kernel
theorem dX6_leastOf_2 : decode cX6_leastOf 2 = .ok (.iload_n 3, 1) := by decide +kernel
theorem dX6_leastOf_3 : decode cX6_leastOf 3 = .ok (.invokestatic 30, 3) := by decide +kernel
theorem dX6_leastOf_6 : decode cX6_leastOf 6 = .ok (.istore 5, 2) := by decide +kernel
theorem dX6_leastOf_8 : decode cX6_leastOf 8 = .ok (.aload_n 0, 1) := by decide +kernel
theorem dX6_leastOf_9 : decode cX6_leastOf 9 = .ok (.aload_n 1, 1) := by decide +kernel
theorem dX6_leastOf_10 : decode cX6_leastOf 10 = .ok (.iload_n 2, 1) := by decide +kernel
theorem dX6_leastOf_11 : decode cX6_leastOf 11 = .ok (.iload_n 3, 1) := by decide +kernel
theorem dX6_leastOf_12 : decode cX6_leastOf 12 = .ok (.iload_n 2, 1) := by decide +kernel
theorem dX6_leastOf_13 : decode cX6_leastOf 13 = .ok (.iconst 1, 1) := by decide +kernel
theorem dX6_leastOf_14 : decode cX6_leastOf 14 = .ok (.iadd, 1) := by decide +kernel
theorem dX6_leastOf_15 : decode cX6_leastOf 15 = .ok (.iload 5, 2) := by decide +kernel
theorem dX6_leastOf_17 : decode cX6_leastOf 17 = .ok (.iload 4, 2) := by decide +kernel
theorem dX6_leastOf_19 : decode cX6_leastOf 19 = .ok (.invokevirtual 34, 3) := by decide +kernel
theorem dX6_leastOf_22 : decode cX6_leastOf 22 = .ok (.istore 6, 2) := by decide +kernel
theorem dX6_leastOf_24 : decode cX6_leastOf 24 = .ok (.iload_n 2, 1) := by decide +kernel
theorem dX6_leastOf_25 : decode cX6_leastOf 25 = .ok (.iconst 2, 1) := by decide +kernel
theorem dX6_leastOf_26 : decode cX6_leastOf 26 = .ok (.iadd, 1) := by decide +kernel
theorem dX6_leastOf_27 : decode cX6_leastOf 27 = .ok (.istore 7, 2) := by decide +kernel
theorem dX6_leastOf_29 : decode cX6_leastOf 29 = .ok (.iload 7, 2) := by decide +kernel
theorem dX6_leastOf_31 : decode cX6_leastOf 31 = .ok (.iload_n 3, 1) := by decide +kernel
theorem dX6_leastOf_32 : decode cX6_leastOf 32 = .ok (.if_icmp .gt 29, 3) := by decide +kernel
theorem dX6_leastOf_35 : decode cX6_leastOf 35 = .ok (.iload 6, 2) := by decide +kernel
theorem dX6_leastOf_37 : decode cX6_leastOf 37 = .ok (.aload_n 0, 1) := by decide +kernel
theorem dX6_leastOf_38 : decode cX6_leastOf 38 = .ok (.aload_n 1, 1) := by decide +kernel
theorem dX6_leastOf_39 : decode cX6_leastOf 39 = .ok (.iload_n 2, 1) := by decide +kernel
theorem dX6_leastOf_40 : decode cX6_leastOf 40 = .ok (.iload_n 3, 1) := by decide +kernel
theorem dX6_leastOf_41 : decode cX6_leastOf 41 = .ok (.iload 7, 2) := by decide +kernel
theorem dX6_leastOf_43 : decode cX6_leastOf 43 = .ok (.iload 5, 2) := by decide +kernel
theorem dX6_leastOf_45 : decode cX6_leastOf 45 = .ok (.iload 4, 2) := by decide +kernel
theorem dX6_leastOf_47 : decode cX6_leastOf 47 = .ok (.invokevirtual 34, 3) := by decide +kernel
theorem dX6_leastOf_50 : decode cX6_leastOf 50 = .ok (.invokestatic 41, 3) := by decide +kernel
theorem dX6_leastOf_53 : decode cX6_leastOf 53 = .ok (.istore 6, 2) := by decide +kernel
theorem dX6_leastOf_55 : decode cX6_leastOf 55 = .ok (.iinc 7 1, 3) := by decide +kernel
theorem dX6_leastOf_58 : decode cX6_leastOf 58 = .ok (.goto (-29), 3) := by decide +kernel
theorem dX6_leastOf_61 : decode cX6_leastOf 61 = .ok (.iload 6, 2) := by decide +kernel
theorem dX6_leastOf_63 : decode cX6_leastOf 63 = .ok (.ireturn, 1) := by decide +kernel
theorem dX6_costOf_0 : decode cX6_costOf 0 = .ok (.aload_n 1, 1) := by decide +kernel
theorem dX6_costOf_1 : decode cX6_costOf 1 = .ok (.getfield 47, 3) := by decide +kernel
theorem dX6_costOf_4 : decode cX6_costOf 4 = .ok (.iload 4, 2) := by decide +kernel
theorem dX6_costOf_6 : decode cX6_costOf 6 = .ok (.aaload, 1) := by decide +kernel
theorem dX6_costOf_7 : decode cX6_costOf 7 = .ok (.getfield 51, 3) := by decide +kernel
theorem dX6_costOf_10 : decode cX6_costOf 10 = .ok (.istore 7, 2) := by decide +kernel
theorem dX6_costOf_12 : decode cX6_costOf 12 = .ok (.aload_n 0, 1) := by decide +kernel
theorem dX6_costOf_13 : decode cX6_costOf 13 = .ok (.getfield 11, 3) := by decide +kernel
theorem dX6_costOf_16 : decode cX6_costOf 16 = .ok (.iload_n 2, 1) := by decide +kernel
theorem dX6_costOf_17 : decode cX6_costOf 17 = .ok (.aaload, 1) := by decide +kernel
theorem dX6_costOf_18 : decode cX6_costOf 18 = .ok (.iload 4, 2) := by decide +kernel
theorem dX6_costOf_20 : decode cX6_costOf 20 = .ok (.iconst 1, 1) := by decide +kernel
theorem dX6_costOf_21 : decode cX6_costOf 21 = .ok (.isub, 1) := by decide +kernel
theorem dX6_costOf_22 : decode cX6_costOf 22 = .ok (.iaload, 1) := by decide +kernel
theorem dX6_costOf_23 : decode cX6_costOf 23 = .ok (.istore 8, 2) := by decide +kernel
theorem dX6_costOf_25 : decode cX6_costOf 25 = .ok (.aload_n 0, 1) := by decide +kernel
theorem dX6_costOf_26 : decode cX6_costOf 26 = .ok (.getfield 11, 3) := by decide +kernel
theorem dX6_costOf_29 : decode cX6_costOf 29 = .ok (.iload 4, 2) := by decide +kernel
theorem dX6_costOf_31 : decode cX6_costOf 31 = .ok (.aaload, 1) := by decide +kernel
theorem dX6_costOf_32 : decode cX6_costOf 32 = .ok (.iload_n 3, 1) := by decide +kernel
theorem dX6_costOf_33 : decode cX6_costOf 33 = .ok (.iaload, 1) := by decide +kernel
theorem dX6_costOf_34 : decode cX6_costOf 34 = .ok (.istore 9, 2) := by decide +kernel
theorem dX6_costOf_36 : decode cX6_costOf 36 = .ok (.iload 6, 2) := by decide +kernel
theorem dX6_costOf_38 : decode cX6_costOf 38 = .ok (.ifCond .ne 15, 3) := by decide +kernel
theorem dX6_costOf_41 : decode cX6_costOf 41 = .ok (.iload 7, 2) := by decide +kernel
theorem dX6_costOf_43 : decode cX6_costOf 43 = .ok (.iload 5, 2) := by decide +kernel
theorem dX6_costOf_45 : decode cX6_costOf 45 = .ok (.imul, 1) := by decide +kernel
theorem dX6_costOf_46 : decode cX6_costOf 46 = .ok (.iload 8, 2) := by decide +kernel
theorem dX6_costOf_48 : decode cX6_costOf 48 = .ok (.iadd, 1) := by decide +kernel
theorem dX6_costOf_49 : decode cX6_costOf 49 = .ok (.iload 9, 2) := by decide +kernel
theorem dX6_costOf_51 : decode cX6_costOf 51 = .ok (.iadd, 1) := by decide +kernel
theorem dX6_costOf_52 : decode cX6_costOf 52 = .ok (.ireturn, 1) := by decide +kernel
theorem dX6_costOf_53 : decode cX6_costOf 53 = .ok (.iload 7, 2) := by decide +kernel
theorem dX6_costOf_55 : decode cX6_costOf 55 = .ok (.iload 8, 2) := by decide +kernel
theorem dX6_costOf_57 : decode cX6_costOf 57 = .ok (.iload 9, 2) := by decide +kernel
theorem dX6_costOf_59 : decode cX6_costOf 59 = .ok (.invokestatic 57, 3) := by decide +kernel
theorem dX6_costOf_62 : decode cX6_costOf 62 = .ok (.iadd, 1) := by decide +kernel
theorem dX6_costOf_63 : decode cX6_costOf 63 = .ok (.ireturn, 1) := by decide +kernel
theorem dX6_weightOf_0 : decode cX6_weightOf 0 = .ok (.iconst 0, 1) := by decide +kernel
theorem dX6_weightOf_1 : decode cX6_weightOf 1 = .ok (.istore_n 3, 1) := by decide +kernel
theorem dX6_weightOf_2 : decode cX6_weightOf 2 = .ok (.iload_n 1, 1) := by decide +kernel
theorem dX6_weightOf_3 : decode cX6_weightOf 3 = .ok (.istore 4, 2) := by decide +kernel
theorem dX6_weightOf_5 : decode cX6_weightOf 5 = .ok (.iload 4, 2) := by decide +kernel
theorem dX6_weightOf_7 : decode cX6_weightOf 7 = .ok (.iload_n 2, 1) := by decide +kernel
theorem dX6_weightOf_8 : decode cX6_weightOf 8 = .ok (.if_icmp .gt 22, 3) := by decide +kernel
theorem dX6_weightOf_11 : decode cX6_weightOf 11 = .ok (.iload_n 3, 1) := by decide +kernel
theorem dX6_weightOf_12 : decode cX6_weightOf 12 = .ok (.aload_n 0, 1) := by decide +kernel
theorem dX6_weightOf_13 : decode cX6_weightOf 13 = .ok (.getfield 47, 3) := by decide +kernel
theorem dX6_weightOf_16 : decode cX6_weightOf 16 = .ok (.iload 4, 2) := by decide +kernel
theorem dX6_weightOf_18 : decode cX6_weightOf 18 = .ok (.aaload, 1) := by decide +kernel
theorem dX6_weightOf_19 : decode cX6_weightOf 19 = .ok (.invokevirtual 60, 3) := by decide +kernel
theorem dX6_weightOf_22 : decode cX6_weightOf 22 = .ok (.iadd, 1) := by decide +kernel
theorem dX6_weightOf_23 : decode cX6_weightOf 23 = .ok (.istore_n 3, 1) := by decide +kernel
theorem dX6_weightOf_24 : decode cX6_weightOf 24 = .ok (.iinc 4 1, 3) := by decide +kernel
theorem dX6_weightOf_27 : decode cX6_weightOf 27 = .ok (.goto (-22), 3) := by decide +kernel
theorem dX6_weightOf_30 : decode cX6_weightOf 30 = .ok (.iload_n 3, 1) := by decide +kernel
theorem dX6_weightOf_31 : decode cX6_weightOf 31 = .ok (.ireturn, 1) := by decide +kernel
theorem dX7_init_0 : decode cX7_init 0 = .ok (.aload_n 0, 1) := by decide +kernel
theorem dX7_init_1 : decode cX7_init 1 = .ok (.invokespecial 1, 3) := by decide +kernel
theorem dX7_init_4 : decode cX7_init 4 = .ok (.return_, 1) := by decide +kernel
theorem dX7_read_0 : decode cX7_read 0 = .ok (.aload_n 0, 1) := by decide +kernel
theorem dX7_read_1 : decode cX7_read 1 = .ok (.iload_n 2, 1) := by decide +kernel
theorem dX7_read_2 : decode cX7_read 2 = .ok (.putfield 7, 3) := by decide +kernel
theorem dX7_read_5 : decode cX7_read 5 = .ok (.aload_n 0, 1) := by decide +kernel
theorem dX7_read_6 : decode cX7_read 6 = .ok (.iconst 1, 1) := by decide +kernel
theorem dX7_read_7 : decode cX7_read 7 = .ok (.putfield 13, 3) := by decide +kernel
theorem dX7_read_10 : decode cX7_read 10 = .ok (.aload_n 0, 1) := by decide +kernel
theorem dX7_read_11 : decode cX7_read 11 = .ok (.aload_n 1, 1) := by decide +kernel
theorem dX7_read_12 : decode cX7_read 12 = .ok (.iload_n 2, 1) := by decide +kernel
theorem dX7_read_13 : decode cX7_read 13 = .ok (.invokevirtual 17, 3) := by decide +kernel
theorem dX7_read_16 : decode cX7_read 16 = .ok (.putfield 23, 3) := by decide +kernel
theorem dX7_read_19 : decode cX7_read 19 = .ok (.aload_n 0, 1) := by decide +kernel
theorem dX7_read_20 : decode cX7_read 20 = .ok (.getfield 23, 3) := by decide +kernel
theorem dX7_read_23 : decode cX7_read 23 = .ok (.lookupswitch 177 #[(100, 114), (103, 154), (112, 41), (117, 91)], 41) := by decide +kernel
theorem dX7_read_64 : decode cX7_read 64 = .ok (.aload_n 0, 1) := by decide +kernel
theorem dX7_read_65 : decode cX7_read 65 = .ok (.dup, 1) := by decide +kernel
theorem dX7_read_66 : decode cX7_read 66 = .ok (.getfield 7, 3) := by decide +kernel
theorem dX7_read_69 : decode cX7_read 69 = .ok (.iconst 1, 1) := by decide +kernel
theorem dX7_read_70 : decode cX7_read 70 = .ok (.iadd, 1) := by decide +kernel
theorem dX7_read_71 : decode cX7_read 71 = .ok (.putfield 7, 3) := by decide +kernel
theorem dX7_read_74 : decode cX7_read 74 = .ok (.aload_n 0, 1) := by decide +kernel
theorem dX7_read_75 : decode cX7_read 75 = .ok (.aload_n 0, 1) := by decide +kernel
theorem dX7_read_76 : decode cX7_read 76 = .ok (.aload_n 1, 1) := by decide +kernel
theorem dX7_read_77 : decode cX7_read 77 = .ok (.iconst 1, 1) := by decide +kernel
theorem dX7_read_78 : decode cX7_read 78 = .ok (.invokevirtual 26, 3) := by decide +kernel
theorem dX7_read_81 : decode cX7_read 81 = .ok (.putfield 30, 3) := by decide +kernel
theorem dX7_read_84 : decode cX7_read 84 = .ok (.aload_n 0, 1) := by decide +kernel
theorem dX7_read_85 : decode cX7_read 85 = .ok (.aload_n 0, 1) := by decide +kernel
theorem dX7_read_86 : decode cX7_read 86 = .ok (.aload_n 1, 1) := by decide +kernel
theorem dX7_read_87 : decode cX7_read 87 = .ok (.iconst 2, 1) := by decide +kernel
theorem dX7_read_88 : decode cX7_read 88 = .ok (.invokevirtual 26, 3) := by decide +kernel
theorem dX7_read_91 : decode cX7_read 91 = .ok (.putfield 33, 3) := by decide +kernel
theorem dX7_read_94 : decode cX7_read 94 = .ok (.aload_n 0, 1) := by decide +kernel
theorem dX7_read_95 : decode cX7_read 95 = .ok (.aload_n 1, 1) := by decide +kernel
theorem dX7_read_96 : decode cX7_read 96 = .ok (.bipush 44, 2) := by decide +kernel
theorem dX7_read_98 : decode cX7_read 98 = .ok (.invokevirtual 36, 3) := by decide +kernel
theorem dX7_read_101 : decode cX7_read 101 = .ok (.aload_n 0, 1) := by decide +kernel
theorem dX7_read_102 : decode cX7_read 102 = .ok (.aload_n 0, 1) := by decide +kernel
theorem dX7_read_103 : decode cX7_read 103 = .ok (.aload_n 1, 1) := by decide +kernel
theorem dX7_read_104 : decode cX7_read 104 = .ok (.iconst 1, 1) := by decide +kernel
theorem dX7_read_105 : decode cX7_read 105 = .ok (.invokevirtual 26, 3) := by decide +kernel
theorem dX7_read_108 : decode cX7_read 108 = .ok (.putfield 40, 3) := by decide +kernel
theorem dX7_read_111 : decode cX7_read 111 = .ok (.goto 94, 3) := by decide +kernel
theorem dX7_read_114 : decode cX7_read 114 = .ok (.aload_n 0, 1) := by decide +kernel
theorem dX7_read_115 : decode cX7_read 115 = .ok (.dup, 1) := by decide +kernel
theorem dX7_read_116 : decode cX7_read 116 = .ok (.getfield 7, 3) := by decide +kernel
theorem dX7_read_119 : decode cX7_read 119 = .ok (.iconst 1, 1) := by decide +kernel
theorem dX7_read_120 : decode cX7_read 120 = .ok (.iadd, 1) := by decide +kernel
theorem dX7_read_121 : decode cX7_read 121 = .ok (.putfield 7, 3) := by decide +kernel
theorem dX7_read_124 : decode cX7_read 124 = .ok (.aload_n 0, 1) := by decide +kernel
theorem dX7_read_125 : decode cX7_read 125 = .ok (.aload_n 0, 1) := by decide +kernel
theorem dX7_read_126 : decode cX7_read 126 = .ok (.aload_n 1, 1) := by decide +kernel
theorem dX7_read_127 : decode cX7_read 127 = .ok (.iconst 3, 1) := by decide +kernel
theorem dX7_read_128 : decode cX7_read 128 = .ok (.invokevirtual 26, 3) := by decide +kernel
theorem dX7_read_131 : decode cX7_read 131 = .ok (.putfield 30, 3) := by decide +kernel
theorem dX7_read_134 : decode cX7_read 134 = .ok (.goto 71, 3) := by decide +kernel
theorem dX7_read_137 : decode cX7_read 137 = .ok (.aload_n 0, 1) := by decide +kernel
theorem dX7_read_138 : decode cX7_read 138 = .ok (.dup, 1) := by decide +kernel
theorem dX7_read_139 : decode cX7_read 139 = .ok (.getfield 7, 3) := by decide +kernel
theorem dX7_read_142 : decode cX7_read 142 = .ok (.iconst 1, 1) := by decide +kernel
theorem dX7_read_143 : decode cX7_read 143 = .ok (.iadd, 1) := by decide +kernel
theorem dX7_read_144 : decode cX7_read 144 = .ok (.putfield 7, 3) := by decide +kernel
theorem dX7_read_147 : decode cX7_read 147 = .ok (.aload_n 0, 1) := by decide +kernel
theorem dX7_read_148 : decode cX7_read 148 = .ok (.aload_n 0, 1) := by decide +kernel
theorem dX7_read_149 : decode cX7_read 149 = .ok (.aload_n 1, 1) := by decide +kernel
theorem dX7_read_150 : decode cX7_read 150 = .ok (.iconst 2, 1) := by decide +kernel
theorem dX7_read_151 : decode cX7_read 151 = .ok (.invokevirtual 26, 3) := by decide +kernel
theorem dX7_read_154 : decode cX7_read 154 = .ok (.putfield 30, 3) := by decide +kernel
theorem dX7_read_157 : decode cX7_read 157 = .ok (.aload_n 0, 1) := by decide +kernel
theorem dX7_read_158 : decode cX7_read 158 = .ok (.aload_n 1, 1) := by decide +kernel
theorem dX7_read_159 : decode cX7_read 159 = .ok (.bipush 44, 2) := by decide +kernel
theorem dX7_read_161 : decode cX7_read 161 = .ok (.invokevirtual 36, 3) := by decide +kernel
theorem dX7_read_164 : decode cX7_read 164 = .ok (.aload_n 0, 1) := by decide +kernel
theorem dX7_read_165 : decode cX7_read 165 = .ok (.aload_n 0, 1) := by decide +kernel
theorem dX7_read_166 : decode cX7_read 166 = .ok (.aload_n 1, 1) := by decide +kernel
theorem dX7_read_167 : decode cX7_read 167 = .ok (.iconst 1, 1) := by decide +kernel
theorem dX7_read_168 : decode cX7_read 168 = .ok (.invokevirtual 26, 3) := by decide +kernel
theorem dX7_read_171 : decode cX7_read 171 = .ok (.putfield 33, 3) := by decide +kernel
theorem dX7_read_174 : decode cX7_read 174 = .ok (.goto 31, 3) := by decide +kernel
theorem dX7_read_177 : decode cX7_read 177 = .ok (.aload_n 0, 1) := by decide +kernel
theorem dX7_read_178 : decode cX7_read 178 = .ok (.dup, 1) := by decide +kernel
theorem dX7_read_179 : decode cX7_read 179 = .ok (.getfield 7, 3) := by decide +kernel
theorem dX7_read_182 : decode cX7_read 182 = .ok (.iconst 1, 1) := by decide +kernel
theorem dX7_read_183 : decode cX7_read 183 = .ok (.iadd, 1) := by decide +kernel
theorem dX7_read_184 : decode cX7_read 184 = .ok (.putfield 7, 3) := by decide +kernel
theorem dX7_read_187 : decode cX7_read 187 = .ok (.aload_n 0, 1) := by decide +kernel
theorem dX7_read_188 : decode cX7_read 188 = .ok (.aload_n 0, 1) := by decide +kernel
theorem dX7_read_189 : decode cX7_read 189 = .ok (.aload_n 1, 1) := by decide +kernel
theorem dX7_read_190 : decode cX7_read 190 = .ok (.iconst 1, 1) := by decide +kernel
theorem dX7_read_191 : decode cX7_read 191 = .ok (.invokevirtual 26, 3) := by decide +kernel
theorem dX7_read_194 : decode cX7_read 194 = .ok (.putfield 30, 3) := by decide +kernel
theorem dX7_read_197 : decode cX7_read 197 = .ok (.goto 8, 3) := by decide +kernel
theorem dX7_read_200 : decode cX7_read 200 = .ok (.aload_n 0, 1) := by decide +kernel
theorem dX7_read_201 : decode cX7_read 201 = .ok (.iconst 0, 1) := by decide +kernel
theorem dX7_read_202 : decode cX7_read 202 = .ok (.putfield 13, 3) := by decide +kernel
theorem dX7_read_205 : decode cX7_read 205 = .ok (.aload_n 0, 1) := by decide +kernel
theorem dX7_read_206 : decode cX7_read 206 = .ok (.aload_n 1, 1) := by decide +kernel
theorem dX7_read_207 : decode cX7_read 207 = .ok (.bipush 59, 2) := by decide +kernel
theorem dX7_read_209 : decode cX7_read 209 = .ok (.invokevirtual 36, 3) := by decide +kernel
theorem dX7_read_212 : decode cX7_read 212 = .ok (.return_, 1) := by decide +kernel
theorem dX7_readSign_0 : decode cX7_readSign 0 = .ok (.aload_n 0, 1) := by decide +kernel
theorem dX7_readSign_1 : decode cX7_readSign 1 = .ok (.getfield 13, 3) := by decide +kernel
theorem dX7_readSign_4 : decode cX7_readSign 4 = .ok (.ifCond .ne 4, 3) := by decide +kernel
theorem dX7_readSign_7 : decode cX7_readSign 7 = .ok (.return_, 1) := by decide +kernel
theorem dX7_readSign_8 : decode cX7_readSign 8 = .ok (.aload_n 1, 1) := by decide +kernel
theorem dX7_readSign_9 : decode cX7_readSign 9 = .ok (.aload_n 0, 1) := by decide +kernel
theorem dX7_readSign_10 : decode cX7_readSign 10 = .ok (.getfield 7, 3) := by decide +kernel
theorem dX7_readSign_13 : decode cX7_readSign 13 = .ok (.invokevirtual 17, 3) := by decide +kernel
theorem dX7_readSign_16 : decode cX7_readSign 16 = .ok (.iload_n 2, 1) := by decide +kernel
theorem dX7_readSign_17 : decode cX7_readSign 17 = .ok (.if_icmp .ne 16, 3) := by decide +kernel
theorem dX7_readSign_20 : decode cX7_readSign 20 = .ok (.aload_n 0, 1) := by decide +kernel
theorem dX7_readSign_21 : decode cX7_readSign 21 = .ok (.dup, 1) := by decide +kernel
theorem dX7_readSign_22 : decode cX7_readSign 22 = .ok (.getfield 7, 3) := by decide +kernel
theorem dX7_readSign_25 : decode cX7_readSign 25 = .ok (.iconst 1, 1) := by decide +kernel
theorem dX7_readSign_26 : decode cX7_readSign 26 = .ok (.iadd, 1) := by decide +kernel
theorem dX7_readSign_27 : decode cX7_readSign 27 = .ok (.putfield 7, 3) := by decide +kernel
theorem dX7_readSign_30 : decode cX7_readSign 30 = .ok (.goto 8, 3) := by decide +kernel
theorem dX7_readSign_33 : decode cX7_readSign 33 = .ok (.aload_n 0, 1) := by decide +kernel
theorem dX7_readSign_34 : decode cX7_readSign 34 = .ok (.iconst 0, 1) := by decide +kernel
theorem dX7_readSign_35 : decode cX7_readSign 35 = .ok (.putfield 13, 3) := by decide +kernel
theorem dX7_readSign_38 : decode cX7_readSign 38 = .ok (.return_, 1) := by decide +kernel
theorem dX7_readNumber_0 : decode cX7_readNumber 0 = .ok (.iconst 0, 1) := by decide +kernel
theorem dX7_readNumber_1 : decode cX7_readNumber 1 = .ok (.istore_n 3, 1) := by decide +kernel
theorem dX7_readNumber_2 : decode cX7_readNumber 2 = .ok (.iconst 0, 1) := by decide +kernel
theorem dX7_readNumber_3 : decode cX7_readNumber 3 = .ok (.istore 4, 2) := by decide +kernel
theorem dX7_readNumber_5 : decode cX7_readNumber 5 = .ok (.aload_n 0, 1) := by decide +kernel
theorem dX7_readNumber_6 : decode cX7_readNumber 6 = .ok (.getfield 13, 3) := by decide +kernel
theorem dX7_readNumber_9 : decode cX7_readNumber 9 = .ok (.ifCond .eq 56, 3) := by decide +kernel
theorem dX7_readNumber_12 : decode cX7_readNumber 12 = .ok (.iload 4, 2) := by decide +kernel
theorem dX7_readNumber_14 : decode cX7_readNumber 14 = .ok (.iload_n 2, 1) := by decide +kernel
theorem dX7_readNumber_15 : decode cX7_readNumber 15 = .ok (.if_icmp .ge 50, 3) := by decide +kernel
theorem dX7_readNumber_18 : decode cX7_readNumber 18 = .ok (.aload_n 1, 1) := by decide +kernel
theorem dX7_readNumber_19 : decode cX7_readNumber 19 = .ok (.aload_n 0, 1) := by decide +kernel
theorem dX7_readNumber_20 : decode cX7_readNumber 20 = .ok (.getfield 7, 3) := by decide +kernel
theorem dX7_readNumber_23 : decode cX7_readNumber 23 = .ok (.invokevirtual 17, 3) := by decide +kernel
theorem dX7_readNumber_26 : decode cX7_readNumber 26 = .ok (.invokestatic 43, 3) := by decide +kernel
theorem dX7_readNumber_29 : decode cX7_readNumber 29 = .ok (.ifCond .eq 36, 3) := by decide +kernel
theorem dX7_readNumber_32 : decode cX7_readNumber 32 = .ok (.bipush 10, 2) := by decide +kernel
theorem dX7_readNumber_34 : decode cX7_readNumber 34 = .ok (.iload_n 3, 1) := by decide +kernel
theorem dX7_readNumber_35 : decode cX7_readNumber 35 = .ok (.imul, 1) := by decide +kernel
theorem dX7_readNumber_36 : decode cX7_readNumber 36 = .ok (.aload_n 1, 1) := by decide +kernel
theorem dX7_readNumber_37 : decode cX7_readNumber 37 = .ok (.aload_n 0, 1) := by decide +kernel
theorem dX7_readNumber_38 : decode cX7_readNumber 38 = .ok (.getfield 7, 3) := by decide +kernel
theorem dX7_readNumber_41 : decode cX7_readNumber 41 = .ok (.invokevirtual 17, 3) := by decide +kernel
theorem dX7_readNumber_44 : decode cX7_readNumber 44 = .ok (.iadd, 1) := by decide +kernel
theorem dX7_readNumber_45 : decode cX7_readNumber 45 = .ok (.bipush 48, 2) := by decide +kernel
theorem dX7_readNumber_47 : decode cX7_readNumber 47 = .ok (.isub, 1) := by decide +kernel
theorem dX7_readNumber_48 : decode cX7_readNumber 48 = .ok (.istore_n 3, 1) := by decide +kernel
theorem dX7_readNumber_49 : decode cX7_readNumber 49 = .ok (.aload_n 0, 1) := by decide +kernel
theorem dX7_readNumber_50 : decode cX7_readNumber 50 = .ok (.dup, 1) := by decide +kernel
theorem dX7_readNumber_51 : decode cX7_readNumber 51 = .ok (.getfield 7, 3) := by decide +kernel
theorem dX7_readNumber_54 : decode cX7_readNumber 54 = .ok (.iconst 1, 1) := by decide +kernel
theorem dX7_readNumber_55 : decode cX7_readNumber 55 = .ok (.iadd, 1) := by decide +kernel
theorem dX7_readNumber_56 : decode cX7_readNumber 56 = .ok (.putfield 7, 3) := by decide +kernel
theorem dX7_readNumber_59 : decode cX7_readNumber 59 = .ok (.iinc 4 1, 3) := by decide +kernel
theorem dX7_readNumber_62 : decode cX7_readNumber 62 = .ok (.goto (-57), 3) := by decide +kernel
theorem dX7_readNumber_65 : decode cX7_readNumber 65 = .ok (.iload 4, 2) := by decide +kernel
theorem dX7_readNumber_67 : decode cX7_readNumber 67 = .ok (.ifCond .ne 8, 3) := by decide +kernel
theorem dX7_readNumber_70 : decode cX7_readNumber 70 = .ok (.aload_n 0, 1) := by decide +kernel
theorem dX7_readNumber_71 : decode cX7_readNumber 71 = .ok (.iconst 0, 1) := by decide +kernel
theorem dX7_readNumber_72 : decode cX7_readNumber 72 = .ok (.putfield 13, 3) := by decide +kernel
theorem dX7_readNumber_75 : decode cX7_readNumber 75 = .ok (.iload_n 3, 1) := by decide +kernel
theorem dX7_readNumber_76 : decode cX7_readNumber 76 = .ok (.ireturn, 1) := by decide +kernel
theorem dX7_isDigit_0 : decode cX7_isDigit 0 = .ok (.iload_n 0, 1) := by decide +kernel
theorem dX7_isDigit_1 : decode cX7_isDigit 1 = .ok (.bipush 48, 2) := by decide +kernel
theorem dX7_isDigit_3 : decode cX7_isDigit 3 = .ok (.if_icmp .lt 13, 3) := by decide +kernel
theorem dX7_isDigit_6 : decode cX7_isDigit 6 = .ok (.iload_n 0, 1) := by decide +kernel
theorem dX7_isDigit_7 : decode cX7_isDigit 7 = .ok (.bipush 57, 2) := by decide +kernel
theorem dX7_isDigit_9 : decode cX7_isDigit 9 = .ok (.if_icmp .gt 7, 3) := by decide +kernel
theorem dX7_isDigit_12 : decode cX7_isDigit 12 = .ok (.iconst 1, 1) := by decide +kernel
theorem dX7_isDigit_13 : decode cX7_isDigit 13 = .ok (.goto 4, 3) := by decide +kernel
theorem dX7_isDigit_16 : decode cX7_isDigit 16 = .ok (.iconst 0, 1) := by decide +kernel
theorem dX7_isDigit_17 : decode cX7_isDigit 17 = .ok (.ireturn, 1) := by decide +kernel
theorem dX8_init_0 : decode cX8_init 0 = .ok (.aload_n 0, 1) := by decide +kernel
theorem dX8_init_1 : decode cX8_init 1 = .ok (.invokespecial 3, 3) := by decide +kernel
theorem dX8_init_4 : decode cX8_init 4 = .ok (.aload_n 0, 1) := by decide +kernel
theorem dX8_init_5 : decode cX8_init 5 = .ok (.bipush 12, 2) := by decide +kernel
theorem dX8_init_7 : decode cX8_init 7 = .ok (.newarray .int, 2) := by decide +kernel
theorem dX8_init_9 : decode cX8_init 9 = .ok (.putfield 9, 3) := by decide +kernel
theorem dX8_init_12 : decode cX8_init 12 = .ok (.return_, 1) := by decide +kernel
theorem dX8_arrange_0 : decode cX8_arrange 0 = .ok (.iconst 0, 1) := by decide +kernel
theorem dX8_arrange_1 : decode cX8_arrange 1 = .ok (.istore_n 2, 1) := by decide +kernel
theorem dX8_arrange_2 : decode cX8_arrange 2 = .ok (.iload_n 2, 1) := by decide +kernel
theorem dX8_arrange_3 : decode cX8_arrange 3 = .ok (.aload_n 1, 1) := by decide +kernel
theorem dX8_arrange_4 : decode cX8_arrange 4 = .ok (.getfield 15, 3) := by decide +kernel
theorem dX8_arrange_7 : decode cX8_arrange 7 = .ok (.if_icmp .ge 67, 3) := by decide +kernel
theorem dX8_arrange_10 : decode cX8_arrange 10 = .ok (.iload_n 2, 1) := by decide +kernel
theorem dX8_arrange_11 : decode cX8_arrange 11 = .ok (.istore_n 3, 1) := by decide +kernel
theorem dX8_arrange_12 : decode cX8_arrange 12 = .ok (.iload_n 3, 1) := by decide +kernel
theorem dX8_arrange_13 : decode cX8_arrange 13 = .ok (.ifCond .le 48, 3) := by decide +kernel
theorem dX8_arrange_16 : decode cX8_arrange 16 = .ok (.aload_n 1, 1) := by decide +kernel
theorem dX8_arrange_17 : decode cX8_arrange 17 = .ok (.getfield 21, 3) := by decide +kernel
theorem dX8_arrange_20 : decode cX8_arrange 20 = .ok (.iload_n 2, 1) := by decide +kernel
theorem dX8_arrange_21 : decode cX8_arrange 21 = .ok (.aaload, 1) := by decide +kernel
theorem dX8_arrange_22 : decode cX8_arrange 22 = .ok (.aload_n 1, 1) := by decide +kernel
theorem dX8_arrange_23 : decode cX8_arrange 23 = .ok (.getfield 21, 3) := by decide +kernel
theorem dX8_arrange_26 : decode cX8_arrange 26 = .ok (.aload_n 0, 1) := by decide +kernel
theorem dX8_arrange_27 : decode cX8_arrange 27 = .ok (.getfield 9, 3) := by decide +kernel
theorem dX8_arrange_30 : decode cX8_arrange 30 = .ok (.iload_n 3, 1) := by decide +kernel
theorem dX8_arrange_31 : decode cX8_arrange 31 = .ok (.iconst 1, 1) := by decide +kernel
theorem dX8_arrange_32 : decode cX8_arrange 32 = .ok (.isub, 1) := by decide +kernel
theorem dX8_arrange_33 : decode cX8_arrange 33 = .ok (.iaload, 1) := by decide +kernel
theorem dX8_arrange_34 : decode cX8_arrange 34 = .ok (.aaload, 1) := by decide +kernel
theorem dX8_arrange_35 : decode cX8_arrange 35 = .ok (.invokestatic 25, 3) := by decide +kernel
theorem dX8_arrange_38 : decode cX8_arrange 38 = .ok (.ifCond .eq 23, 3) := by decide +kernel
theorem dX8_arrange_41 : decode cX8_arrange 41 = .ok (.aload_n 0, 1) := by decide +kernel
theorem dX8_arrange_42 : decode cX8_arrange 42 = .ok (.getfield 9, 3) := by decide +kernel
theorem dX8_arrange_45 : decode cX8_arrange 45 = .ok (.iload_n 3, 1) := by decide +kernel
theorem dX8_arrange_46 : decode cX8_arrange 46 = .ok (.aload_n 0, 1) := by decide +kernel
theorem dX8_arrange_47 : decode cX8_arrange 47 = .ok (.getfield 9, 3) := by decide +kernel
theorem dX8_arrange_50 : decode cX8_arrange 50 = .ok (.iload_n 3, 1) := by decide +kernel
theorem dX8_arrange_51 : decode cX8_arrange 51 = .ok (.iconst 1, 1) := by decide +kernel
theorem dX8_arrange_52 : decode cX8_arrange 52 = .ok (.isub, 1) := by decide +kernel
theorem dX8_arrange_53 : decode cX8_arrange 53 = .ok (.iaload, 1) := by decide +kernel
theorem dX8_arrange_54 : decode cX8_arrange 54 = .ok (.iastore, 1) := by decide +kernel
theorem dX8_arrange_55 : decode cX8_arrange 55 = .ok (.iinc 3 (-1), 3) := by decide +kernel
theorem dX8_arrange_58 : decode cX8_arrange 58 = .ok (.goto (-46), 3) := by decide +kernel
theorem dX8_arrange_61 : decode cX8_arrange 61 = .ok (.aload_n 0, 1) := by decide +kernel
theorem dX8_arrange_62 : decode cX8_arrange 62 = .ok (.getfield 9, 3) := by decide +kernel
theorem dX8_arrange_65 : decode cX8_arrange 65 = .ok (.iload_n 3, 1) := by decide +kernel
theorem dX8_arrange_66 : decode cX8_arrange 66 = .ok (.iload_n 2, 1) := by decide +kernel
theorem dX8_arrange_67 : decode cX8_arrange 67 = .ok (.iastore, 1) := by decide +kernel
theorem dX8_arrange_68 : decode cX8_arrange 68 = .ok (.iinc 2 1, 3) := by decide +kernel
theorem dX8_arrange_71 : decode cX8_arrange 71 = .ok (.goto (-69), 3) := by decide +kernel
theorem dX8_arrange_74 : decode cX8_arrange 74 = .ok (.return_, 1) := by decide +kernel
theorem dX8_comesFirst_0 : decode cX8_comesFirst 0 = .ok (.aload_n 0, 1) := by decide +kernel
theorem dX8_comesFirst_1 : decode cX8_comesFirst 1 = .ok (.getfield 29, 3) := by decide +kernel
theorem dX8_comesFirst_4 : decode cX8_comesFirst 4 = .ok (.aload_n 1, 1) := by decide +kernel
theorem dX8_comesFirst_5 : decode cX8_comesFirst 5 = .ok (.invokevirtual 34, 3) := by decide +kernel
theorem dX8_comesFirst_8 : decode cX8_comesFirst 8 = .ok (.imul, 1) := by decide +kernel
theorem dX8_comesFirst_9 : decode cX8_comesFirst 9 = .ok (.aload_n 1, 1) := by decide +kernel
theorem dX8_comesFirst_10 : decode cX8_comesFirst 10 = .ok (.getfield 29, 3) := by decide +kernel
theorem dX8_comesFirst_13 : decode cX8_comesFirst 13 = .ok (.aload_n 0, 1) := by decide +kernel
theorem dX8_comesFirst_14 : decode cX8_comesFirst 14 = .ok (.invokevirtual 34, 3) := by decide +kernel
theorem dX8_comesFirst_17 : decode cX8_comesFirst 17 = .ok (.imul, 1) := by decide +kernel
theorem dX8_comesFirst_18 : decode cX8_comesFirst 18 = .ok (.if_icmp .ge 7, 3) := by decide +kernel
theorem dX8_comesFirst_21 : decode cX8_comesFirst 21 = .ok (.iconst 1, 1) := by decide +kernel
theorem dX8_comesFirst_22 : decode cX8_comesFirst 22 = .ok (.goto 4, 3) := by decide +kernel
theorem dX8_comesFirst_25 : decode cX8_comesFirst 25 = .ok (.iconst 0, 1) := by decide +kernel
theorem dX8_comesFirst_26 : decode cX8_comesFirst 26 = .ok (.ireturn, 1) := by decide +kernel
theorem dX8_cost_0 : decode cX8_cost 0 = .ok (.iconst 0, 1) := by decide +kernel
theorem dX8_cost_1 : decode cX8_cost 1 = .ok (.istore_n 2, 1) := by decide +kernel
theorem dX8_cost_2 : decode cX8_cost 2 = .ok (.iconst 0, 1) := by decide +kernel
theorem dX8_cost_3 : decode cX8_cost 3 = .ok (.istore_n 3, 1) := by decide +kernel
theorem dX8_cost_4 : decode cX8_cost 4 = .ok (.iconst 0, 1) := by decide +kernel
theorem dX8_cost_5 : decode cX8_cost 5 = .ok (.istore 4, 2) := by decide +kernel
theorem dX8_cost_7 : decode cX8_cost 7 = .ok (.iload 4, 2) := by decide +kernel
theorem dX8_cost_9 : decode cX8_cost 9 = .ok (.aload_n 1, 1) := by decide +kernel
theorem dX8_cost_10 : decode cX8_cost 10 = .ok (.getfield 15, 3) := by decide +kernel
theorem dX8_cost_13 : decode cX8_cost 13 = .ok (.if_icmp .ge 41, 3) := by decide +kernel
theorem dX8_cost_16 : decode cX8_cost 16 = .ok (.aload_n 1, 1) := by decide +kernel
theorem dX8_cost_17 : decode cX8_cost 17 = .ok (.getfield 21, 3) := by decide +kernel
theorem dX8_cost_20 : decode cX8_cost 20 = .ok (.aload_n 0, 1) := by decide +kernel
theorem dX8_cost_21 : decode cX8_cost 21 = .ok (.getfield 9, 3) := by decide +kernel
theorem dX8_cost_24 : decode cX8_cost 24 = .ok (.iload 4, 2) := by decide +kernel
theorem dX8_cost_26 : decode cX8_cost 26 = .ok (.iaload, 1) := by decide +kernel
theorem dX8_cost_27 : decode cX8_cost 27 = .ok (.aaload, 1) := by decide +kernel
theorem dX8_cost_28 : decode cX8_cost 28 = .ok (.astore 5, 2) := by decide +kernel
theorem dX8_cost_30 : decode cX8_cost 30 = .ok (.iload_n 2, 1) := by decide +kernel
theorem dX8_cost_31 : decode cX8_cost 31 = .ok (.aload 5, 2) := by decide +kernel
theorem dX8_cost_33 : decode cX8_cost 33 = .ok (.getfield 29, 3) := by decide +kernel
theorem dX8_cost_36 : decode cX8_cost 36 = .ok (.iadd, 1) := by decide +kernel
theorem dX8_cost_37 : decode cX8_cost 37 = .ok (.istore_n 2, 1) := by decide +kernel
theorem dX8_cost_38 : decode cX8_cost 38 = .ok (.iload_n 3, 1) := by decide +kernel
theorem dX8_cost_39 : decode cX8_cost 39 = .ok (.aload 5, 2) := by decide +kernel
theorem dX8_cost_41 : decode cX8_cost 41 = .ok (.invokevirtual 34, 3) := by decide +kernel
theorem dX8_cost_44 : decode cX8_cost 44 = .ok (.iload_n 2, 1) := by decide +kernel
theorem dX8_cost_45 : decode cX8_cost 45 = .ok (.imul, 1) := by decide +kernel
theorem dX8_cost_46 : decode cX8_cost 46 = .ok (.iadd, 1) := by decide +kernel
theorem dX8_cost_47 : decode cX8_cost 47 = .ok (.istore_n 3, 1) := by decide +kernel
theorem dX8_cost_48 : decode cX8_cost 48 = .ok (.iinc 4 1, 3) := by decide +kernel
theorem dX8_cost_51 : decode cX8_cost 51 = .ok (.goto (-44), 3) := by decide +kernel
theorem dX8_cost_54 : decode cX8_cost 54 = .ok (.iload_n 3, 1) := by decide +kernel
theorem dX8_cost_55 : decode cX8_cost 55 = .ok (.ireturn, 1) := by decide +kernel
theorem dX9_init_0 : decode cX9_init 0 = .ok (.aload_n 0, 1) := by decide +kernel
theorem dX9_init_1 : decode cX9_init 1 = .ok (.invokespecial 1, 3) := by decide +kernel
theorem dX9_init_4 : decode cX9_init 4 = .ok (.aload_n 0, 1) := by decide +kernel
theorem dX9_init_5 : decode cX9_init 5 = .ok (.new 7, 3) := by decide +kernel
theorem dX9_init_8 : decode cX9_init 8 = .ok (.dup, 1) := by decide +kernel
theorem dX9_init_9 : decode cX9_init 9 = .ok (.invokespecial 9, 3) := by decide +kernel
theorem dX9_init_12 : decode cX9_init 12 = .ok (.putfield 10, 3) := by decide +kernel
theorem dX9_init_15 : decode cX9_init 15 = .ok (.aload_n 0, 1) := by decide +kernel
theorem dX9_init_16 : decode cX9_init 16 = .ok (.new 7, 3) := by decide +kernel
theorem dX9_init_19 : decode cX9_init 19 = .ok (.dup, 1) := by decide +kernel
theorem dX9_init_20 : decode cX9_init 20 = .ok (.invokespecial 9, 3) := by decide +kernel
theorem dX9_init_23 : decode cX9_init 23 = .ok (.putfield 16, 3) := by decide +kernel
theorem dX9_init_26 : decode cX9_init 26 = .ok (.aload_n 0, 1) := by decide +kernel
theorem dX9_init_27 : decode cX9_init 27 = .ok (.new 19, 3) := by decide +kernel
theorem dX9_init_30 : decode cX9_init 30 = .ok (.dup, 1) := by decide +kernel
theorem dX9_init_31 : decode cX9_init 31 = .ok (.invokespecial 21, 3) := by decide +kernel
theorem dX9_init_34 : decode cX9_init 34 = .ok (.putfield 22, 3) := by decide +kernel
theorem dX9_init_37 : decode cX9_init 37 = .ok (.aload_n 0, 1) := by decide +kernel
theorem dX9_init_38 : decode cX9_init 38 = .ok (.new 26, 3) := by decide +kernel
theorem dX9_init_41 : decode cX9_init 41 = .ok (.dup, 1) := by decide +kernel
theorem dX9_init_42 : decode cX9_init 42 = .ok (.invokespecial 28, 3) := by decide +kernel
theorem dX9_init_45 : decode cX9_init 45 = .ok (.putfield 29, 3) := by decide +kernel
theorem dX9_init_48 : decode cX9_init 48 = .ok (.aload_n 0, 1) := by decide +kernel
theorem dX9_init_49 : decode cX9_init 49 = .ok (.new 33, 3) := by decide +kernel
theorem dX9_init_52 : decode cX9_init 52 = .ok (.dup, 1) := by decide +kernel
theorem dX9_init_53 : decode cX9_init 53 = .ok (.invokespecial 35, 3) := by decide +kernel
theorem dX9_init_56 : decode cX9_init 56 = .ok (.putfield 36, 3) := by decide +kernel
theorem dX9_init_59 : decode cX9_init 59 = .ok (.aload_n 0, 1) := by decide +kernel
theorem dX9_init_60 : decode cX9_init 60 = .ok (.new 40, 3) := by decide +kernel
theorem dX9_init_63 : decode cX9_init 63 = .ok (.dup, 1) := by decide +kernel
theorem dX9_init_64 : decode cX9_init 64 = .ok (.invokespecial 42, 3) := by decide +kernel
theorem dX9_init_67 : decode cX9_init 67 = .ok (.putfield 43, 3) := by decide +kernel
theorem dX9_init_70 : decode cX9_init 70 = .ok (.aload_n 0, 1) := by decide +kernel
theorem dX9_init_71 : decode cX9_init 71 = .ok (.new 47, 3) := by decide +kernel
theorem dX9_init_74 : decode cX9_init 74 = .ok (.dup, 1) := by decide +kernel
theorem dX9_init_75 : decode cX9_init 75 = .ok (.invokespecial 49, 3) := by decide +kernel
theorem dX9_init_78 : decode cX9_init 78 = .ok (.putfield 50, 3) := by decide +kernel
theorem dX9_init_81 : decode cX9_init 81 = .ok (.aload_n 0, 1) := by decide +kernel
theorem dX9_init_82 : decode cX9_init 82 = .ok (.new 54, 3) := by decide +kernel
theorem dX9_init_85 : decode cX9_init 85 = .ok (.dup, 1) := by decide +kernel
theorem dX9_init_86 : decode cX9_init 86 = .ok (.invokespecial 56, 3) := by decide +kernel
theorem dX9_init_89 : decode cX9_init 89 = .ok (.putfield 57, 3) := by decide +kernel
theorem dX9_init_92 : decode cX9_init 92 = .ok (.aload_n 0, 1) := by decide +kernel
theorem dX9_init_93 : decode cX9_init 93 = .ok (.bipush 6, 2) := by decide +kernel
theorem dX9_init_95 : decode cX9_init 95 = .ok (.newarray .int, 2) := by decide +kernel
theorem dX9_init_97 : decode cX9_init 97 = .ok (.putfield 61, 3) := by decide +kernel
theorem dX9_init_100 : decode cX9_init 100 = .ok (.return_, 1) := by decide +kernel
theorem dX9_feed_0 : decode cX9_feed 0 = .ok (.iload_n 1, 1) := by decide +kernel
theorem dX9_feed_1 : decode cX9_feed 1 = .ok (.ifCond .ge 10, 3) := by decide +kernel
theorem dX9_feed_4 : decode cX9_feed 4 = .ok (.aload_n 0, 1) := by decide +kernel
theorem dX9_feed_5 : decode cX9_feed 5 = .ok (.bipush (-4), 2) := by decide +kernel
theorem dX9_feed_7 : decode cX9_feed 7 = .ok (.invokevirtual 65, 3) := by decide +kernel
theorem dX9_feed_10 : decode cX9_feed 10 = .ok (.ireturn, 1) := by decide +kernel
theorem dX9_feed_11 : decode cX9_feed 11 = .ok (.iload_n 1, 1) := by decide +kernel
theorem dX9_feed_12 : decode cX9_feed 12 = .ok (.sipush 255, 3) := by decide +kernel
theorem dX9_feed_15 : decode cX9_feed 15 = .ok (.if_icmp .gt 15, 3) := by decide +kernel
theorem dX9_feed_18 : decode cX9_feed 18 = .ok (.aload_n 0, 1) := by decide +kernel
theorem dX9_feed_19 : decode cX9_feed 19 = .ok (.getfield 29, 3) := by decide +kernel
theorem dX9_feed_22 : decode cX9_feed 22 = .ok (.getfield 69, 3) := by decide +kernel
theorem dX9_feed_25 : decode cX9_feed 25 = .ok (.bipush 64, 2) := by decide +kernel
theorem dX9_feed_27 : decode cX9_feed 27 = .ok (.if_icmp .lt 10, 3) := by decide +kernel
theorem dX9_feed_30 : decode cX9_feed 30 = .ok (.aload_n 0, 1) := by decide +kernel
theorem dX9_feed_31 : decode cX9_feed 31 = .ok (.bipush (-6), 2) := by decide +kernel
theorem dX9_feed_33 : decode cX9_feed 33 = .ok (.invokevirtual 65, 3) := by decide +kernel
theorem dX9_feed_36 : decode cX9_feed 36 = .ok (.ireturn, 1) := by decide +kernel
theorem dX9_feed_37 : decode cX9_feed 37 = .ok (.aload_n 0, 1) := by decide +kernel
theorem dX9_feed_38 : decode cX9_feed 38 = .ok (.getfield 29, 3) := by decide +kernel
theorem dX9_feed_41 : decode cX9_feed 41 = .ok (.iload_n 1, 1) := by decide +kernel
theorem dX9_feed_42 : decode cX9_feed 42 = .ok (.invokevirtual 73, 3) := by decide +kernel
theorem dX9_feed_45 : decode cX9_feed 45 = .ok (.aload_n 0, 1) := by decide +kernel
theorem dX9_feed_46 : decode cX9_feed 46 = .ok (.getfield 29, 3) := by decide +kernel
theorem dX9_feed_49 : decode cX9_feed 49 = .ok (.getfield 69, 3) := by decide +kernel
theorem dX9_feed_52 : decode cX9_feed 52 = .ok (.ireturn, 1) := by decide +kernel
theorem dX9_string_0 : decode cX9_string 0 = .ok (.aload_n 0, 1) := by decide +kernel
theorem dX9_string_1 : decode cX9_string 1 = .ok (.invokevirtual 77, 3) := by decide +kernel
theorem dX9_string_4 : decode cX9_string 4 = .ok (.istore_n 1, 1) := by decide +kernel
theorem dX9_string_5 : decode cX9_string 5 = .ok (.iload_n 1, 1) := by decide +kernel
theorem dX9_string_6 : decode cX9_string 6 = .ok (.ifCond .lt 38, 3) := by decide +kernel
theorem dX9_string_9 : decode cX9_string 9 = .ok (.aload_n 0, 1) := by decide +kernel
theorem dX9_string_10 : decode cX9_string 10 = .ok (.getfield 22, 3) := by decide +kernel
theorem dX9_string_13 : decode cX9_string 13 = .ok (.aload_n 0, 1) := by decide +kernel
theorem dX9_string_14 : decode cX9_string 14 = .ok (.getfield 10, 3) := by decide +kernel
theorem dX9_string_17 : decode cX9_string 17 = .ok (.invokevirtual 81, 3) := by decide +kernel
theorem dX9_string_20 : decode cX9_string 20 = .ok (.astore_n 2, 1) := by decide +kernel
theorem dX9_string_21 : decode cX9_string 21 = .ok (.aload_n 0, 1) := by decide +kernel
theorem dX9_string_22 : decode cX9_string 22 = .ok (.aload_n 2, 1) := by decide +kernel
theorem dX9_string_23 : decode cX9_string 23 = .ok (.invokevirtual 85, 3) := by decide +kernel
theorem dX9_string_26 : decode cX9_string 26 = .ok (.istore_n 3, 1) := by decide +kernel
theorem dX9_string_27 : decode cX9_string 27 = .ok (.iload_n 3, 1) := by decide +kernel
theorem dX9_string_28 : decode cX9_string 28 = .ok (.ifCond .ge 8, 3) := by decide +kernel
theorem dX9_string_31 : decode cX9_string 31 = .ok (.iload_n 3, 1) := by decide +kernel
theorem dX9_string_32 : decode cX9_string 32 = .ok (.istore_n 1, 1) := by decide +kernel
theorem dX9_string_33 : decode cX9_string 33 = .ok (.goto 11, 3) := by decide +kernel
theorem dX9_string_36 : decode cX9_string 36 = .ok (.aload_n 0, 1) := by decide +kernel
theorem dX9_string_37 : decode cX9_string 37 = .ok (.getfield 10, 3) := by decide +kernel
theorem dX9_string_40 : decode cX9_string 40 = .ok (.aload_n 2, 1) := by decide +kernel
theorem dX9_string_41 : decode cX9_string 41 = .ok (.invokevirtual 89, 3) := by decide +kernel
theorem dX9_string_44 : decode cX9_string 44 = .ok (.aload_n 0, 1) := by decide +kernel
theorem dX9_string_45 : decode cX9_string 45 = .ok (.getfield 29, 3) := by decide +kernel
theorem dX9_string_48 : decode cX9_string 48 = .ok (.iconst 0, 1) := by decide +kernel
theorem dX9_string_49 : decode cX9_string 49 = .ok (.putfield 69, 3) := by decide +kernel
theorem dX9_string_52 : decode cX9_string 52 = .ok (.iload_n 1, 1) := by decide +kernel
theorem dX9_string_53 : decode cX9_string 53 = .ok (.ireturn, 1) := by decide +kernel
theorem dX9_lamp_0 : decode cX9_lamp 0 = .ok (.aload_n 0, 1) := by decide +kernel
theorem dX9_lamp_1 : decode cX9_lamp 1 = .ok (.getfield 10, 3) := by decide +kernel
theorem dX9_lamp_4 : decode cX9_lamp 4 = .ok (.iload_n 1, 1) := by decide +kernel
theorem dX9_lamp_5 : decode cX9_lamp 5 = .ok (.invokevirtual 93, 3) := by decide +kernel
theorem dX9_lamp_8 : decode cX9_lamp 8 = .ok (.ifCond .ne 9, 3) := by decide +kernel
theorem dX9_lamp_11 : decode cX9_lamp 11 = .ok (.aload_n 0, 1) := by decide +kernel
theorem dX9_lamp_12 : decode cX9_lamp 12 = .ok (.iconst (-1), 1) := by decide +kernel
theorem dX9_lamp_13 : decode cX9_lamp 13 = .ok (.invokevirtual 65, 3) := by decide +kernel
theorem dX9_lamp_16 : decode cX9_lamp 16 = .ok (.ireturn, 1) := by decide +kernel
theorem dX9_lamp_17 : decode cX9_lamp 17 = .ok (.aload_n 0, 1) := by decide +kernel
theorem dX9_lamp_18 : decode cX9_lamp 18 = .ok (.getfield 10, 3) := by decide +kernel
theorem dX9_lamp_21 : decode cX9_lamp 21 = .ok (.getfield 97, 3) := by decide +kernel
theorem dX9_lamp_24 : decode cX9_lamp 24 = .ok (.iload_n 1, 1) := by decide +kernel
theorem dX9_lamp_25 : decode cX9_lamp 25 = .ok (.aaload, 1) := by decide +kernel
theorem dX9_lamp_26 : decode cX9_lamp 26 = .ok (.astore_n 3, 1) := by decide +kernel
theorem dX9_lamp_27 : decode cX9_lamp 27 = .ok (.iload_n 2, 1) := by decide +kernel
theorem dX9_lamp_28 : decode cX9_lamp 28 = .ok (.tableswitch 95 0 7 #[48, 53, 58, 63, 68, 73, 78, 90], 48) := by decide +kernel
theorem dX9_lamp_76 : decode cX9_lamp 76 = .ok (.aload_n 3, 1) := by decide +kernel
theorem dX9_lamp_77 : decode cX9_lamp 77 = .ok (.getfield 101, 3) := by decide +kernel
theorem dX9_lamp_80 : decode cX9_lamp 80 = .ok (.ireturn, 1) := by decide +kernel
theorem dX9_lamp_81 : decode cX9_lamp 81 = .ok (.aload_n 3, 1) := by decide +kernel
theorem dX9_lamp_82 : decode cX9_lamp 82 = .ok (.getfield 106, 3) := by decide +kernel
theorem dX9_lamp_85 : decode cX9_lamp 85 = .ok (.ireturn, 1) := by decide +kernel
theorem dX9_lamp_86 : decode cX9_lamp 86 = .ok (.aload_n 3, 1) := by decide +kernel
theorem dX9_lamp_87 : decode cX9_lamp 87 = .ok (.getfield 109, 3) := by decide +kernel
theorem dX9_lamp_90 : decode cX9_lamp 90 = .ok (.ireturn, 1) := by decide +kernel
theorem dX9_lamp_91 : decode cX9_lamp 91 = .ok (.aload_n 3, 1) := by decide +kernel
theorem dX9_lamp_92 : decode cX9_lamp 92 = .ok (.getfield 112, 3) := by decide +kernel
theorem dX9_lamp_95 : decode cX9_lamp 95 = .ok (.ireturn, 1) := by decide +kernel
theorem dX9_lamp_96 : decode cX9_lamp 96 = .ok (.aload_n 3, 1) := by decide +kernel
theorem dX9_lamp_97 : decode cX9_lamp 97 = .ok (.getfield 115, 3) := by decide +kernel
