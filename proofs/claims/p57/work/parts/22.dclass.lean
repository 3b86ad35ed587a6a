theorem dX0_init_0 : decode cX0_init 0 = .ok (.aload_n 0, 1) := by decide +kernel
theorem dX0_init_1 : decode cX0_init 1 = .ok (.invokespecial 3, 3) := by decide +kernel
theorem dX0_init_4 : decode cX0_init 4 = .ok (.aload_n 0, 1) := by decide +kernel
theorem dX0_init_5 : decode cX0_init 5 = .ok (.iload_n 1, 1) := by decide +kernel
theorem dX0_init_6 : decode cX0_init 6 = .ok (.putfield 9, 3) := by decide +kernel
theorem dX0_init_9 : decode cX0_init 9 = .ok (.aload_n 0, 1) := by decide +kernel
theorem dX0_init_10 : decode cX0_init 10 = .ok (.iload_n 3, 1) := by decide +kernel
theorem dX0_init_11 : decode cX0_init 11 = .ok (.putfield 15, 3) := by decide +kernel
theorem dX0_init_14 : decode cX0_init 14 = .ok (.aload_n 0, 1) := by decide +kernel
theorem dX0_init_15 : decode cX0_init 15 = .ok (.iload_n 2, 1) := by decide +kernel
theorem dX0_init_16 : decode cX0_init 16 = .ok (.iload_n 3, 1) := by decide +kernel
theorem dX0_init_17 : decode cX0_init 17 = .ok (.invokestatic 18, 3) := by decide +kernel
theorem dX0_init_20 : decode cX0_init 20 = .ok (.putfield 22, 3) := by decide +kernel
theorem dX0_init_23 : decode cX0_init 23 = .ok (.aload_n 0, 1) := by decide +kernel
theorem dX0_init_24 : decode cX0_init 24 = .ok (.iconst (-1), 1) := by decide +kernel
theorem dX0_init_25 : decode cX0_init 25 = .ok (.putfield 25, 3) := by decide +kernel
theorem dX0_init_28 : decode cX0_init 28 = .ok (.return_, 1) := by decide +kernel
theorem dX0_ticksOf_0 : decode cX0_ticksOf 0 = .ok (.iload_n 0, 1) := by decide +kernel
theorem dX0_ticksOf_1 : decode cX0_ticksOf 1 = .ok (.ifCond .lt 11, 3) := by decide +kernel
theorem dX0_ticksOf_4 : decode cX0_ticksOf 4 = .ok (.iload_n 0, 1) := by decide +kernel
theorem dX0_ticksOf_5 : decode cX0_ticksOf 5 = .ok (.getstatic 28, 3) := by decide +kernel
theorem dX0_ticksOf_8 : decode cX0_ticksOf 8 = .ok (.arraylength, 1) := by decide +kernel
theorem dX0_ticksOf_9 : decode cX0_ticksOf 9 = .ok (.if_icmp .lt 5, 3) := by decide +kernel
theorem dX0_ticksOf_12 : decode cX0_ticksOf 12 = .ok (.iconst 0, 1) := by decide +kernel
theorem dX0_ticksOf_13 : decode cX0_ticksOf 13 = .ok (.ireturn, 1) := by decide +kernel
theorem dX0_ticksOf_14 : decode cX0_ticksOf 14 = .ok (.getstatic 28, 3) := by decide +kernel
theorem dX0_ticksOf_17 : decode cX0_ticksOf 17 = .ok (.iload_n 0, 1) := by decide +kernel
theorem dX0_ticksOf_18 : decode cX0_ticksOf 18 = .ok (.iaload, 1) := by decide +kernel
theorem dX0_ticksOf_19 : decode cX0_ticksOf 19 = .ok (.istore_n 2, 1) := by decide +kernel
theorem dX0_ticksOf_20 : decode cX0_ticksOf 20 = .ok (.iload_n 1, 1) := by decide +kernel
theorem dX0_ticksOf_21 : decode cX0_ticksOf 21 = .ok (.iconst 1, 1) := by decide +kernel
theorem dX0_ticksOf_22 : decode cX0_ticksOf 22 = .ok (.if_icmp .ne 9, 3) := by decide +kernel
theorem dX0_ticksOf_25 : decode cX0_ticksOf 25 = .ok (.iload_n 2, 1) := by decide +kernel
theorem dX0_ticksOf_26 : decode cX0_ticksOf 26 = .ok (.iconst 3, 1) := by decide +kernel
theorem dX0_ticksOf_27 : decode cX0_ticksOf 27 = .ok (.imul, 1) := by decide +kernel
theorem dX0_ticksOf_28 : decode cX0_ticksOf 28 = .ok (.iconst 2, 1) := by decide +kernel
theorem dX0_ticksOf_29 : decode cX0_ticksOf 29 = .ok (.idiv, 1) := by decide +kernel
theorem dX0_ticksOf_30 : decode cX0_ticksOf 30 = .ok (.ireturn, 1) := by decide +kernel
theorem dX0_ticksOf_31 : decode cX0_ticksOf 31 = .ok (.iload_n 1, 1) := by decide +kernel
theorem dX0_ticksOf_32 : decode cX0_ticksOf 32 = .ok (.iconst 2, 1) := by decide +kernel
theorem dX0_ticksOf_33 : decode cX0_ticksOf 33 = .ok (.if_icmp .ne 11, 3) := by decide +kernel
theorem dX0_ticksOf_36 : decode cX0_ticksOf 36 = .ok (.iload_n 2, 1) := by decide +kernel
theorem dX0_ticksOf_37 : decode cX0_ticksOf 37 = .ok (.iconst 2, 1) := by decide +kernel
theorem dX0_ticksOf_38 : decode cX0_ticksOf 38 = .ok (.imul, 1) := by decide +kernel
theorem dX0_ticksOf_39 : decode cX0_ticksOf 39 = .ok (.iconst 3, 1) := by decide +kernel
theorem dX0_ticksOf_40 : decode cX0_ticksOf 40 = .ok (.idiv, 1) := by decide +kernel
theorem dX0_ticksOf_41 : decode cX0_ticksOf 41 = .ok (.goto 4, 3) := by decide +kernel
theorem dX0_ticksOf_44 : decode cX0_ticksOf 44 = .ok (.iload_n 2, 1) := by decide +kernel
theorem dX0_ticksOf_45 : decode cX0_ticksOf 45 = .ok (.ireturn, 1) := by decide +kernel
theorem dX0_isNote_0 : decode cX0_isNote 0 = .ok (.aload_n 0, 1) := by decide +kernel
theorem dX0_isNote_1 : decode cX0_isNote 1 = .ok (.getfield 9, 3) := by decide +kernel
theorem dX0_isNote_4 : decode cX0_isNote 4 = .ok (.ifCond .le 7, 3) := by decide +kernel
theorem dX0_isNote_7 : decode cX0_isNote 7 = .ok (.iconst 1, 1) := by decide +kernel
theorem dX0_isNote_8 : decode cX0_isNote 8 = .ok (.goto 4, 3) := by decide +kernel
theorem dX0_isNote_11 : decode cX0_isNote 11 = .ok (.iconst 0, 1) := by decide +kernel
theorem dX0_isNote_12 : decode cX0_isNote 12 = .ok (.ireturn, 1) := by decide +kernel
theorem dX0_isTiedTo_0 : decode cX0_isTiedTo 0 = .ok (.aload_n 0, 1) := by decide +kernel
theorem dX0_isTiedTo_1 : decode cX0_isTiedTo 1 = .ok (.getfield 32, 3) := by decide +kernel
theorem dX0_isTiedTo_4 : decode cX0_isTiedTo 4 = .ok (.ifCond .eq 18, 3) := by decide +kernel
theorem dX0_isTiedTo_7 : decode cX0_isTiedTo 7 = .ok (.aload_n 1, 1) := by decide +kernel
theorem dX0_isTiedTo_8 : decode cX0_isTiedTo 8 = .ok (.getfield 9, 3) := by decide +kernel
theorem dX0_isTiedTo_11 : decode cX0_isTiedTo 11 = .ok (.aload_n 0, 1) := by decide +kernel
theorem dX0_isTiedTo_12 : decode cX0_isTiedTo 12 = .ok (.getfield 9, 3) := by decide +kernel
theorem dX0_isTiedTo_15 : decode cX0_isTiedTo 15 = .ok (.if_icmp .ne 7, 3) := by decide +kernel
theorem dX0_isTiedTo_18 : decode cX0_isTiedTo 18 = .ok (.iconst 1, 1) := by decide +kernel
theorem dX0_isTiedTo_19 : decode cX0_isTiedTo 19 = .ok (.goto 4, 3) := by decide +kernel
theorem dX0_isTiedTo_22 : decode cX0_isTiedTo 22 = .ok (.iconst 0, 1) := by decide +kernel
theorem dX0_isTiedTo_23 : decode cX0_isTiedTo 23 = .ok (.ireturn, 1) := by decide +kernel
theorem dX1_init_0 : decode cX1_init 0 = .ok (.aload_n 0, 1) := by decide +kernel
theorem dX1_init_1 : decode cX1_init 1 = .ok (.invokespecial 3, 3) := by decide +kernel
theorem dX1_init_4 : decode cX1_init 4 = .ok (.aload_n 0, 1) := by decide +kernel
theorem dX1_init_5 : decode cX1_init 5 = .ok (.bipush 24, 2) := by decide +kernel
theorem dX1_init_7 : decode cX1_init 7 = .ok (.newarray .int, 2) := by decide +kernel
theorem dX1_init_9 : decode cX1_init 9 = .ok (.putfield 9, 3) := by decide +kernel
theorem dX1_init_12 : decode cX1_init 12 = .ok (.aload_n 0, 1) := by decide +kernel
theorem dX1_init_13 : decode cX1_init 13 = .ok (.bipush 25, 2) := by decide +kernel
theorem dX1_init_15 : decode cX1_init 15 = .ok (.newarray .int, 2) := by decide +kernel
theorem dX1_init_17 : decode cX1_init 17 = .ok (.putfield 15, 3) := by decide +kernel
theorem dX1_init_20 : decode cX1_init 20 = .ok (.aload_n 0, 1) := by decide +kernel
theorem dX1_init_21 : decode cX1_init 21 = .ok (.bipush 25, 2) := by decide +kernel
theorem dX1_init_23 : decode cX1_init 23 = .ok (.newarray .int, 2) := by decide +kernel
theorem dX1_init_25 : decode cX1_init 25 = .ok (.putfield 18, 3) := by decide +kernel
theorem dX1_init_28 : decode cX1_init 28 = .ok (.return_, 1) := by decide +kernel
theorem dX1_breakItems_0 : decode cX1_breakItems 0 = .ok (.iload_n 2, 1) := by decide +kernel
theorem dX1_breakItems_1 : decode cX1_breakItems 1 = .ok (.aload_n 1, 1) := by decide +kernel
theorem dX1_breakItems_2 : decode cX1_breakItems 2 = .ok (.arraylength, 1) := by decide +kernel
theorem dX1_breakItems_3 : decode cX1_breakItems 3 = .ok (.bipush 24, 2) := by decide +kernel
theorem dX1_breakItems_5 : decode cX1_breakItems 5 = .ok (.invokestatic 21, 3) := by decide +kernel
theorem dX1_breakItems_8 : decode cX1_breakItems 8 = .ok (.invokestatic 21, 3) := by decide +kernel
theorem dX1_breakItems_11 : decode cX1_breakItems 11 = .ok (.istore 4, 2) := by decide +kernel
theorem dX1_breakItems_13 : decode cX1_breakItems 13 = .ok (.aload_n 0, 1) := by decide +kernel
theorem dX1_breakItems_14 : decode cX1_breakItems 14 = .ok (.getfield 15, 3) := by decide +kernel
theorem dX1_breakItems_17 : decode cX1_breakItems 17 = .ok (.iload 4, 2) := by decide +kernel
theorem dX1_breakItems_19 : decode cX1_breakItems 19 = .ok (.iconst 0, 1) := by decide +kernel
theorem dX1_breakItems_20 : decode cX1_breakItems 20 = .ok (.iastore, 1) := by decide +kernel
theorem dX1_breakItems_21 : decode cX1_breakItems 21 = .ok (.iload 4, 2) := by decide +kernel
theorem dX1_breakItems_23 : decode cX1_breakItems 23 = .ok (.iconst 1, 1) := by decide +kernel
theorem dX1_breakItems_24 : decode cX1_breakItems 24 = .ok (.isub, 1) := by decide +kernel
theorem dX1_breakItems_25 : decode cX1_breakItems 25 = .ok (.istore 5, 2) := by decide +kernel
theorem dX1_breakItems_27 : decode cX1_breakItems 27 = .ok (.iload 5, 2) := by decide +kernel
theorem dX1_breakItems_29 : decode cX1_breakItems 29 = .ok (.ifCond .lt 19, 3) := by decide +kernel
theorem dX1_breakItems_32 : decode cX1_breakItems 32 = .ok (.aload_n 0, 1) := by decide +kernel
theorem dX1_breakItems_33 : decode cX1_breakItems 33 = .ok (.iload 5, 2) := by decide +kernel
theorem dX1_breakItems_35 : decode cX1_breakItems 35 = .ok (.aload_n 1, 1) := by decide +kernel
theorem dX1_breakItems_36 : decode cX1_breakItems 36 = .ok (.iload 4, 2) := by decide +kernel
theorem dX1_breakItems_38 : decode cX1_breakItems 38 = .ok (.iload_n 3, 1) := by decide +kernel
theorem dX1_breakItems_39 : decode cX1_breakItems 39 = .ok (.invokevirtual 27, 3) := by decide +kernel
theorem dX1_breakItems_42 : decode cX1_breakItems 42 = .ok (.iinc 5 (-1), 3) := by decide +kernel
theorem dX1_breakItems_45 : decode cX1_breakItems 45 = .ok (.goto (-18), 3) := by decide +kernel
theorem dX1_breakItems_48 : decode cX1_breakItems 48 = .ok (.aload_n 0, 1) := by decide +kernel
theorem dX1_breakItems_49 : decode cX1_breakItems 49 = .ok (.iconst 0, 1) := by decide +kernel
theorem dX1_breakItems_50 : decode cX1_breakItems 50 = .ok (.putfield 31, 3) := by decide +kernel
theorem dX1_breakItems_53 : decode cX1_breakItems 53 = .ok (.iconst 0, 1) := by decide +kernel
theorem dX1_breakItems_54 : decode cX1_breakItems 54 = .ok (.istore 5, 2) := by decide +kernel
theorem dX1_breakItems_56 : decode cX1_breakItems 56 = .ok (.iload 5, 2) := by decide +kernel
theorem dX1_breakItems_58 : decode cX1_breakItems 58 = .ok (.iload 4, 2) := by decide +kernel
theorem dX1_breakItems_60 : decode cX1_breakItems 60 = .ok (.if_icmp .ge 45, 3) := by decide +kernel
theorem dX1_breakItems_63 : decode cX1_breakItems 63 = .ok (.aload_n 0, 1) := by decide +kernel
theorem dX1_breakItems_64 : decode cX1_breakItems 64 = .ok (.getfield 31, 3) := by decide +kernel
theorem dX1_breakItems_67 : decode cX1_breakItems 67 = .ok (.bipush 24, 2) := by decide +kernel
theorem dX1_breakItems_69 : decode cX1_breakItems 69 = .ok (.if_icmp .ge 36, 3) := by decide +kernel
theorem dX1_breakItems_72 : decode cX1_breakItems 72 = .ok (.aload_n 0, 1) := by decide +kernel
theorem dX1_breakItems_73 : decode cX1_breakItems 73 = .ok (.getfield 9, 3) := by decide +kernel
theorem dX1_breakItems_76 : decode cX1_breakItems 76 = .ok (.aload_n 0, 1) := by decide +kernel
theorem dX1_breakItems_77 : decode cX1_breakItems 77 = .ok (.getfield 31, 3) := by decide +kernel
theorem dX1_breakItems_80 : decode cX1_breakItems 80 = .ok (.iload 5, 2) := by decide +kernel
theorem dX1_breakItems_82 : decode cX1_breakItems 82 = .ok (.iastore, 1) := by decide +kernel
theorem dX1_breakItems_83 : decode cX1_breakItems 83 = .ok (.aload_n 0, 1) := by decide +kernel
theorem dX1_breakItems_84 : decode cX1_breakItems 84 = .ok (.dup, 1) := by decide +kernel
theorem dX1_breakItems_85 : decode cX1_breakItems 85 = .ok (.getfield 31, 3) := by decide +kernel
theorem dX1_breakItems_88 : decode cX1_breakItems 88 = .ok (.iconst 1, 1) := by decide +kernel
theorem dX1_breakItems_89 : decode cX1_breakItems 89 = .ok (.iadd, 1) := by decide +kernel
theorem dX1_breakItems_90 : decode cX1_breakItems 90 = .ok (.putfield 31, 3) := by decide +kernel
theorem dX1_breakItems_93 : decode cX1_breakItems 93 = .ok (.aload_n 0, 1) := by decide +kernel
theorem dX1_breakItems_94 : decode cX1_breakItems 94 = .ok (.getfield 18, 3) := by decide +kernel
theorem dX1_breakItems_97 : decode cX1_breakItems 97 = .ok (.iload 5, 2) := by decide +kernel
theorem dX1_breakItems_99 : decode cX1_breakItems 99 = .ok (.iaload, 1) := by decide +kernel
theorem dX1_breakItems_100 : decode cX1_breakItems 100 = .ok (.istore 5, 2) := by decide +kernel
theorem dX1_breakItems_102 : decode cX1_breakItems 102 = .ok (.goto (-46), 3) := by decide +kernel
theorem dX1_breakItems_105 : decode cX1_breakItems 105 = .ok (.return_, 1) := by decide +kernel
theorem dX1_weighLinesFrom_0 : decode cX1_weighLinesFrom 0 = .ok (.aload_n 2, 1) := by decide +kernel
theorem dX1_weighLinesFrom_1 : decode cX1_weighLinesFrom 1 = .ok (.iload_n 1, 1) := by decide +kernel
theorem dX1_weighLinesFrom_2 : decode cX1_weighLinesFrom 2 = .ok (.iaload, 1) := by decide +kernel
theorem dX1_weighLinesFrom_3 : decode cX1_weighLinesFrom 3 = .ok (.istore 5, 2) := by decide +kernel
theorem dX1_weighLinesFrom_5 : decode cX1_weighLinesFrom 5 = .ok (.aload_n 0, 1) := by decide +kernel
theorem dX1_weighLinesFrom_6 : decode cX1_weighLinesFrom 6 = .ok (.getfield 15, 3) := by decide +kernel
theorem dX1_weighLinesFrom_9 : decode cX1_weighLinesFrom 9 = .ok (.iload_n 1, 1) := by decide +kernel
theorem dX1_weighLinesFrom_10 : decode cX1_weighLinesFrom 10 = .ok (.iload 5, 2) := by decide +kernel
theorem dX1_weighLinesFrom_12 : decode cX1_weighLinesFrom 12 = .ok (.iload 4, 2) := by decide +kernel
theorem dX1_weighLinesFrom_14 : decode cX1_weighLinesFrom 14 = .ok (.iload_n 1, 1) := by decide +kernel
theorem dX1_weighLinesFrom_15 : decode cX1_weighLinesFrom 15 = .ok (.iconst 1, 1) := by decide +kernel
theorem dX1_weighLinesFrom_16 : decode cX1_weighLinesFrom 16 = .ok (.iadd, 1) := by decide +kernel
theorem dX1_weighLinesFrom_17 : decode cX1_weighLinesFrom 17 = .ok (.iload_n 3, 1) := by decide +kernel
theorem dX1_weighLinesFrom_18 : decode cX1_weighLinesFrom 18 = .ok (.if_icmp .ne 7, 3) := by decide +kernel
theorem dX1_weighLinesFrom_21 : decode cX1_weighLinesFrom 21 = .ok (.iconst 1, 1) := by decide +kernel
theorem dX1_weighLinesFrom_22 : decode cX1_weighLinesFrom 22 = .ok (.goto 4, 3) := by decide +kernel
theorem dX1_weighLinesFrom_25 : decode cX1_weighLinesFrom 25 = .ok (.iconst 0, 1) := by decide +kernel
theorem dX1_weighLinesFrom_26 : decode cX1_weighLinesFrom 26 = .ok (.invokestatic 35, 3) := by decide +kernel
theorem dX1_weighLinesFrom_29 : decode cX1_weighLinesFrom 29 = .ok (.aload_n 0, 1) := by decide +kernel
theorem dX1_weighLinesFrom_30 : decode cX1_weighLinesFrom 30 = .ok (.getfield 15, 3) := by decide +kernel
theorem dX1_weighLinesFrom_33 : decode cX1_weighLinesFrom 33 = .ok (.iload_n 1, 1) := by decide +kernel
theorem dX1_weighLinesFrom_34 : decode cX1_weighLinesFrom 34 = .ok (.iconst 1, 1) := by decide +kernel
theorem dX1_weighLinesFrom_35 : decode cX1_weighLinesFrom 35 = .ok (.iadd, 1) := by decide +kernel
theorem dX1_weighLinesFrom_36 : decode cX1_weighLinesFrom 36 = .ok (.iaload, 1) := by decide +kernel
theorem dX1_weighLinesFrom_37 : decode cX1_weighLinesFrom 37 = .ok (.iadd, 1) := by decide +kernel
theorem dX1_weighLinesFrom_38 : decode cX1_weighLinesFrom 38 = .ok (.iastore, 1) := by decide +kernel
theorem dX1_weighLinesFrom_39 : decode cX1_weighLinesFrom 39 = .ok (.aload_n 0, 1) := by decide +kernel
theorem dX1_weighLinesFrom_40 : decode cX1_weighLinesFrom 40 = .ok (.getfield 18, 3) := by decide +kernel
theorem dX1_weighLinesFrom_43 : decode cX1_weighLinesFrom 43 = .ok (.iload_n 1, 1) := by decide +kernel
theorem dX1_weighLinesFrom_44 : decode cX1_weighLinesFrom 44 = .ok (.iload_n 1, 1) := by decide +kernel
theorem dX1_weighLinesFrom_45 : decode cX1_weighLinesFrom 45 = .ok (.iconst 1, 1) := by decide +kernel
theorem dX1_weighLinesFrom_46 : decode cX1_weighLinesFrom 46 = .ok (.iadd, 1) := by decide +kernel
theorem dX1_weighLinesFrom_47 : decode cX1_weighLinesFrom 47 = .ok (.iastore, 1) := by decide +kernel
theorem dX1_weighLinesFrom_48 : decode cX1_weighLinesFrom 48 = .ok (.iload_n 1, 1) := by decide +kernel
theorem dX1_weighLinesFrom_49 : decode cX1_weighLinesFrom 49 = .ok (.iconst 2, 1) := by decide +kernel
theorem dX1_weighLinesFrom_50 : decode cX1_weighLinesFrom 50 = .ok (.iadd, 1) := by decide +kernel
theorem dX1_weighLinesFrom_51 : decode cX1_weighLinesFrom 51 = .ok (.istore 6, 2) := by decide +kernel
theorem dX1_weighLinesFrom_53 : decode cX1_weighLinesFrom 53 = .ok (.iload 6, 2) := by decide +kernel
theorem dX1_weighLinesFrom_55 : decode cX1_weighLinesFrom 55 = .ok (.iload_n 3, 1) := by decide +kernel
theorem dX1_weighLinesFrom_56 : decode cX1_weighLinesFrom 56 = .ok (.if_icmp .gt 83, 3) := by decide +kernel
theorem dX1_weighLinesFrom_59 : decode cX1_weighLinesFrom 59 = .ok (.iload 5, 2) := by decide +kernel
theorem dX1_weighLinesFrom_61 : decode cX1_weighLinesFrom 61 = .ok (.aload_n 2, 1) := by decide +kernel
theorem dX1_weighLinesFrom_62 : decode cX1_weighLinesFrom 62 = .ok (.iload 6, 2) := by decide +kernel
theorem dX1_weighLinesFrom_64 : decode cX1_weighLinesFrom 64 = .ok (.iconst 1, 1) := by decide +kernel
theorem dX1_weighLinesFrom_65 : decode cX1_weighLinesFrom 65 = .ok (.isub, 1) := by decide +kernel
theorem dX1_weighLinesFrom_66 : decode cX1_weighLinesFrom 66 = .ok (.iaload, 1) := by decide +kernel
theorem dX1_weighLinesFrom_67 : decode cX1_weighLinesFrom 67 = .ok (.iadd, 1) := by decide +kernel
theorem dX1_weighLinesFrom_68 : decode cX1_weighLinesFrom 68 = .ok (.istore 5, 2) := by decide +kernel
theorem dX1_weighLinesFrom_70 : decode cX1_weighLinesFrom 70 = .ok (.iload 5, 2) := by decide +kernel
theorem dX1_weighLinesFrom_72 : decode cX1_weighLinesFrom 72 = .ok (.iload 4, 2) := by decide +kernel
theorem dX1_weighLinesFrom_74 : decode cX1_weighLinesFrom 74 = .ok (.if_icmp .le 4, 3) := by decide +kernel
theorem dX1_weighLinesFrom_77 : decode cX1_weighLinesFrom 77 = .ok (.return_, 1) := by decide +kernel
theorem dX1_weighLinesFrom_78 : decode cX1_weighLinesFrom 78 = .ok (.iload 5, 2) := by decide +kernel
theorem dX1_weighLinesFrom_80 : decode cX1_weighLinesFrom 80 = .ok (.iload 4, 2) := by decide +kernel
theorem dX1_weighLinesFrom_82 : decode cX1_weighLinesFrom 82 = .ok (.iload 6, 2) := by decide +kernel
theorem dX1_weighLinesFrom_84 : decode cX1_weighLinesFrom 84 = .ok (.iload_n 3, 1) := by decide +kernel
theorem dX1_weighLinesFrom_85 : decode cX1_weighLinesFrom 85 = .ok (.if_icmp .ne 7, 3) := by decide +kernel
theorem dX1_weighLinesFrom_88 : decode cX1_weighLinesFrom 88 = .ok (.iconst 1, 1) := by decide +kernel
theorem dX1_weighLinesFrom_89 : decode cX1_weighLinesFrom 89 = .ok (.goto 4, 3) := by decide +kernel
theorem dX1_weighLinesFrom_92 : decode cX1_weighLinesFrom 92 = .ok (.iconst 0, 1) := by decide +kernel
theorem dX1_weighLinesFrom_93 : decode cX1_weighLinesFrom 93 = .ok (.invokestatic 35, 3) := by decide +kernel
theorem dX1_weighLinesFrom_96 : decode cX1_weighLinesFrom 96 = .ok (.aload_n 0, 1) := by decide +kernel
theorem dX1_weighLinesFrom_97 : decode cX1_weighLinesFrom 97 = .ok (.getfield 15, 3) := by decide +kernel
theorem dX1_weighLinesFrom_100 : decode cX1_weighLinesFrom 100 = .ok (.iload 6, 2) := by decide +kernel
theorem dX1_weighLinesFrom_102 : decode cX1_weighLinesFrom 102 = .ok (.iaload, 1) := by decide +kernel
theorem dX1_weighLinesFrom_103 : decode cX1_weighLinesFrom 103 = .ok (.iadd, 1) := by decide +kernel
theorem dX1_weighLinesFrom_104 : decode cX1_weighLinesFrom 104 = .ok (.istore 7, 2) := by decide +kernel
theorem dX1_weighLinesFrom_106 : decode cX1_weighLinesFrom 106 = .ok (.iload 7, 2) := by decide +kernel
theorem dX1_weighLinesFrom_108 : decode cX1_weighLinesFrom 108 = .ok (.aload_n 0, 1) := by decide +kernel
theorem dX1_weighLinesFrom_109 : decode cX1_weighLinesFrom 109 = .ok (.getfield 15, 3) := by decide +kernel
theorem dX1_weighLinesFrom_112 : decode cX1_weighLinesFrom 112 = .ok (.iload_n 1, 1) := by decide +kernel
theorem dX1_weighLinesFrom_113 : decode cX1_weighLinesFrom 113 = .ok (.iaload, 1) := by decide +kernel
theorem dX1_weighLinesFrom_114 : decode cX1_weighLinesFrom 114 = .ok (.if_icmp .gt 19, 3) := by decide +kernel
theorem dX1_weighLinesFrom_117 : decode cX1_weighLinesFrom 117 = .ok (.aload_n 0, 1) := by decide +kernel
theorem dX1_weighLinesFrom_118 : decode cX1_weighLinesFrom 118 = .ok (.getfield 15, 3) := by decide +kernel
theorem dX1_weighLinesFrom_121 : decode cX1_weighLinesFrom 121 = .ok (.iload_n 1, 1) := by decide +kernel
theorem dX1_weighLinesFrom_122 : decode cX1_weighLinesFrom 122 = .ok (.iload 7, 2) := by decide +kernel
theorem dX1_weighLinesFrom_124 : decode cX1_weighLinesFrom 124 = .ok (.iastore, 1) := by decide +kernel
theorem dX1_weighLinesFrom_125 : decode cX1_weighLinesFrom 125 = .ok (.aload_n 0, 1) := by decide +kernel
theorem dX1_weighLinesFrom_126 : decode cX1_weighLinesFrom 126 = .ok (.getfield 18, 3) := by decide +kernel
theorem dX1_weighLinesFrom_129 : decode cX1_weighLinesFrom 129 = .ok (.iload_n 1, 1) := by decide +kernel
theorem dX1_weighLinesFrom_130 : decode cX1_weighLinesFrom 130 = .ok (.iload 6, 2) := by decide +kernel
theorem dX1_weighLinesFrom_132 : decode cX1_weighLinesFrom 132 = .ok (.iastore, 1) := by decide +kernel
theorem dX1_weighLinesFrom_133 : decode cX1_weighLinesFrom 133 = .ok (.iinc 6 1, 3) := by decide +kernel
theorem dX1_weighLinesFrom_136 : decode cX1_weighLinesFrom 136 = .ok (.goto (-83), 3) := by decide +kernel
theorem dX1_weighLinesFrom_139 : decode cX1_weighLinesFrom 139 = .ok (.return_, 1) := by decide +kernel
theorem dX1_badnessOf_0 : decode cX1_badnessOf 0 = .ok (.iload_n 1, 1) := by decide +kernel
theorem dX1_badnessOf_1 : decode cX1_badnessOf 1 = .ok (.iload_n 0, 1) := by decide +kernel
theorem dX1_badnessOf_2 : decode cX1_badnessOf 2 = .ok (.isub, 1) := by decide +kernel
theorem dX1_badnessOf_3 : decode cX1_badnessOf 3 = .ok (.iload_n 1, 1) := by decide +kernel
theorem dX1_badnessOf_4 : decode cX1_badnessOf 4 = .ok (.iload_n 0, 1) := by decide +kernel
theorem dX1_badnessOf_5 : decode cX1_badnessOf 5 = .ok (.isub, 1) := by decide +kernel
theorem dX1_badnessOf_6 : decode cX1_badnessOf 6 = .ok (.imul, 1) := by decide +kernel
theorem dX1_badnessOf_7 : decode cX1_badnessOf 7 = .ok (.istore_n 3, 1) := by decide +kernel
theorem dX1_badnessOf_8 : decode cX1_badnessOf 8 = .ok (.iload_n 0, 1) := by decide +kernel
theorem dX1_badnessOf_9 : decode cX1_badnessOf 9 = .ok (.iload_n 1, 1) := by decide +kernel
theorem dX1_badnessOf_10 : decode cX1_badnessOf 10 = .ok (.if_icmp .le 8, 3) := by decide +kernel
theorem dX1_badnessOf_13 : decode cX1_badnessOf 13 = .ok (.ldc 39, 2) := by decide +kernel
theorem dX1_badnessOf_15 : decode cX1_badnessOf 15 = .ok (.iload_n 3, 1) := by decide +kernel
theorem dX1_badnessOf_16 : decode cX1_badnessOf 16 = .ok (.iadd, 1) := by decide +kernel
theorem dX1_badnessOf_17 : decode cX1_badnessOf 17 = .ok (.ireturn, 1) := by decide +kernel
theorem dX1_badnessOf_18 : decode cX1_badnessOf 18 = .ok (.iload_n 2, 1) := by decide +kernel
theorem dX1_badnessOf_19 : decode cX1_badnessOf 19 = .ok (.ifCond .eq 9, 3) := by decide +kernel
theorem dX1_badnessOf_22 : decode cX1_badnessOf 22 = .ok (.iload_n 3, 1) := by decide +kernel
theorem dX1_badnessOf_23 : decode cX1_badnessOf 23 = .ok (.iconst 4, 1) := by decide +kernel
theorem dX1_badnessOf_24 : decode cX1_badnessOf 24 = .ok (.idiv, 1) := by decide +kernel
theorem dX1_badnessOf_25 : decode cX1_badnessOf 25 = .ok (.goto 4, 3) := by decide +kernel
theorem dX1_badnessOf_28 : decode cX1_badnessOf 28 = .ok (.iload_n 3, 1) := by decide +kernel
theorem dX1_badnessOf_29 : decode cX1_badnessOf 29 = .ok (.ireturn, 1) := by decide +kernel
theorem dX2_init_0 : decode cX2_init 0 = .ok (.aload_n 0, 1) := by decide +kernel
theorem dX2_init_1 : decode cX2_init 1 = .ok (.invokespecial 3, 3) := by decide +kernel
theorem dX2_init_4 : decode cX2_init 4 = .ok (.aload_n 0, 1) := by decide +kernel
theorem dX2_init_5 : decode cX2_init 5 = .ok (.iload_n 1, 1) := by decide +kernel
theorem dX2_init_6 : decode cX2_init 6 = .ok (.putfield 9, 3) := by decide +kernel
theorem dX2_init_9 : decode cX2_init 9 = .ok (.aload_n 0, 1) := by decide +kernel
theorem dX2_init_10 : decode cX2_init 10 = .ok (.iload_n 2, 1) := by decide +kernel
theorem dX2_init_11 : decode cX2_init 11 = .ok (.putfield 15, 3) := by decide +kernel
theorem dX2_init_14 : decode cX2_init 14 = .ok (.aload_n 0, 1) := by decide +kernel
theorem dX2_init_15 : decode cX2_init 15 = .ok (.iconst (-1), 1) := by decide +kernel
theorem dX2_init_16 : decode cX2_init 16 = .ok (.putfield 18, 3) := by decide +kernel
theorem dX2_init_19 : decode cX2_init 19 = .ok (.aload_n 0, 1) := by decide +kernel
theorem dX2_init_20 : decode cX2_init 20 = .ok (.iconst 4, 1) := by decide +kernel
theorem dX2_init_21 : decode cX2_init 21 = .ok (.anewarray 21, 3) := by decide +kernel
theorem dX2_init_24 : decode cX2_init 24 = .ok (.putfield 23, 3) := by decide +kernel
theorem dX2_init_27 : decode cX2_init 27 = .ok (.iconst 0, 1) := by decide +kernel
theorem dX2_init_28 : decode cX2_init 28 = .ok (.istore_n 3, 1) := by decide +kernel
theorem dX2_init_29 : decode cX2_init 29 = .ok (.iload_n 3, 1) := by decide +kernel
theorem dX2_init_30 : decode cX2_init 30 = .ok (.iconst 4, 1) := by decide +kernel
theorem dX2_init_31 : decode cX2_init 31 = .ok (.if_icmp .ge 22, 3) := by decide +kernel
theorem dX2_init_34 : decode cX2_init 34 = .ok (.aload_n 0, 1) := by decide +kernel
theorem dX2_init_35 : decode cX2_init 35 = .ok (.getfield 23, 3) := by decide +kernel
theorem dX2_init_38 : decode cX2_init 38 = .ok (.iload_n 3, 1) := by decide +kernel
theorem dX2_init_39 : decode cX2_init 39 = .ok (.new 21, 3) := by decide +kernel
theorem dX2_init_42 : decode cX2_init 42 = .ok (.dup, 1) := by decide +kernel
theorem dX2_init_43 : decode cX2_init 43 = .ok (.invokespecial 27, 3) := by decide +kernel
theorem dX2_init_46 : decode cX2_init 46 = .ok (.aastore, 1) := by decide +kernel
theorem dX2_init_47 : decode cX2_init 47 = .ok (.iinc 3 1, 3) := by decide +kernel
theorem dX2_init_50 : decode cX2_init 50 = .ok (.goto (-21), 3) := by decide +kernel
theorem dX2_init_53 : decode cX2_init 53 = .ok (.return_, 1) := by decide +kernel
theorem dX2_ticksOf_0 : decode cX2_ticksOf 0 = .ok (.iload_n 1, 1) := by decide +kernel
theorem dX2_ticksOf_1 : decode cX2_ticksOf 1 = .ok (.ifCond .le 12, 3) := by decide +kernel
theorem dX2_ticksOf_4 : decode cX2_ticksOf 4 = .ok (.bipush 96, 2) := by decide +kernel
theorem dX2_ticksOf_6 : decode cX2_ticksOf 6 = .ok (.iload_n 0, 1) := by decide +kernel
theorem dX2_ticksOf_7 : decode cX2_ticksOf 7 = .ok (.imul, 1) := by decide +kernel
theorem dX2_ticksOf_8 : decode cX2_ticksOf 8 = .ok (.iload_n 1, 1) := by decide +kernel
theorem dX2_ticksOf_9 : decode cX2_ticksOf 9 = .ok (.idiv, 1) := by decide +kernel
theorem dX2_ticksOf_10 : decode cX2_ticksOf 10 = .ok (.goto 4, 3) := by decide +kernel
theorem dX2_ticksOf_13 : decode cX2_ticksOf 13 = .ok (.iconst 0, 1) := by decide +kernel
theorem dX2_ticksOf_14 : decode cX2_ticksOf 14 = .ok (.ireturn, 1) := by decide +kernel
theorem dX2_ticks_0 : decode cX2_ticks 0 = .ok (.aload_n 0, 1) := by decide +kernel
theorem dX2_ticks_1 : decode cX2_ticks 1 = .ok (.getfield 9, 3) := by decide +kernel
theorem dX2_ticks_4 : decode cX2_ticks 4 = .ok (.aload_n 0, 1) := by decide +kernel
theorem dX2_ticks_5 : decode cX2_ticks 5 = .ok (.getfield 15, 3) := by decide +kernel
theorem dX2_ticks_8 : decode cX2_ticks 8 = .ok (.invokestatic 28, 3) := by decide +kernel
theorem dX2_ticks_11 : decode cX2_ticks 11 = .ok (.ireturn, 1) := by decide +kernel
theorem dX2_mostTicks_0 : decode cX2_mostTicks 0 = .ok (.iconst 0, 1) := by decide +kernel
theorem dX2_mostTicks_1 : decode cX2_mostTicks 1 = .ok (.istore_n 1, 1) := by decide +kernel
theorem dX2_mostTicks_2 : decode cX2_mostTicks 2 = .ok (.iconst 0, 1) := by decide +kernel
theorem dX2_mostTicks_3 : decode cX2_mostTicks 3 = .ok (.istore_n 2, 1) := by decide +kernel
theorem dX2_mostTicks_4 : decode cX2_mostTicks 4 = .ok (.iload_n 2, 1) := by decide +kernel
theorem dX2_mostTicks_5 : decode cX2_mostTicks 5 = .ok (.iconst 4, 1) := by decide +kernel
theorem dX2_mostTicks_6 : decode cX2_mostTicks 6 = .ok (.if_icmp .ge 23, 3) := by decide +kernel
theorem dX2_mostTicks_9 : decode cX2_mostTicks 9 = .ok (.iload_n 1, 1) := by decide +kernel
theorem dX2_mostTicks_10 : decode cX2_mostTicks 10 = .ok (.aload_n 0, 1) := by decide +kernel
theorem dX2_mostTicks_11 : decode cX2_mostTicks 11 = .ok (.getfield 23, 3) := by decide +kernel
theorem dX2_mostTicks_14 : decode cX2_mostTicks 14 = .ok (.iload_n 2, 1) := by decide +kernel
theorem dX2_mostTicks_15 : decode cX2_mostTicks 15 = .ok (.aaload, 1) := by decide +kernel
theorem dX2_mostTicks_16 : decode cX2_mostTicks 16 = .ok (.getfield 32, 3) := by decide +kernel
theorem dX2_mostTicks_19 : decode cX2_mostTicks 19 = .ok (.invokestatic 35, 3) := by decide +kernel
theorem dX2_mostTicks_22 : decode cX2_mostTicks 22 = .ok (.istore_n 1, 1) := by decide +kernel
theorem dX2_mostTicks_23 : decode cX2_mostTicks 23 = .ok (.iinc 2 1, 3) := by decide +kernel
theorem dX2_mostTicks_26 : decode cX2_mostTicks 26 = .ok (.goto (-22), 3) := by decide +kernel
theorem dX2_mostTicks_29 : decode cX2_mostTicks 29 = .ok (.iload_n 1, 1) := by decide +kernel
theorem dX2_mostTicks_30 : decode cX2_mostTicks 30 = .ok (.ireturn, 1) := by decide +kernel
theorem dX2_hasMetreOf_0 : decode cX2_hasMetreOf 0 = .ok (.aload_n 0, 1) := by decide +kernel
theorem dX2_hasMetreOf_1 : decode cX2_hasMetreOf 1 = .ok (.getfield 9, 3) := by decide +kernel
theorem dX2_hasMetreOf_4 : decode cX2_hasMetreOf 4 = .ok (.aload_n 1, 1) := by decide +kernel
theorem dX2_hasMetreOf_5 : decode cX2_hasMetreOf 5 = .ok (.getfield 9, 3) := by decide +kernel
theorem dX2_hasMetreOf_8 : decode cX2_hasMetreOf 8 = .ok (.if_icmp .ne 18, 3) := by decide +kernel
theorem dX2_hasMetreOf_11 : decode cX2_hasMetreOf 11 = .ok (.aload_n 0, 1) := by decide +kernel
theorem dX2_hasMetreOf_12 : decode cX2_hasMetreOf 12 = .ok (.getfield 15, 3) := by decide +kernel
theorem dX2_hasMetreOf_15 : decode cX2_hasMetreOf 15 = .ok (.aload_n 1, 1) := by decide +kernel
theorem dX2_hasMetreOf_16 : decode cX2_hasMetreOf 16 = .ok (.getfield 15, 3) := by decide +kernel
theorem dX2_hasMetreOf_19 : decode cX2_hasMetreOf 19 = .ok (.if_icmp .ne 7, 3) := by decide +kernel
theorem dX2_hasMetreOf_22 : decode cX2_hasMetreOf 22 = .ok (.iconst 1, 1) := by decide +kernel
theorem dX2_hasMetreOf_23 : decode cX2_hasMetreOf 23 = .ok (.goto 4, 3) := by decide +kernel
theorem dX2_hasMetreOf_26 : decode cX2_hasMetreOf 26 = .ok (.iconst 0, 1) := by decide +kernel
theorem dX2_hasMetreOf_27 : decode cX2_hasMetreOf 27 = .ok (.ireturn, 1) := by decide +kernel
theorem dX3_init_0 : decode cX3_init 0 = .ok (.aload_n 0, 1) := by decide +kernel
theorem dX3_init_1 : decode cX3_init 1 = .ok (.invokespecial 3, 3) := by decide +kernel
theorem dX3_init_4 : decode cX3_init 4 = .ok (.aload_n 0, 1) := by decide +kernel
theorem dX3_init_5 : decode cX3_init 5 = .ok (.bipush 48, 2) := by decide +kernel
theorem dX3_init_7 : decode cX3_init 7 = .ok (.newarray .int, 2) := by decide +kernel
theorem dX3_init_9 : decode cX3_init 9 = .ok (.putfield 11, 3) := by decide +kernel
theorem dX3_init_12 : decode cX3_init 12 = .ok (.aload_n 0, 1) := by decide +kernel
theorem dX3_init_13 : decode cX3_init 13 = .ok (.bipush 48, 2) := by decide +kernel
theorem dX3_init_15 : decode cX3_init 15 = .ok (.newarray .int, 2) := by decide +kernel
theorem dX3_init_17 : decode cX3_init 17 = .ok (.putfield 15, 3) := by decide +kernel
theorem dX3_init_20 : decode cX3_init 20 = .ok (.aload_n 0, 1) := by decide +kernel
theorem dX3_init_21 : decode cX3_init 21 = .ok (.bipush 24, 2) := by decide +kernel
theorem dX3_init_23 : decode cX3_init 23 = .ok (.newarray .int, 2) := by decide +kernel
theorem dX3_init_25 : decode cX3_init 25 = .ok (.putfield 18, 3) := by decide +kernel
theorem dX3_init_28 : decode cX3_init 28 = .ok (.aload_n 0, 1) := by decide +kernel
theorem dX3_init_29 : decode cX3_init 29 = .ok (.bipush 24, 2) := by decide +kernel
theorem dX3_init_31 : decode cX3_init 31 = .ok (.newarray .int, 2) := by decide +kernel
theorem dX3_init_33 : decode cX3_init 33 = .ok (.putfield 21, 3) := by decide +kernel
theorem dX3_init_36 : decode cX3_init 36 = .ok (.aload_n 0, 1) := by decide +kernel
theorem dX3_init_37 : decode cX3_init 37 = .ok (.bipush 24, 2) := by decide +kernel
theorem dX3_init_39 : decode cX3_init 39 = .ok (.newarray .int, 2) := by decide +kernel
theorem dX3_init_41 : decode cX3_init 41 = .ok (.putfield 24, 3) := by decide +kernel
theorem dX3_init_44 : decode cX3_init 44 = .ok (.aload_n 0, 1) := by decide +kernel
theorem dX3_init_45 : decode cX3_init 45 = .ok (.bipush 24, 2) := by decide +kernel
theorem dX3_init_47 : decode cX3_init 47 = .ok (.newarray .int, 2) := by decide +kernel
theorem dX3_init_49 : decode cX3_init 49 = .ok (.putfield 27, 3) := by decide +kernel
theorem dX3_init_52 : decode cX3_init 52 = .ok (.aload_n 0, 1) := by decide +kernel
theorem dX3_init_53 : decode cX3_init 53 = .ok (.bipush 24, 2) := by decide +kernel
theorem dX3_init_55 : decode cX3_init 55 = .ok (.newarray .int, 2) := by decide +kernel
theorem dX3_init_57 : decode cX3_init 57 = .ok (.putfield 30, 3) := by decide +kernel
theorem dX3_init_60 : decode cX3_init 60 = .ok (.aload_n 0, 1) := by decide +kernel
theorem dX3_init_61 : decode cX3_init 61 = .ok (.bipush 100, 2) := by decide +kernel
theorem dX3_init_63 : decode cX3_init 63 = .ok (.newarray .long, 2) := by decide +kernel
theorem dX3_init_65 : decode cX3_init 65 = .ok (.putfield 33, 3) := by decide +kernel
theorem dX3_init_68 : decode cX3_init 68 = .ok (.aload_n 0, 1) := by decide +kernel
theorem dX3_init_69 : decode cX3_init 69 = .ok (.bipush 100, 2) := by decide +kernel
theorem dX3_init_71 : decode cX3_init 71 = .ok (.newarray .int, 2) := by decide +kernel
theorem dX3_init_73 : decode cX3_init 73 = .ok (.putfield 37, 3) := by decide +kernel
theorem dX3_init_76 : decode cX3_init 76 = .ok (.return_, 1) := by decide +kernel
theorem dX3_faultOf_0 : decode cX3_faultOf 0 = .ok (.iload_n 0, 1) := by decide +kernel
theorem dX3_faultOf_1 : decode cX3_faultOf 1 = .ok (.ifCond .eq 9, 3) := by decide +kernel
theorem dX3_faultOf_4 : decode cX3_faultOf 4 = .ok (.sipush 20000, 3) := by decide +kernel
theorem dX3_faultOf_7 : decode cX3_faultOf 7 = .ok (.goto 4, 3) := by decide +kernel
theorem dX3_faultOf_10 : decode cX3_faultOf 10 = .ok (.iconst 0, 1) := by decide +kernel
theorem dX3_faultOf_11 : decode cX3_faultOf 11 = .ok (.iload_n 1, 1) := by decide +kernel
theorem dX3_faultOf_12 : decode cX3_faultOf 12 = .ok (.ifCond .eq 8, 3) := by decide +kernel
theorem dX3_faultOf_15 : decode cX3_faultOf 15 = .ok (.ldc 40, 2) := by decide +kernel
theorem dX3_faultOf_17 : decode cX3_faultOf 17 = .ok (.goto 4, 3) := by decide +kernel
theorem dX3_faultOf_20 : decode cX3_faultOf 20 = .ok (.iconst 0, 1) := by decide +kernel
theorem dX3_faultOf_21 : decode cX3_faultOf 21 = .ok (.iadd, 1) := by decide +kernel
theorem dX3_faultOf_22 : decode cX3_faultOf 22 = .ok (.ireturn, 1) := by decide +kernel
theorem dX3_tellBreak_0 : decode cX3_tellBreak 0 = .ok (.iload_n 1, 1) := by decide +kernel
theorem dX3_tellBreak_1 : decode cX3_tellBreak 1 = .ok (.ifCond .lt 39, 3) := by decide +kernel
theorem dX3_tellBreak_4 : decode cX3_tellBreak 4 = .ok (.iload_n 1, 1) := by decide +kernel
theorem dX3_tellBreak_5 : decode cX3_tellBreak 5 = .ok (.bipush 24, 2) := by decide +kernel
theorem dX3_tellBreak_7 : decode cX3_tellBreak 7 = .ok (.if_icmp .ge 33, 3) := by decide +kernel
theorem dX3_tellBreak_10 : decode cX3_tellBreak 10 = .ok (.aload_n 0, 1) := by decide +kernel
theorem dX3_tellBreak_11 : decode cX3_tellBreak 11 = .ok (.getfield 21, 3) := by decide +kernel
theorem dX3_tellBreak_14 : decode cX3_tellBreak 14 = .ok (.iload_n 1, 1) := by decide +kernel
theorem dX3_tellBreak_15 : decode cX3_tellBreak 15 = .ok (.iload_n 2, 1) := by decide +kernel
theorem dX3_tellBreak_16 : decode cX3_tellBreak 16 = .ok (.iastore, 1) := by decide +kernel
theorem dX3_tellBreak_17 : decode cX3_tellBreak 17 = .ok (.aload_n 0, 1) := by decide +kernel
theorem dX3_tellBreak_18 : decode cX3_tellBreak 18 = .ok (.getfield 24, 3) := by decide +kernel
theorem dX3_tellBreak_21 : decode cX3_tellBreak 21 = .ok (.iload_n 1, 1) := by decide +kernel
theorem dX3_tellBreak_22 : decode cX3_tellBreak 22 = .ok (.iload_n 3, 1) := by decide +kernel
theorem dX3_tellBreak_23 : decode cX3_tellBreak 23 = .ok (.iastore, 1) := by decide +kernel
theorem dX3_tellBreak_24 : decode cX3_tellBreak 24 = .ok (.aload_n 0, 1) := by decide +kernel
theorem dX3_tellBreak_25 : decode cX3_tellBreak 25 = .ok (.getfield 27, 3) := by decide +kernel
theorem dX3_tellBreak_28 : decode cX3_tellBreak 28 = .ok (.iload_n 1, 1) := by decide +kernel
theorem dX3_tellBreak_29 : decode cX3_tellBreak 29 = .ok (.iload 4, 2) := by decide +kernel
theorem dX3_tellBreak_31 : decode cX3_tellBreak 31 = .ok (.iastore, 1) := by decide +kernel
theorem dX3_tellBreak_32 : decode cX3_tellBreak 32 = .ok (.aload_n 0, 1) := by decide +kernel
theorem dX3_tellBreak_33 : decode cX3_tellBreak 33 = .ok (.getfield 30, 3) := by decide +kernel
theorem dX3_tellBreak_36 : decode cX3_tellBreak 36 = .ok (.iload_n 1, 1) := by decide +kernel
theorem dX3_tellBreak_37 : decode cX3_tellBreak 37 = .ok (.iload 5, 2) := by decide +kernel
theorem dX3_tellBreak_39 : decode cX3_tellBreak 39 = .ok (.iastore, 1) := by decide +kernel
theorem dX3_tellBreak_40 : decode cX3_tellBreak 40 = .ok (.return_, 1) := by decide +kernel
theorem dX3_state_0 : decode cX3_state 0 = .ok (.iconst 4, 1) := by decide +kernel
theorem dX3_state_1 : decode cX3_state 1 = .ok (.iload_n 0, 1) := by decide +kernel
theorem dX3_state_2 : decode cX3_state 2 = .ok (.imul, 1) := by decide +kernel
theorem dX3_state_3 : decode cX3_state 3 = .ok (.iconst 2, 1) := by decide +kernel
theorem dX3_state_4 : decode cX3_state 4 = .ok (.iload_n 1, 1) := by decide +kernel
theorem dX3_state_5 : decode cX3_state 5 = .ok (.imul, 1) := by decide +kernel
theorem dX3_state_6 : decode cX3_state 6 = .ok (.iadd, 1) := by decide +kernel
theorem dX3_state_7 : decode cX3_state 7 = .ok (.iload_n 2, 1) := by decide +kernel
theorem dX3_state_8 : decode cX3_state 8 = .ok (.ifCond .eq 7, 3) := by decide +kernel
theorem dX3_state_11 : decode cX3_state 11 = .ok (.iconst 1, 1) := by decide +kernel
theorem dX3_state_12 : decode cX3_state 12 = .ok (.goto 4, 3) := by decide +kernel
theorem dX3_state_15 : decode cX3_state 15 = .ok (.iconst 0, 1) := by decide +kernel
theorem dX3_state_16 : decode cX3_state 16 = .ok (.iadd, 1) := by decide +kernel
theorem dX3_state_17 : decode cX3_state 17 = .ok (.ireturn, 1) := by decide +kernel
theorem dX3_hasTurn_0 : decode cX3_hasTurn 0 = .ok (.iload_n 0, 1) := by decide +kernel
theorem dX3_hasTurn_1 : decode cX3_hasTurn 1 = .ok (.ifCond .le 16, 3) := by decide +kernel
theorem dX3_hasTurn_4 : decode cX3_hasTurn 4 = .ok (.iload_n 2, 1) := by decide +kernel
theorem dX3_hasTurn_5 : decode cX3_hasTurn 5 = .ok (.ifCond .ne 8, 3) := by decide +kernel
theorem dX3_hasTurn_8 : decode cX3_hasTurn 8 = .ok (.iload_n 1, 1) := by decide +kernel
theorem dX3_hasTurn_9 : decode cX3_hasTurn 9 = .ok (.iconst 1, 1) := by decide +kernel
theorem dX3_hasTurn_10 : decode cX3_hasTurn 10 = .ok (.if_icmp .ne 7, 3) := by decide +kernel
theorem dX3_hasTurn_13 : decode cX3_hasTurn 13 = .ok (.iconst 1, 1) := by decide +kernel
theorem dX3_hasTurn_14 : decode cX3_hasTurn 14 = .ok (.goto 4, 3) := by decide +kernel
theorem dX3_hasTurn_17 : decode cX3_hasTurn 17 = .ok (.iconst 0, 1) := by decide +kernel
theorem dX3_hasTurn_18 : decode cX3_hasTurn 18 = .ok (.ireturn, 1) := by decide +kernel
theorem dX3_layPages_0 : decode cX3_layPages 0 = .ok (.iload_n 1, 1) := by decide +kernel
theorem dX3_layPages_1 : decode cX3_layPages 1 = .ok (.bipush 24, 2) := by decide +kernel
theorem dX3_layPages_3 : decode cX3_layPages 3 = .ok (.invokestatic 41, 3) := by decide +kernel
theorem dX3_layPages_6 : decode cX3_layPages 6 = .ok (.istore_n 3, 1) := by decide +kernel
theorem dX3_layPages_7 : decode cX3_layPages 7 = .ok (.aload_n 0, 1) := by decide +kernel
theorem dX3_layPages_8 : decode cX3_layPages 8 = .ok (.getfield 33, 3) := by decide +kernel
theorem dX3_layPages_11 : decode cX3_layPages 11 = .ok (.iload_n 3, 1) := by decide +kernel
theorem dX3_layPages_12 : decode cX3_layPages 12 = .ok (.iconst 0, 1) := by decide +kernel
theorem dX3_layPages_13 : decode cX3_layPages 13 = .ok (.iconst 0, 1) := by decide +kernel
theorem dX3_layPages_14 : decode cX3_layPages 14 = .ok (.invokestatic 47, 3) := by decide +kernel
theorem dX3_layPages_17 : decode cX3_layPages 17 = .ok (.lconst 0, 1) := by decide +kernel
theorem dX3_layPages_18 : decode cX3_layPages 18 = .ok (.lastore, 1) := by decide +kernel
theorem dX3_layPages_19 : decode cX3_layPages 19 = .ok (.aload_n 0, 1) := by decide +kernel
theorem dX3_layPages_20 : decode cX3_layPages 20 = .ok (.getfield 33, 3) := by decide +kernel
theorem dX3_layPages_23 : decode cX3_layPages 23 = .ok (.iload_n 3, 1) := by decide +kernel
theorem dX3_layPages_24 : decode cX3_layPages 24 = .ok (.iconst 1, 1) := by decide +kernel
theorem dX3_layPages_25 : decode cX3_layPages 25 = .ok (.iconst 0, 1) := by decide +kernel
theorem dX3_layPages_26 : decode cX3_layPages 26 = .ok (.invokestatic 47, 3) := by decide +kernel
theorem dX3_layPages_29 : decode cX3_layPages 29 = .ok (.lconst 0, 1) := by decide +kernel
theorem dX3_layPages_30 : decode cX3_layPages 30 = .ok (.lastore, 1) := by decide +kernel
theorem dX3_layPages_31 : decode cX3_layPages 31 = .ok (.iload_n 3, 1) := by decide +kernel
theorem dX3_layPages_32 : decode cX3_layPages 32 = .ok (.iconst 1, 1) := by decide +kernel
theorem dX3_layPages_33 : decode cX3_layPages 33 = .ok (.isub, 1) := by decide +kernel
theorem dX3_layPages_34 : decode cX3_layPages 34 = .ok (.istore 4, 2) := by decide +kernel
theorem dX3_layPages_36 : decode cX3_layPages 36 = .ok (.iload 4, 2) := by decide +kernel
theorem dX3_layPages_38 : decode cX3_layPages 38 = .ok (.ifCond .lt 49, 3) := by decide +kernel
theorem dX3_layPages_41 : decode cX3_layPages 41 = .ok (.aload_n 0, 1) := by decide +kernel
theorem dX3_layPages_42 : decode cX3_layPages 42 = .ok (.iload 4, 2) := by decide +kernel
theorem dX3_layPages_44 : decode cX3_layPages 44 = .ok (.iconst 0, 1) := by decide +kernel
theorem dX3_layPages_45 : decode cX3_layPages 45 = .ok (.iconst 1, 1) := by decide +kernel
theorem dX3_layPages_46 : decode cX3_layPages 46 = .ok (.iload_n 3, 1) := by decide +kernel
theorem dX3_layPages_47 : decode cX3_layPages 47 = .ok (.iload_n 2, 1) := by decide +kernel
theorem dX3_layPages_48 : decode cX3_layPages 48 = .ok (.invokevirtual 51, 3) := by decide +kernel
theorem dX3_layPages_51 : decode cX3_layPages 51 = .ok (.aload_n 0, 1) := by decide +kernel
theorem dX3_layPages_52 : decode cX3_layPages 52 = .ok (.iload 4, 2) := by decide +kernel
theorem dX3_layPages_54 : decode cX3_layPages 54 = .ok (.iconst 1, 1) := by decide +kernel
theorem dX3_layPages_55 : decode cX3_layPages 55 = .ok (.iconst 1, 1) := by decide +kernel
theorem dX3_layPages_56 : decode cX3_layPages 56 = .ok (.iload_n 3, 1) := by decide +kernel
theorem dX3_layPages_57 : decode cX3_layPages 57 = .ok (.iload_n 2, 1) := by decide +kernel
theorem dX3_layPages_58 : decode cX3_layPages 58 = .ok (.invokevirtual 51, 3) := by decide +kernel
theorem dX3_layPages_61 : decode cX3_layPages 61 = .ok (.aload_n 0, 1) := by decide +kernel
theorem dX3_layPages_62 : decode cX3_layPages 62 = .ok (.iload 4, 2) := by decide +kernel
theorem dX3_layPages_64 : decode cX3_layPages 64 = .ok (.iconst 0, 1) := by decide +kernel
theorem dX3_layPages_65 : decode cX3_layPages 65 = .ok (.iconst 0, 1) := by decide +kernel
theorem dX3_layPages_66 : decode cX3_layPages 66 = .ok (.iload_n 3, 1) := by decide +kernel
theorem dX3_layPages_67 : decode cX3_layPages 67 = .ok (.iload_n 2, 1) := by decide +kernel
theorem dX3_layPages_68 : decode cX3_layPages 68 = .ok (.invokevirtual 51, 3) := by decide +kernel
theorem dX3_layPages_71 : decode cX3_layPages 71 = .ok (.aload_n 0, 1) := by decide +kernel
theorem dX3_layPages_72 : decode cX3_layPages 72 = .ok (.iload 4, 2) := by decide +kernel
theorem dX3_layPages_74 : decode cX3_layPages 74 = .ok (.iconst 1, 1) := by decide +kernel
theorem dX3_layPages_75 : decode cX3_layPages 75 = .ok (.iconst 0, 1) := by decide +kernel
theorem dX3_layPages_76 : decode cX3_layPages 76 = .ok (.iload_n 3, 1) := by decide +kernel
theorem dX3_layPages_77 : decode cX3_layPages 77 = .ok (.iload_n 2, 1) := by decide +kernel
theorem dX3_layPages_78 : decode cX3_layPages 78 = .ok (.invokevirtual 51, 3) := by decide +kernel
theorem dX3_layPages_81 : decode cX3_layPages 81 = .ok (.iinc 4 (-1), 3) := by decide +kernel
theorem dX3_layPages_84 : decode cX3_layPages 84 = .ok (.goto (-48), 3) := by decide +kernel
theorem dX3_layPages_87 : decode cX3_layPages 87 = .ok (.aload_n 0, 1) := by decide +kernel
theorem dX3_layPages_88 : decode cX3_layPages 88 = .ok (.iload_n 3, 1) := by decide +kernel
theorem dX3_layPages_89 : decode cX3_layPages 89 = .ok (.invokevirtual 55, 3) := by decide +kernel
theorem dX3_layPages_92 : decode cX3_layPages 92 = .ok (.return_, 1) := by decide +kernel
theorem dX3_weighPagesFrom_0 : decode cX3_weighPagesFrom 0 = .ok (.iload_n 1, 1) := by decide +kernel
theorem dX3_weighPagesFrom_1 : decode cX3_weighPagesFrom 1 = .ok (.iload_n 2, 1) := by decide +kernel
theorem dX3_weighPagesFrom_2 : decode cX3_weighPagesFrom 2 = .ok (.iload_n 3, 1) := by decide +kernel
theorem dX3_weighPagesFrom_3 : decode cX3_weighPagesFrom 3 = .ok (.invokestatic 47, 3) := by decide +kernel
theorem dX3_weighPagesFrom_6 : decode cX3_weighPagesFrom 6 = .ok (.istore 6, 2) := by decide +kernel
theorem dX3_weighPagesFrom_8 : decode cX3_weighPagesFrom 8 = .ok (.iload_n 1, 1) := by decide +kernel
theorem dX3_weighPagesFrom_9 : decode cX3_weighPagesFrom 9 = .ok (.iload_n 2, 1) := by decide +kernel
theorem dX3_weighPagesFrom_10 : decode cX3_weighPagesFrom 10 = .ok (.iload_n 3, 1) := by decide +kernel
theorem dX3_weighPagesFrom_11 : decode cX3_weighPagesFrom 11 = .ok (.invokestatic 59, 3) := by decide +kernel
theorem dX3_weighPagesFrom_14 : decode cX3_weighPagesFrom 14 = .ok (.ifCond .eq 12, 3) := by decide +kernel
theorem dX3_weighPagesFrom_17 : decode cX3_weighPagesFrom 17 = .ok (.aload_n 0, 1) := by decide +kernel
theorem dX3_weighPagesFrom_18 : decode cX3_weighPagesFrom 18 = .ok (.getfield 30, 3) := by decide +kernel
theorem dX3_weighPagesFrom_21 : decode cX3_weighPagesFrom 21 = .ok (.iload_n 1, 1) := by decide +kernel
theorem dX3_weighPagesFrom_22 : decode cX3_weighPagesFrom 22 = .ok (.iaload, 1) := by decide +kernel
theorem dX3_weighPagesFrom_23 : decode cX3_weighPagesFrom 23 = .ok (.goto 4, 3) := by decide +kernel
theorem dX3_weighPagesFrom_26 : decode cX3_weighPagesFrom 26 = .ok (.iconst 0, 1) := by decide +kernel
theorem dX3_weighPagesFrom_27 : decode cX3_weighPagesFrom 27 = .ok (.istore 7, 2) := by decide +kernel
theorem dX3_weighPagesFrom_29 : decode cX3_weighPagesFrom 29 = .ok (.aload_n 0, 1) := by decide +kernel
theorem dX3_weighPagesFrom_30 : decode cX3_weighPagesFrom 30 = .ok (.getfield 33, 3) := by decide +kernel
theorem dX3_weighPagesFrom_33 : decode cX3_weighPagesFrom 33 = .ok (.iload 6, 2) := by decide +kernel
theorem dX3_weighPagesFrom_35 : decode cX3_weighPagesFrom 35 = .ok (.ldc2_w 63, 3) := by decide +kernel
theorem dX3_weighPagesFrom_38 : decode cX3_weighPagesFrom 38 = .ok (.lastore, 1) := by decide +kernel
theorem dX3_weighPagesFrom_39 : decode cX3_weighPagesFrom 39 = .ok (.iload 5, 2) := by decide +kernel
theorem dX3_weighPagesFrom_41 : decode cX3_weighPagesFrom 41 = .ok (.iload 4, 2) := by decide +kernel
theorem dX3_weighPagesFrom_43 : decode cX3_weighPagesFrom 43 = .ok (.iload_n 1, 1) := by decide +kernel
theorem dX3_weighPagesFrom_44 : decode cX3_weighPagesFrom 44 = .ok (.isub, 1) := by decide +kernel
theorem dX3_weighPagesFrom_45 : decode cX3_weighPagesFrom 45 = .ok (.invokestatic 41, 3) := by decide +kernel
theorem dX3_weighPagesFrom_48 : decode cX3_weighPagesFrom 48 = .ok (.istore 8, 2) := by decide +kernel
theorem dX3_weighPagesFrom_50 : decode cX3_weighPagesFrom 50 = .ok (.iload 8, 2) := by decide +kernel
theorem dX3_weighPagesFrom_52 : decode cX3_weighPagesFrom 52 = .ok (.ifCond .le 97, 3) := by decide +kernel
theorem dX3_weighPagesFrom_55 : decode cX3_weighPagesFrom 55 = .ok (.iload_n 1, 1) := by decide +kernel
theorem dX3_weighPagesFrom_56 : decode cX3_weighPagesFrom 56 = .ok (.iload 8, 2) := by decide +kernel
theorem dX3_weighPagesFrom_58 : decode cX3_weighPagesFrom 58 = .ok (.iadd, 1) := by decide +kernel
theorem dX3_weighPagesFrom_59 : decode cX3_weighPagesFrom 59 = .ok (.iload 4, 2) := by decide +kernel
theorem dX3_weighPagesFrom_61 : decode cX3_weighPagesFrom 61 = .ok (.if_icmp .ge 11, 3) := by decide +kernel
theorem dX3_weighPagesFrom_64 : decode cX3_weighPagesFrom 64 = .ok (.iload 5, 2) := by decide +kernel
theorem dX3_weighPagesFrom_66 : decode cX3_weighPagesFrom 66 = .ok (.iload 8, 2) := by decide +kernel
theorem dX3_weighPagesFrom_68 : decode cX3_weighPagesFrom 68 = .ok (.isub, 1) := by decide +kernel
theorem dX3_weighPagesFrom_69 : decode cX3_weighPagesFrom 69 = .ok (.goto 4, 3) := by decide +kernel
theorem dX3_weighPagesFrom_72 : decode cX3_weighPagesFrom 72 = .ok (.iconst 0, 1) := by decide +kernel
theorem dX3_weighPagesFrom_73 : decode cX3_weighPagesFrom 73 = .ok (.istore 9, 2) := by decide +kernel
theorem dX3_weighPagesFrom_75 : decode cX3_weighPagesFrom 75 = .ok (.ldc2_w 65, 3) := by decide +kernel
theorem dX3_weighPagesFrom_78 : decode cX3_weighPagesFrom 78 = .ok (.iload 7, 2) := by decide +kernel
theorem dX3_weighPagesFrom_80 : decode cX3_weighPagesFrom 80 = .ok (.bipush 100, 2) := by decide +kernel
theorem dX3_weighPagesFrom_82 : decode cX3_weighPagesFrom 82 = .ok (.iload 9, 2) := by decide +kernel
theorem dX3_weighPagesFrom_84 : decode cX3_weighPagesFrom 84 = .ok (.imul, 1) := by decide +kernel
theorem dX3_weighPagesFrom_85 : decode cX3_weighPagesFrom 85 = .ok (.iload 9, 2) := by decide +kernel
theorem dX3_weighPagesFrom_87 : decode cX3_weighPagesFrom 87 = .ok (.imul, 1) := by decide +kernel
theorem dX3_weighPagesFrom_88 : decode cX3_weighPagesFrom 88 = .ok (.iadd, 1) := by decide +kernel
theorem dX3_weighPagesFrom_89 : decode cX3_weighPagesFrom 89 = .ok (.i2l, 1) := by decide +kernel
theorem dX3_weighPagesFrom_90 : decode cX3_weighPagesFrom 90 = .ok (.lmul, 1) := by decide +kernel
theorem dX3_weighPagesFrom_91 : decode cX3_weighPagesFrom 91 = .ok (.lconst 1, 1) := by decide +kernel
theorem dX3_weighPagesFrom_92 : decode cX3_weighPagesFrom 92 = .ok (.ladd, 1) := by decide +kernel
theorem dX3_weighPagesFrom_93 : decode cX3_weighPagesFrom 93 = .ok (.aload_n 0, 1) := by decide +kernel
theorem dX3_weighPagesFrom_94 : decode cX3_weighPagesFrom 94 = .ok (.getfield 33, 3) := by decide +kernel
theorem dX3_weighPagesFrom_97 : decode cX3_weighPagesFrom 97 = .ok (.iload_n 1, 1) := by decide +kernel
theorem dX3_weighPagesFrom_98 : decode cX3_weighPagesFrom 98 = .ok (.iload 8, 2) := by decide +kernel
theorem dX3_weighPagesFrom_100 : decode cX3_weighPagesFrom 100 = .ok (.iadd, 1) := by decide +kernel
theorem dX3_weighPagesFrom_101 : decode cX3_weighPagesFrom 101 = .ok (.iconst 1, 1) := by decide +kernel
theorem dX3_weighPagesFrom_102 : decode cX3_weighPagesFrom 102 = .ok (.iload_n 2, 1) := by decide +kernel
theorem dX3_weighPagesFrom_103 : decode cX3_weighPagesFrom 103 = .ok (.isub, 1) := by decide +kernel
theorem dX3_weighPagesFrom_104 : decode cX3_weighPagesFrom 104 = .ok (.iconst 0, 1) := by decide +kernel
theorem dX3_weighPagesFrom_105 : decode cX3_weighPagesFrom 105 = .ok (.invokestatic 47, 3) := by decide +kernel
theorem dX3_weighPagesFrom_108 : decode cX3_weighPagesFrom 108 = .ok (.laload, 1) := by decide +kernel
theorem dX3_weighPagesFrom_109 : decode cX3_weighPagesFrom 109 = .ok (.ladd, 1) := by decide +kernel
theorem dX3_weighPagesFrom_110 : decode cX3_weighPagesFrom 110 = .ok (.lstore 10, 2) := by decide +kernel
theorem dX3_weighPagesFrom_112 : decode cX3_weighPagesFrom 112 = .ok (.lload 10, 2) := by decide +kernel
theorem dX3_weighPagesFrom_114 : decode cX3_weighPagesFrom 114 = .ok (.aload_n 0, 1) := by decide +kernel
theorem dX3_weighPagesFrom_115 : decode cX3_weighPagesFrom 115 = .ok (.getfield 33, 3) := by decide +kernel
theorem dX3_weighPagesFrom_118 : decode cX3_weighPagesFrom 118 = .ok (.iload 6, 2) := by decide +kernel
theorem dX3_weighPagesFrom_120 : decode cX3_weighPagesFrom 120 = .ok (.laload, 1) := by decide +kernel
theorem dX3_weighPagesFrom_121 : decode cX3_weighPagesFrom 121 = .ok (.lcmp, 1) := by decide +kernel
theorem dX3_weighPagesFrom_122 : decode cX3_weighPagesFrom 122 = .ok (.ifCond .ge 21, 3) := by decide +kernel
theorem dX3_weighPagesFrom_125 : decode cX3_weighPagesFrom 125 = .ok (.aload_n 0, 1) := by decide +kernel
theorem dX3_weighPagesFrom_126 : decode cX3_weighPagesFrom 126 = .ok (.getfield 33, 3) := by decide +kernel
theorem dX3_weighPagesFrom_129 : decode cX3_weighPagesFrom 129 = .ok (.iload 6, 2) := by decide +kernel
theorem dX3_weighPagesFrom_131 : decode cX3_weighPagesFrom 131 = .ok (.lload 10, 2) := by decide +kernel
theorem dX3_weighPagesFrom_133 : decode cX3_weighPagesFrom 133 = .ok (.lastore, 1) := by decide +kernel
theorem dX3_weighPagesFrom_134 : decode cX3_weighPagesFrom 134 = .ok (.aload_n 0, 1) := by decide +kernel
theorem dX3_weighPagesFrom_135 : decode cX3_weighPagesFrom 135 = .ok (.getfield 37, 3) := by decide +kernel
theorem dX3_weighPagesFrom_138 : decode cX3_weighPagesFrom 138 = .ok (.iload 6, 2) := by decide +kernel
theorem dX3_weighPagesFrom_140 : decode cX3_weighPagesFrom 140 = .ok (.iload 8, 2) := by decide +kernel
theorem dX3_weighPagesFrom_142 : decode cX3_weighPagesFrom 142 = .ok (.iastore, 1) := by decide +kernel
theorem dX3_weighPagesFrom_143 : decode cX3_weighPagesFrom 143 = .ok (.iinc 8 (-1), 3) := by decide +kernel
theorem dX3_weighPagesFrom_146 : decode cX3_weighPagesFrom 146 = .ok (.goto (-96), 3) := by decide +kernel
theorem dX3_weighPagesFrom_149 : decode cX3_weighPagesFrom 149 = .ok (.iload_n 3, 1) := by decide +kernel
theorem dX3_weighPagesFrom_150 : decode cX3_weighPagesFrom 150 = .ok (.ifCond .ne 52, 3) := by decide +kernel
theorem dX3_weighPagesFrom_153 : decode cX3_weighPagesFrom 153 = .ok (.ldc2_w 67, 3) := by decide +kernel
theorem dX3_weighPagesFrom_156 : decode cX3_weighPagesFrom 156 = .ok (.aload_n 0, 1) := by decide +kernel
theorem dX3_weighPagesFrom_157 : decode cX3_weighPagesFrom 157 = .ok (.getfield 33, 3) := by decide +kernel
theorem dX3_weighPagesFrom_160 : decode cX3_weighPagesFrom 160 = .ok (.iload_n 1, 1) := by decide +kernel
theorem dX3_weighPagesFrom_161 : decode cX3_weighPagesFrom 161 = .ok (.iconst 1, 1) := by decide +kernel
theorem dX3_weighPagesFrom_162 : decode cX3_weighPagesFrom 162 = .ok (.iload_n 2, 1) := by decide +kernel
theorem dX3_weighPagesFrom_163 : decode cX3_weighPagesFrom 163 = .ok (.isub, 1) := by decide +kernel
theorem dX3_weighPagesFrom_164 : decode cX3_weighPagesFrom 164 = .ok (.iconst 1, 1) := by decide +kernel
theorem dX3_weighPagesFrom_165 : decode cX3_weighPagesFrom 165 = .ok (.invokestatic 47, 3) := by decide +kernel
theorem dX3_weighPagesFrom_168 : decode cX3_weighPagesFrom 168 = .ok (.laload, 1) := by decide +kernel
theorem dX3_weighPagesFrom_169 : decode cX3_weighPagesFrom 169 = .ok (.ladd, 1) := by decide +kernel
theorem dX3_weighPagesFrom_170 : decode cX3_weighPagesFrom 170 = .ok (.lstore 8, 2) := by decide +kernel
theorem dX3_weighPagesFrom_172 : decode cX3_weighPagesFrom 172 = .ok (.lload 8, 2) := by decide +kernel
theorem dX3_weighPagesFrom_174 : decode cX3_weighPagesFrom 174 = .ok (.aload_n 0, 1) := by decide +kernel
theorem dX3_weighPagesFrom_175 : decode cX3_weighPagesFrom 175 = .ok (.getfield 33, 3) := by decide +kernel
theorem dX3_weighPagesFrom_178 : decode cX3_weighPagesFrom 178 = .ok (.iload 6, 2) := by decide +kernel
theorem dX3_weighPagesFrom_180 : decode cX3_weighPagesFrom 180 = .ok (.laload, 1) := by decide +kernel
theorem dX3_weighPagesFrom_181 : decode cX3_weighPagesFrom 181 = .ok (.lcmp, 1) := by decide +kernel
theorem dX3_weighPagesFrom_182 : decode cX3_weighPagesFrom 182 = .ok (.ifCond .ge 20, 3) := by decide +kernel
theorem dX3_weighPagesFrom_185 : decode cX3_weighPagesFrom 185 = .ok (.aload_n 0, 1) := by decide +kernel
theorem dX3_weighPagesFrom_186 : decode cX3_weighPagesFrom 186 = .ok (.getfield 33, 3) := by decide +kernel
theorem dX3_weighPagesFrom_189 : decode cX3_weighPagesFrom 189 = .ok (.iload 6, 2) := by decide +kernel
theorem dX3_weighPagesFrom_191 : decode cX3_weighPagesFrom 191 = .ok (.lload 8, 2) := by decide +kernel
theorem dX3_weighPagesFrom_193 : decode cX3_weighPagesFrom 193 = .ok (.lastore, 1) := by decide +kernel
theorem dX3_weighPagesFrom_194 : decode cX3_weighPagesFrom 194 = .ok (.aload_n 0, 1) := by decide +kernel
theorem dX3_weighPagesFrom_195 : decode cX3_weighPagesFrom 195 = .ok (.getfield 37, 3) := by decide +kernel
theorem dX3_weighPagesFrom_198 : decode cX3_weighPagesFrom 198 = .ok (.iload 6, 2) := by decide +kernel
theorem dX3_weighPagesFrom_200 : decode cX3_weighPagesFrom 200 = .ok (.iconst 0, 1) := by decide +kernel
theorem dX3_weighPagesFrom_201 : decode cX3_weighPagesFrom 201 = .ok (.iastore, 1) := by decide +kernel
theorem dX3_weighPagesFrom_202 : decode cX3_weighPagesFrom 202 = .ok (.return_, 1) := by decide +kernel
theorem dX3_takeLeastPages_0 : decode cX3_takeLeastPages 0 = .ok (.iconst 0, 1) := by decide +kernel
theorem dX3_takeLeastPages_1 : decode cX3_takeLeastPages 1 = .ok (.istore_n 2, 1) := by decide +kernel
theorem dX3_takeLeastPages_2 : decode cX3_takeLeastPages 2 = .ok (.iconst 0, 1) := by decide +kernel
theorem dX3_takeLeastPages_3 : decode cX3_takeLeastPages 3 = .ok (.istore_n 3, 1) := by decide +kernel
theorem dX3_takeLeastPages_4 : decode cX3_takeLeastPages 4 = .ok (.aload_n 0, 1) := by decide +kernel
theorem dX3_takeLeastPages_5 : decode cX3_takeLeastPages 5 = .ok (.iconst 0, 1) := by decide +kernel
theorem dX3_takeLeastPages_6 : decode cX3_takeLeastPages 6 = .ok (.putfield 69, 3) := by decide +kernel
theorem dX3_takeLeastPages_9 : decode cX3_takeLeastPages 9 = .ok (.aload_n 0, 1) := by decide +kernel
theorem dX3_takeLeastPages_10 : decode cX3_takeLeastPages 10 = .ok (.iconst 0, 1) := by decide +kernel
theorem dX3_takeLeastPages_11 : decode cX3_takeLeastPages 11 = .ok (.putfield 73, 3) := by decide +kernel
theorem dX3_takeLeastPages_14 : decode cX3_takeLeastPages 14 = .ok (.iload_n 2, 1) := by decide +kernel
theorem dX3_takeLeastPages_15 : decode cX3_takeLeastPages 15 = .ok (.iload_n 1, 1) := by decide +kernel
theorem dX3_takeLeastPages_16 : decode cX3_takeLeastPages 16 = .ok (.if_icmp .ge 128, 3) := by decide +kernel
theorem dX3_takeLeastPages_19 : decode cX3_takeLeastPages 19 = .ok (.aload_n 0, 1) := by decide +kernel
theorem dX3_takeLeastPages_20 : decode cX3_takeLeastPages 20 = .ok (.getfield 69, 3) := by decide +kernel
theorem dX3_takeLeastPages_23 : decode cX3_takeLeastPages 23 = .ok (.bipush 48, 2) := by decide +kernel
theorem dX3_takeLeastPages_25 : decode cX3_takeLeastPages 25 = .ok (.if_icmp .ge 119, 3) := by decide +kernel
theorem dX3_takeLeastPages_28 : decode cX3_takeLeastPages 28 = .ok (.aload_n 0, 1) := by decide +kernel
theorem dX3_takeLeastPages_29 : decode cX3_takeLeastPages 29 = .ok (.getfield 69, 3) := by decide +kernel
theorem dX3_takeLeastPages_32 : decode cX3_takeLeastPages 32 = .ok (.iconst 2, 1) := by decide +kernel
theorem dX3_takeLeastPages_33 : decode cX3_takeLeastPages 33 = .ok (.irem, 1) := by decide +kernel
theorem dX3_takeLeastPages_34 : decode cX3_takeLeastPages 34 = .ok (.istore 4, 2) := by decide +kernel
theorem dX3_takeLeastPages_36 : decode cX3_takeLeastPages 36 = .ok (.aload_n 0, 1) := by decide +kernel
theorem dX3_takeLeastPages_37 : decode cX3_takeLeastPages 37 = .ok (.getfield 37, 3) := by decide +kernel
theorem dX3_takeLeastPages_40 : decode cX3_takeLeastPages 40 = .ok (.iload_n 2, 1) := by decide +kernel
theorem dX3_takeLeastPages_41 : decode cX3_takeLeastPages 41 = .ok (.iload 4, 2) := by decide +kernel
theorem dX3_takeLeastPages_43 : decode cX3_takeLeastPages 43 = .ok (.iload_n 3, 1) := by decide +kernel
theorem dX3_takeLeastPages_44 : decode cX3_takeLeastPages 44 = .ok (.invokestatic 47, 3) := by decide +kernel
theorem dX3_takeLeastPages_47 : decode cX3_takeLeastPages 47 = .ok (.iaload, 1) := by decide +kernel
theorem dX3_takeLeastPages_48 : decode cX3_takeLeastPages 48 = .ok (.istore 5, 2) := by decide +kernel
theorem dX3_takeLeastPages_50 : decode cX3_takeLeastPages 50 = .ok (.iload 5, 2) := by decide +kernel
theorem dX3_takeLeastPages_52 : decode cX3_takeLeastPages 52 = .ok (.ifCond .le 42, 3) := by decide +kernel
theorem dX3_takeLeastPages_55 : decode cX3_takeLeastPages 55 = .ok (.iload_n 2, 1) := by decide +kernel
theorem dX3_takeLeastPages_56 : decode cX3_takeLeastPages 56 = .ok (.iload 4, 2) := by decide +kernel
theorem dX3_takeLeastPages_58 : decode cX3_takeLeastPages 58 = .ok (.iload_n 3, 1) := by decide +kernel
theorem dX3_takeLeastPages_59 : decode cX3_takeLeastPages 59 = .ok (.invokestatic 59, 3) := by decide +kernel
theorem dX3_takeLeastPages_62 : decode cX3_takeLeastPages 62 = .ok (.ifCond .eq 32, 3) := by decide +kernel
theorem dX3_takeLeastPages_65 : decode cX3_takeLeastPages 65 = .ok (.aload_n 0, 1) := by decide +kernel
theorem dX3_takeLeastPages_66 : decode cX3_takeLeastPages 66 = .ok (.getfield 73, 3) := by decide +kernel
theorem dX3_takeLeastPages_69 : decode cX3_takeLeastPages 69 = .ok (.bipush 24, 2) := by decide +kernel
theorem dX3_takeLeastPages_71 : decode cX3_takeLeastPages 71 = .ok (.if_icmp .ge 23, 3) := by decide +kernel
theorem dX3_takeLeastPages_74 : decode cX3_takeLeastPages 74 = .ok (.aload_n 0, 1) := by decide +kernel
theorem dX3_takeLeastPages_75 : decode cX3_takeLeastPages 75 = .ok (.getfield 18, 3) := by decide +kernel
theorem dX3_takeLeastPages_78 : decode cX3_takeLeastPages 78 = .ok (.aload_n 0, 1) := by decide +kernel
theorem dX3_takeLeastPages_79 : decode cX3_takeLeastPages 79 = .ok (.getfield 73, 3) := by decide +kernel
theorem dX3_takeLeastPages_82 : decode cX3_takeLeastPages 82 = .ok (.iload_n 2, 1) := by decide +kernel
theorem dX3_takeLeastPages_83 : decode cX3_takeLeastPages 83 = .ok (.iastore, 1) := by decide +kernel
theorem dX3_takeLeastPages_84 : decode cX3_takeLeastPages 84 = .ok (.aload_n 0, 1) := by decide +kernel
theorem dX3_takeLeastPages_85 : decode cX3_takeLeastPages 85 = .ok (.dup, 1) := by decide +kernel
theorem dX3_takeLeastPages_86 : decode cX3_takeLeastPages 86 = .ok (.getfield 73, 3) := by decide +kernel
theorem dX3_takeLeastPages_89 : decode cX3_takeLeastPages 89 = .ok (.iconst 1, 1) := by decide +kernel
theorem dX3_takeLeastPages_90 : decode cX3_takeLeastPages 90 = .ok (.iadd, 1) := by decide +kernel
theorem dX3_takeLeastPages_91 : decode cX3_takeLeastPages 91 = .ok (.putfield 73, 3) := by decide +kernel
theorem dX3_takeLeastPages_94 : decode cX3_takeLeastPages 94 = .ok (.aload_n 0, 1) := by decide +kernel
theorem dX3_takeLeastPages_95 : decode cX3_takeLeastPages 95 = .ok (.getfield 11, 3) := by decide +kernel
theorem dX3_takeLeastPages_98 : decode cX3_takeLeastPages 98 = .ok (.aload_n 0, 1) := by decide +kernel
theorem dX3_takeLeastPages_99 : decode cX3_takeLeastPages 99 = .ok (.getfield 69, 3) := by decide +kernel
theorem dX3_takeLeastPages_102 : decode cX3_takeLeastPages 102 = .ok (.iload 5, 2) := by decide +kernel
theorem dX3_takeLeastPages_104 : decode cX3_takeLeastPages 104 = .ok (.iastore, 1) := by decide +kernel
theorem dX3_takeLeastPages_105 : decode cX3_takeLeastPages 105 = .ok (.aload_n 0, 1) := by decide +kernel
theorem dX3_takeLeastPages_106 : decode cX3_takeLeastPages 106 = .ok (.getfield 15, 3) := by decide +kernel
theorem dX3_takeLeastPages_109 : decode cX3_takeLeastPages 109 = .ok (.aload_n 0, 1) := by decide +kernel
theorem dX3_takeLeastPages_110 : decode cX3_takeLeastPages 110 = .ok (.getfield 69, 3) := by decide +kernel
theorem dX3_takeLeastPages_113 : decode cX3_takeLeastPages 113 = .ok (.iload_n 2, 1) := by decide +kernel
theorem dX3_takeLeastPages_114 : decode cX3_takeLeastPages 114 = .ok (.iastore, 1) := by decide +kernel
theorem dX3_takeLeastPages_115 : decode cX3_takeLeastPages 115 = .ok (.aload_n 0, 1) := by decide +kernel
theorem dX3_takeLeastPages_116 : decode cX3_takeLeastPages 116 = .ok (.dup, 1) := by decide +kernel
theorem dX3_takeLeastPages_117 : decode cX3_takeLeastPages 117 = .ok (.getfield 69, 3) := by decide +kernel
theorem dX3_takeLeastPages_120 : decode cX3_takeLeastPages 120 = .ok (.iconst 1, 1) := by decide +kernel
theorem dX3_takeLeastPages_121 : decode cX3_takeLeastPages 121 = .ok (.iadd, 1) := by decide +kernel
theorem dX3_takeLeastPages_122 : decode cX3_takeLeastPages 122 = .ok (.putfield 69, 3) := by decide +kernel
theorem dX3_takeLeastPages_125 : decode cX3_takeLeastPages 125 = .ok (.iload_n 2, 1) := by decide +kernel
theorem dX3_takeLeastPages_126 : decode cX3_takeLeastPages 126 = .ok (.iload 5, 2) := by decide +kernel
theorem dX3_takeLeastPages_128 : decode cX3_takeLeastPages 128 = .ok (.iadd, 1) := by decide +kernel
theorem dX3_takeLeastPages_129 : decode cX3_takeLeastPages 129 = .ok (.istore_n 2, 1) := by decide +kernel
theorem dX3_takeLeastPages_130 : decode cX3_takeLeastPages 130 = .ok (.iload 5, 2) := by decide +kernel
theorem dX3_takeLeastPages_132 : decode cX3_takeLeastPages 132 = .ok (.ifCond .ne 7, 3) := by decide +kernel
theorem dX3_takeLeastPages_135 : decode cX3_takeLeastPages 135 = .ok (.iconst 1, 1) := by decide +kernel
theorem dX3_takeLeastPages_136 : decode cX3_takeLeastPages 136 = .ok (.goto 4, 3) := by decide +kernel
theorem dX3_takeLeastPages_139 : decode cX3_takeLeastPages 139 = .ok (.iconst 0, 1) := by decide +kernel
theorem dX3_takeLeastPages_140 : decode cX3_takeLeastPages 140 = .ok (.istore_n 3, 1) := by decide +kernel
theorem dX3_takeLeastPages_141 : decode cX3_takeLeastPages 141 = .ok (.goto (-127), 3) := by decide +kernel
theorem dX3_takeLeastPages_144 : decode cX3_takeLeastPages 144 = .ok (.return_, 1) := by decide +kernel
theorem dX3_pageWithLine_0 : decode cX3_pageWithLine 0 = .ok (.iconst 0, 1) := by decide +kernel
theorem dX3_pageWithLine_1 : decode cX3_pageWithLine 1 = .ok (.istore_n 2, 1) := by decide +kernel
theorem dX3_pageWithLine_2 : decode cX3_pageWithLine 2 = .ok (.iload_n 2, 1) := by decide +kernel
theorem dX3_pageWithLine_3 : decode cX3_pageWithLine 3 = .ok (.aload_n 0, 1) := by decide +kernel
theorem dX3_pageWithLine_4 : decode cX3_pageWithLine 4 = .ok (.getfield 69, 3) := by decide +kernel
theorem dX3_pageWithLine_7 : decode cX3_pageWithLine 7 = .ok (.if_icmp .ge 28, 3) := by decide +kernel
theorem dX3_pageWithLine_10 : decode cX3_pageWithLine 10 = .ok (.iload_n 1, 1) := by decide +kernel
theorem dX3_pageWithLine_11 : decode cX3_pageWithLine 11 = .ok (.aload_n 0, 1) := by decide +kernel
theorem dX3_pageWithLine_12 : decode cX3_pageWithLine 12 = .ok (.getfield 15, 3) := by decide +kernel
theorem dX3_pageWithLine_15 : decode cX3_pageWithLine 15 = .ok (.iload_n 2, 1) := by decide +kernel
theorem dX3_pageWithLine_16 : decode cX3_pageWithLine 16 = .ok (.iaload, 1) := by decide +kernel
theorem dX3_pageWithLine_17 : decode cX3_pageWithLine 17 = .ok (.aload_n 0, 1) := by decide +kernel
theorem dX3_pageWithLine_18 : decode cX3_pageWithLine 18 = .ok (.getfield 11, 3) := by decide +kernel
theorem dX3_pageWithLine_21 : decode cX3_pageWithLine 21 = .ok (.iload_n 2, 1) := by decide +kernel
theorem dX3_pageWithLine_22 : decode cX3_pageWithLine 22 = .ok (.iaload, 1) := by decide +kernel
theorem dX3_pageWithLine_23 : decode cX3_pageWithLine 23 = .ok (.iadd, 1) := by decide +kernel
theorem dX3_pageWithLine_24 : decode cX3_pageWithLine 24 = .ok (.if_icmp .ge 5, 3) := by decide +kernel
theorem dX3_pageWithLine_27 : decode cX3_pageWithLine 27 = .ok (.iload_n 2, 1) := by decide +kernel
theorem dX3_pageWithLine_28 : decode cX3_pageWithLine 28 = .ok (.ireturn, 1) := by decide +kernel
theorem dX3_pageWithLine_29 : decode cX3_pageWithLine 29 = .ok (.iinc 2 1, 3) := by decide +kernel
theorem dX3_pageWithLine_32 : decode cX3_pageWithLine 32 = .ok (.goto (-30), 3) := by decide +kernel
theorem dX3_pageWithLine_35 : decode cX3_pageWithLine 35 = .ok (.iconst (-1), 1) := by decide +kernel
theorem dX3_pageWithLine_36 : decode cX3_pageWithLine 36 = .ok (.ireturn, 1) := by decide +kernel
theorem dX3_faultyTurns_0 : decode cX3_faultyTurns 0 = .ok (.iconst 0, 1) := by decide +kernel
theorem dX3_faultyTurns_1 : decode cX3_faultyTurns 1 = .ok (.istore_n 1, 1) := by decide +kernel
theorem dX3_faultyTurns_2 : decode cX3_faultyTurns 2 = .ok (.iconst 0, 1) := by decide +kernel
theorem dX3_faultyTurns_3 : decode cX3_faultyTurns 3 = .ok (.istore_n 2, 1) := by decide +kernel
theorem dX3_faultyTurns_4 : decode cX3_faultyTurns 4 = .ok (.iload_n 2, 1) := by decide +kernel
theorem dX3_faultyTurns_5 : decode cX3_faultyTurns 5 = .ok (.aload_n 0, 1) := by decide +kernel
theorem dX3_faultyTurns_6 : decode cX3_faultyTurns 6 = .ok (.getfield 73, 3) := by decide +kernel
theorem dX3_faultyTurns_9 : decode cX3_faultyTurns 9 = .ok (.if_icmp .ge 31, 3) := by decide +kernel
theorem dX3_faultyTurns_12 : decode cX3_faultyTurns 12 = .ok (.iload_n 1, 1) := by decide +kernel
theorem dX3_faultyTurns_13 : decode cX3_faultyTurns 13 = .ok (.aload_n 0, 1) := by decide +kernel
theorem dX3_faultyTurns_14 : decode cX3_faultyTurns 14 = .ok (.getfield 30, 3) := by decide +kernel
theorem dX3_faultyTurns_17 : decode cX3_faultyTurns 17 = .ok (.aload_n 0, 1) := by decide +kernel
theorem dX3_faultyTurns_18 : decode cX3_faultyTurns 18 = .ok (.getfield 18, 3) := by decide +kernel
theorem dX3_faultyTurns_21 : decode cX3_faultyTurns 21 = .ok (.iload_n 2, 1) := by decide +kernel
theorem dX3_faultyTurns_22 : decode cX3_faultyTurns 22 = .ok (.iaload, 1) := by decide +kernel
theorem dX3_faultyTurns_23 : decode cX3_faultyTurns 23 = .ok (.iaload, 1) := by decide +kernel
theorem dX3_faultyTurns_24 : decode cX3_faultyTurns 24 = .ok (.ifCond .le 7, 3) := by decide +kernel
theorem dX3_faultyTurns_27 : decode cX3_faultyTurns 27 = .ok (.iconst 1, 1) := by decide +kernel
theorem dX3_faultyTurns_28 : decode cX3_faultyTurns 28 = .ok (.goto 4, 3) := by decide +kernel
theorem dX3_faultyTurns_31 : decode cX3_faultyTurns 31 = .ok (.iconst 0, 1) := by decide +kernel
theorem dX3_faultyTurns_32 : decode cX3_faultyTurns 32 = .ok (.iadd, 1) := by decide +kernel
theorem dX3_faultyTurns_33 : decode cX3_faultyTurns 33 = .ok (.istore_n 1, 1) := by decide +kernel
theorem dX3_faultyTurns_34 : decode cX3_faultyTurns 34 = .ok (.iinc 2 1, 3) := by decide +kernel
theorem dX3_faultyTurns_37 : decode cX3_faultyTurns 37 = .ok (.goto (-33), 3) := by decide +kernel
theorem dX3_faultyTurns_40 : decode cX3_faultyTurns 40 = .ok (.iload_n 1, 1) := by decide +kernel
theorem dX3_faultyTurns_41 : decode cX3_faultyTurns 41 = .ok (.ireturn, 1) := by decide +kernel
theorem dX4_init_0 : decode cX4_init 0 = .ok (.aload_n 0, 1) := by decide +kernel
theorem dX4_init_1 : decode cX4_init 1 = .ok (.invokespecial 3, 3) := by decide +kernel
theorem dX4_init_4 : decode cX4_init 4 = .ok (.aload_n 0, 1) := by decide +kernel
theorem dX4_init_5 : decode cX4_init 5 = .ok (.bipush 24, 2) := by decide +kernel
theorem dX4_init_7 : decode cX4_init 7 = .ok (.newarray .int, 2) := by decide +kernel
theorem dX4_init_9 : decode cX4_init 9 = .ok (.putfield 9, 3) := by decide +kernel
theorem dX4_init_12 : decode cX4_init 12 = .ok (.aload_n 0, 1) := by decide +kernel
theorem dX4_init_13 : decode cX4_init 13 = .ok (.bipush 24, 2) := by decide +kernel
theorem dX4_init_15 : decode cX4_init 15 = .ok (.newarray .int, 2) := by decide +kernel
theorem dX4_init_17 : decode cX4_init 17 = .ok (.putfield 15, 3) := by decide +kernel
theorem dX4_init_20 : decode cX4_init 20 = .ok (.aload_n 0, 1) := by decide +kernel
theorem dX4_init_21 : decode cX4_init 21 = .ok (.bipush 24, 2) := by decide +kernel
theorem dX4_init_23 : decode cX4_init 23 = .ok (.newarray .int, 2) := by decide +kernel
theorem dX4_init_25 : decode cX4_init 25 = .ok (.putfield 18, 3) := by decide +kernel
theorem dX4_init_28 : decode cX4_init 28 = .ok (.aload_n 0, 1) := by decide +kernel
theorem dX4_init_29 : decode cX4_init 29 = .ok (.bipush 24, 2) := by decide +kernel
theorem dX4_init_31 : decode cX4_init 31 = .ok (.newarray .int, 2) := by decide +kernel
theorem dX4_init_33 : decode cX4_init 33 = .ok (.putfield 21, 3) := by decide +kernel
theorem dX4_init_36 : decode cX4_init 36 = .ok (.aload_n 0, 1) := by decide +kernel
theorem dX4_init_37 : decode cX4_init 37 = .ok (.bipush 24, 2) := by decide +kernel
theorem dX4_init_39 : decode cX4_init 39 = .ok (.newarray .int, 2) := by decide +kernel
theorem dX4_init_41 : decode cX4_init 41 = .ok (.putfield 24, 3) := by decide +kernel
theorem dX4_init_44 : decode cX4_init 44 = .ok (.aload_n 0, 1) := by decide +kernel
theorem dX4_init_45 : decode cX4_init 45 = .ok (.new 27, 3) := by decide +kernel
theorem dX4_init_48 : decode cX4_init 48 = .ok (.dup, 1) := by decide +kernel
theorem dX4_init_49 : decode cX4_init 49 = .ok (.invokespecial 29, 3) := by decide +kernel
theorem dX4_init_52 : decode cX4_init 52 = .ok (.putfield 30, 3) := by decide +kernel
theorem dX4_init_55 : decode cX4_init 55 = .ok (.aload_n 0, 1) := by decide +kernel
theorem dX4_init_56 : decode cX4_init 56 = .ok (.new 34, 3) := by decide +kernel
theorem dX4_init_59 : decode cX4_init 59 = .ok (.dup, 1) := by decide +kernel
theorem dX4_init_60 : decode cX4_init 60 = .ok (.invokespecial 36, 3) := by decide +kernel
theorem dX4_init_63 : decode cX4_init 63 = .ok (.putfield 37, 3) := by decide +kernel
theorem dX4_init_66 : decode cX4_init 66 = .ok (.aload_n 0, 1) := by decide +kernel
theorem dX4_init_67 : decode cX4_init 67 = .ok (.iconst (-1), 1) := by decide +kernel
theorem dX4_init_68 : decode cX4_init 68 = .ok (.putfield 41, 3) := by decide +kernel
theorem dX4_init_71 : decode cX4_init 71 = .ok (.aload_n 0, 1) := by decide +kernel
theorem dX4_init_72 : decode cX4_init 72 = .ok (.iload_n 1, 1) := by decide +kernel
theorem dX4_init_73 : decode cX4_init 73 = .ok (.putfield 45, 3) := by decide +kernel
theorem dX4_init_76 : decode cX4_init 76 = .ok (.return_, 1) := by decide +kernel
theorem dX4_layItems_0 : decode cX4_layItems 0 = .ok (.aload_n 0, 1) := by decide +kernel
theorem dX4_layItems_1 : decode cX4_layItems 1 = .ok (.iconst 0, 1) := by decide +kernel
theorem dX4_layItems_2 : decode cX4_layItems 2 = .ok (.putfield 48, 3) := by decide +kernel
theorem dX4_layItems_5 : decode cX4_layItems 5 = .ok (.iconst 0, 1) := by decide +kernel
theorem dX4_layItems_6 : decode cX4_layItems 6 = .ok (.istore_n 2, 1) := by decide +kernel
theorem dX4_layItems_7 : decode cX4_layItems 7 = .ok (.iload_n 2, 1) := by decide +kernel
theorem dX4_layItems_8 : decode cX4_layItems 8 = .ok (.aload_n 1, 1) := by decide +kernel
theorem dX4_layItems_9 : decode cX4_layItems 9 = .ok (.invokevirtual 51, 3) := by decide +kernel
theorem dX4_layItems_12 : decode cX4_layItems 12 = .ok (.if_icmp .ge 79, 3) := by decide +kernel
theorem dX4_layItems_15 : decode cX4_layItems 15 = .ok (.aload_n 1, 1) := by decide +kernel
theorem dX4_layItems_16 : decode cX4_layItems 16 = .ok (.aload_n 0, 1) := by decide +kernel
theorem dX4_layItems_17 : decode cX4_layItems 17 = .ok (.getfield 45, 3) := by decide +kernel
theorem dX4_layItems_20 : decode cX4_layItems 20 = .ok (.iload_n 2, 1) := by decide +kernel
theorem dX4_layItems_21 : decode cX4_layItems 21 = .ok (.invokevirtual 57, 3) := by decide +kernel
theorem dX4_layItems_24 : decode cX4_layItems 24 = .ok (.invokevirtual 61, 3) := by decide +kernel
theorem dX4_layItems_27 : decode cX4_layItems 27 = .ok (.ifCond .ne 18, 3) := by decide +kernel
theorem dX4_layItems_30 : decode cX4_layItems 30 = .ok (.aload_n 0, 1) := by decide +kernel
theorem dX4_layItems_31 : decode cX4_layItems 31 = .ok (.aload_n 1, 1) := by decide +kernel
theorem dX4_layItems_32 : decode cX4_layItems 32 = .ok (.invokevirtual 67, 3) := by decide +kernel
theorem dX4_layItems_35 : decode cX4_layItems 35 = .ok (.aload_n 0, 1) := by decide +kernel
theorem dX4_layItems_36 : decode cX4_layItems 36 = .ok (.iconst 0, 1) := by decide +kernel
theorem dX4_layItems_37 : decode cX4_layItems 37 = .ok (.iload_n 2, 1) := by decide +kernel
theorem dX4_layItems_38 : decode cX4_layItems 38 = .ok (.iconst (-1), 1) := by decide +kernel
theorem dX4_layItems_39 : decode cX4_layItems 39 = .ok (.invokevirtual 71, 3) := by decide +kernel
theorem dX4_layItems_42 : decode cX4_layItems 42 = .ok (.goto 43, 3) := by decide +kernel
theorem dX4_layItems_45 : decode cX4_layItems 45 = .ok (.aload_n 0, 1) := by decide +kernel
theorem dX4_layItems_46 : decode cX4_layItems 46 = .ok (.invokevirtual 75, 3) := by decide +kernel
theorem dX4_layItems_49 : decode cX4_layItems 49 = .ok (.ifCond .eq 29, 3) := by decide +kernel
theorem dX4_layItems_52 : decode cX4_layItems 52 = .ok (.aload_n 1, 1) := by decide +kernel
theorem dX4_layItems_53 : decode cX4_layItems 53 = .ok (.iload_n 2, 1) := by decide +kernel
theorem dX4_layItems_54 : decode cX4_layItems 54 = .ok (.invokevirtual 78, 3) := by decide +kernel
theorem dX4_layItems_57 : decode cX4_layItems 57 = .ok (.ifCond .ne 21, 3) := by decide +kernel
theorem dX4_layItems_60 : decode cX4_layItems 60 = .ok (.aload_n 0, 1) := by decide +kernel
theorem dX4_layItems_61 : decode cX4_layItems 61 = .ok (.getfield 18, 3) := by decide +kernel
theorem dX4_layItems_64 : decode cX4_layItems 64 = .ok (.aload_n 0, 1) := by decide +kernel
theorem dX4_layItems_65 : decode cX4_layItems 65 = .ok (.getfield 48, 3) := by decide +kernel
theorem dX4_layItems_68 : decode cX4_layItems 68 = .ok (.iconst 1, 1) := by decide +kernel
theorem dX4_layItems_69 : decode cX4_layItems 69 = .ok (.isub, 1) := by decide +kernel
theorem dX4_layItems_70 : decode cX4_layItems 70 = .ok (.dup2, 1) := by decide +kernel
theorem dX4_layItems_71 : decode cX4_layItems 71 = .ok (.iaload, 1) := by decide +kernel
theorem dX4_layItems_72 : decode cX4_layItems 72 = .ok (.iconst 1, 1) := by decide +kernel
theorem dX4_layItems_73 : decode cX4_layItems 73 = .ok (.iadd, 1) := by decide +kernel
theorem dX4_layItems_74 : decode cX4_layItems 74 = .ok (.iastore, 1) := by decide +kernel
theorem dX4_layItems_75 : decode cX4_layItems 75 = .ok (.goto 10, 3) := by decide +kernel
theorem dX4_layItems_78 : decode cX4_layItems 78 = .ok (.aload_n 0, 1) := by decide +kernel
theorem dX4_layItems_79 : decode cX4_layItems 79 = .ok (.iconst 1, 1) := by decide +kernel
theorem dX4_layItems_80 : decode cX4_layItems 80 = .ok (.iload_n 2, 1) := by decide +kernel
theorem dX4_layItems_81 : decode cX4_layItems 81 = .ok (.iconst (-1), 1) := by decide +kernel
theorem dX4_layItems_82 : decode cX4_layItems 82 = .ok (.invokevirtual 71, 3) := by decide +kernel
theorem dX4_layItems_85 : decode cX4_layItems 85 = .ok (.iinc 2 1, 3) := by decide +kernel
theorem dX4_layItems_88 : decode cX4_layItems 88 = .ok (.goto (-81), 3) := by decide +kernel
theorem dX4_layItems_91 : decode cX4_layItems 91 = .ok (.iconst 0, 1) := by decide +kernel
theorem dX4_layItems_92 : decode cX4_layItems 92 = .ok (.istore_n 2, 1) := by decide +kernel
theorem dX4_layItems_93 : decode cX4_layItems 93 = .ok (.iload_n 2, 1) := by decide +kernel
theorem dX4_layItems_94 : decode cX4_layItems 94 = .ok (.aload_n 0, 1) := by decide +kernel
theorem dX4_layItems_95 : decode cX4_layItems 95 = .ok (.getfield 48, 3) := by decide +kernel
theorem dX4_layItems_98 : decode cX4_layItems 98 = .ok (.if_icmp .ge 21, 3) := by decide +kernel
theorem dX4_layItems_101 : decode cX4_layItems 101 = .ok (.aload_n 0, 1) := by decide +kernel
theorem dX4_layItems_102 : decode cX4_layItems 102 = .ok (.getfield 24, 3) := by decide +kernel
theorem dX4_layItems_105 : decode cX4_layItems 105 = .ok (.iload_n 2, 1) := by decide +kernel
theorem dX4_layItems_106 : decode cX4_layItems 106 = .ok (.aload_n 0, 1) := by decide +kernel
theorem dX4_layItems_107 : decode cX4_layItems 107 = .ok (.aload_n 1, 1) := by decide +kernel
theorem dX4_layItems_108 : decode cX4_layItems 108 = .ok (.iload_n 2, 1) := by decide +kernel
theorem dX4_layItems_109 : decode cX4_layItems 109 = .ok (.invokevirtual 82, 3) := by decide +kernel
theorem dX4_layItems_112 : decode cX4_layItems 112 = .ok (.iastore, 1) := by decide +kernel
theorem dX4_layItems_113 : decode cX4_layItems 113 = .ok (.iinc 2 1, 3) := by decide +kernel
theorem dX4_layItems_116 : decode cX4_layItems 116 = .ok (.goto (-23), 3) := by decide +kernel
theorem dX4_layItems_119 : decode cX4_layItems 119 = .ok (.return_, 1) := by decide +kernel
theorem dX4_isRestLast_0 : decode cX4_isRestLast 0 = .ok (.aload_n 0, 1) := by decide +kernel
theorem dX4_isRestLast_1 : decode cX4_isRestLast 1 = .ok (.getfield 48, 3) := by decide +kernel
theorem dX4_isRestLast_4 : decode cX4_isRestLast 4 = .ok (.ifCond .le 22, 3) := by decide +kernel
theorem dX4_isRestLast_7 : decode cX4_isRestLast 7 = .ok (.aload_n 0, 1) := by decide +kernel
theorem dX4_isRestLast_8 : decode cX4_isRestLast 8 = .ok (.getfield 9, 3) := by decide +kernel
theorem dX4_isRestLast_11 : decode cX4_isRestLast 11 = .ok (.aload_n 0, 1) := by decide +kernel
theorem dX4_isRestLast_12 : decode cX4_isRestLast 12 = .ok (.getfield 48, 3) := by decide +kernel
theorem dX4_isRestLast_15 : decode cX4_isRestLast 15 = .ok (.iconst 1, 1) := by decide +kernel
theorem dX4_isRestLast_16 : decode cX4_isRestLast 16 = .ok (.isub, 1) := by decide +kernel
theorem dX4_isRestLast_17 : decode cX4_isRestLast 17 = .ok (.iaload, 1) := by decide +kernel
theorem dX4_isRestLast_18 : decode cX4_isRestLast 18 = .ok (.iconst 1, 1) := by decide +kernel
theorem dX4_isRestLast_19 : decode cX4_isRestLast 19 = .ok (.if_icmp .ne 7, 3) := by decide +kernel
theorem dX4_isRestLast_22 : decode cX4_isRestLast 22 = .ok (.iconst 1, 1) := by decide +kernel
theorem dX4_isRestLast_23 : decode cX4_isRestLast 23 = .ok (.goto 4, 3) := by decide +kernel
theorem dX4_isRestLast_26 : decode cX4_isRestLast 26 = .ok (.iconst 0, 1) := by decide +kernel
theorem dX4_isRestLast_27 : decode cX4_isRestLast 27 = .ok (.ireturn, 1) := by decide +kernel
theorem dX4_partCueFromRest_0 : decode cX4_partCueFromRest 0 = .ok (.aload_n 0, 1) := by decide +kernel
theorem dX4_partCueFromRest_1 : decode cX4_partCueFromRest 1 = .ok (.invokevirtual 75, 3) := by decide +kernel
theorem dX4_partCueFromRest_4 : decode cX4_partCueFromRest 4 = .ok (.ifCond .eq 18, 3) := by decide +kernel
theorem dX4_partCueFromRest_7 : decode cX4_partCueFromRest 7 = .ok (.aload_n 0, 1) := by decide +kernel
theorem dX4_partCueFromRest_8 : decode cX4_partCueFromRest 8 = .ok (.getfield 18, 3) := by decide +kernel
theorem dX4_partCueFromRest_11 : decode cX4_partCueFromRest 11 = .ok (.aload_n 0, 1) := by decide +kernel
theorem dX4_partCueFromRest_12 : decode cX4_partCueFromRest 12 = .ok (.getfield 48, 3) := by decide +kernel
theorem dX4_partCueFromRest_15 : decode cX4_partCueFromRest 15 = .ok (.iconst 1, 1) := by decide +kernel
theorem dX4_partCueFromRest_16 : decode cX4_partCueFromRest 16 = .ok (.isub, 1) := by decide +kernel
theorem dX4_partCueFromRest_17 : decode cX4_partCueFromRest 17 = .ok (.iaload, 1) := by decide +kernel
theorem dX4_partCueFromRest_18 : decode cX4_partCueFromRest 18 = .ok (.iconst 4, 1) := by decide +kernel
theorem dX4_partCueFromRest_19 : decode cX4_partCueFromRest 19 = .ok (.if_icmp .ge 4, 3) := by decide +kernel
theorem dX4_partCueFromRest_22 : decode cX4_partCueFromRest 22 = .ok (.return_, 1) := by decide +kernel
theorem dX4_partCueFromRest_23 : decode cX4_partCueFromRest 23 = .ok (.aload_n 0, 1) := by decide +kernel
theorem dX4_partCueFromRest_24 : decode cX4_partCueFromRest 24 = .ok (.getfield 15, 3) := by decide +kernel
theorem dX4_partCueFromRest_27 : decode cX4_partCueFromRest 27 = .ok (.aload_n 0, 1) := by decide +kernel
theorem dX4_partCueFromRest_28 : decode cX4_partCueFromRest 28 = .ok (.getfield 48, 3) := by decide +kernel
theorem dX4_partCueFromRest_31 : decode cX4_partCueFromRest 31 = .ok (.iconst 1, 1) := by decide +kernel
theorem dX4_partCueFromRest_32 : decode cX4_partCueFromRest 32 = .ok (.isub, 1) := by decide +kernel
theorem dX4_partCueFromRest_33 : decode cX4_partCueFromRest 33 = .ok (.iaload, 1) := by decide +kernel
theorem dX4_partCueFromRest_34 : decode cX4_partCueFromRest 34 = .ok (.aload_n 0, 1) := by decide +kernel
theorem dX4_partCueFromRest_35 : decode cX4_partCueFromRest 35 = .ok (.getfield 18, 3) := by decide +kernel
theorem dX4_partCueFromRest_38 : decode cX4_partCueFromRest 38 = .ok (.aload_n 0, 1) := by decide +kernel
theorem dX4_partCueFromRest_39 : decode cX4_partCueFromRest 39 = .ok (.getfield 48, 3) := by decide +kernel
theorem dX4_partCueFromRest_42 : decode cX4_partCueFromRest 42 = .ok (.iconst 1, 1) := by decide +kernel
theorem dX4_partCueFromRest_43 : decode cX4_partCueFromRest 43 = .ok (.isub, 1) := by decide +kernel
theorem dX4_partCueFromRest_44 : decode cX4_partCueFromRest 44 = .ok (.iaload, 1) := by decide +kernel
theorem dX4_partCueFromRest_45 : decode cX4_partCueFromRest 45 = .ok (.iadd, 1) := by decide +kernel
theorem dX4_partCueFromRest_46 : decode cX4_partCueFromRest 46 = .ok (.iconst 1, 1) := by decide +kernel
theorem dX4_partCueFromRest_47 : decode cX4_partCueFromRest 47 = .ok (.isub, 1) := by decide +kernel
theorem dX4_partCueFromRest_48 : decode cX4_partCueFromRest 48 = .ok (.istore_n 2, 1) := by decide +kernel
theorem dX4_partCueFromRest_49 : decode cX4_partCueFromRest 49 = .ok (.aload_n 1, 1) := by decide +kernel
theorem dX4_partCueFromRest_50 : decode cX4_partCueFromRest 50 = .ok (.aload_n 0, 1) := by decide +kernel
theorem dX4_partCueFromRest_51 : decode cX4_partCueFromRest 51 = .ok (.getfield 45, 3) := by decide +kernel
theorem dX4_partCueFromRest_54 : decode cX4_partCueFromRest 54 = .ok (.iload_n 2, 1) := by decide +kernel
theorem dX4_partCueFromRest_55 : decode cX4_partCueFromRest 55 = .ok (.invokevirtual 86, 3) := by decide +kernel
theorem dX4_partCueFromRest_58 : decode cX4_partCueFromRest 58 = .ok (.istore_n 3, 1) := by decide +kernel
theorem dX4_partCueFromRest_59 : decode cX4_partCueFromRest 59 = .ok (.iload_n 3, 1) := by decide +kernel
theorem dX4_partCueFromRest_60 : decode cX4_partCueFromRest 60 = .ok (.iconst (-1), 1) := by decide +kernel
theorem dX4_partCueFromRest_61 : decode cX4_partCueFromRest 61 = .ok (.if_icmp .eq 25, 3) := by decide +kernel
theorem dX4_partCueFromRest_64 : decode cX4_partCueFromRest 64 = .ok (.aload_n 0, 1) := by decide +kernel
theorem dX4_partCueFromRest_65 : decode cX4_partCueFromRest 65 = .ok (.getfield 18, 3) := by decide +kernel
theorem dX4_partCueFromRest_68 : decode cX4_partCueFromRest 68 = .ok (.aload_n 0, 1) := by decide +kernel
theorem dX4_partCueFromRest_69 : decode cX4_partCueFromRest 69 = .ok (.getfield 48, 3) := by decide +kernel
theorem dX4_partCueFromRest_72 : decode cX4_partCueFromRest 72 = .ok (.iconst 1, 1) := by decide +kernel
theorem dX4_partCueFromRest_73 : decode cX4_partCueFromRest 73 = .ok (.isub, 1) := by decide +kernel
theorem dX4_partCueFromRest_74 : decode cX4_partCueFromRest 74 = .ok (.dup2, 1) := by decide +kernel
theorem dX4_partCueFromRest_75 : decode cX4_partCueFromRest 75 = .ok (.iaload, 1) := by decide +kernel
theorem dX4_partCueFromRest_76 : decode cX4_partCueFromRest 76 = .ok (.iconst 1, 1) := by decide +kernel
theorem dX4_partCueFromRest_77 : decode cX4_partCueFromRest 77 = .ok (.isub, 1) := by decide +kernel
theorem dX4_partCueFromRest_78 : decode cX4_partCueFromRest 78 = .ok (.iastore, 1) := by decide +kernel
theorem dX4_partCueFromRest_79 : decode cX4_partCueFromRest 79 = .ok (.aload_n 0, 1) := by decide +kernel
theorem dX4_partCueFromRest_80 : decode cX4_partCueFromRest 80 = .ok (.iconst 2, 1) := by decide +kernel
theorem dX4_partCueFromRest_81 : decode cX4_partCueFromRest 81 = .ok (.iload_n 2, 1) := by decide +kernel
theorem dX4_partCueFromRest_82 : decode cX4_partCueFromRest 82 = .ok (.iload_n 3, 1) := by decide +kernel
theorem dX4_partCueFromRest_83 : decode cX4_partCueFromRest 83 = .ok (.invokevirtual 71, 3) := by decide +kernel
theorem dX4_partCueFromRest_86 : decode cX4_partCueFromRest 86 = .ok (.return_, 1) := by decide +kernel
theorem dX4_addItem_0 : decode cX4_addItem 0 = .ok (.aload_n 0, 1) := by decide +kernel
theorem dX4_addItem_1 : decode cX4_addItem 1 = .ok (.getfield 48, 3) := by decide +kernel
theorem dX4_addItem_4 : decode cX4_addItem 4 = .ok (.bipush 24, 2) := by decide +kernel
theorem dX4_addItem_6 : decode cX4_addItem 6 = .ok (.if_icmp .ge 53, 3) := by decide +kernel
theorem dX4_addItem_9 : decode cX4_addItem 9 = .ok (.aload_n 0, 1) := by decide +kernel
theorem dX4_addItem_10 : decode cX4_addItem 10 = .ok (.getfield 9, 3) := by decide +kernel
theorem dX4_addItem_13 : decode cX4_addItem 13 = .ok (.aload_n 0, 1) := by decide +kernel
theorem dX4_addItem_14 : decode cX4_addItem 14 = .ok (.getfield 48, 3) := by decide +kernel
theorem dX4_addItem_17 : decode cX4_addItem 17 = .ok (.iload_n 1, 1) := by decide +kernel
theorem dX4_addItem_18 : decode cX4_addItem 18 = .ok (.iastore, 1) := by decide +kernel
theorem dX4_addItem_19 : decode cX4_addItem 19 = .ok (.aload_n 0, 1) := by decide +kernel
theorem dX4_addItem_20 : decode cX4_addItem 20 = .ok (.getfield 15, 3) := by decide +kernel
theorem dX4_addItem_23 : decode cX4_addItem 23 = .ok (.aload_n 0, 1) := by decide +kernel
theorem dX4_addItem_24 : decode cX4_addItem 24 = .ok (.getfield 48, 3) := by decide +kernel
theorem dX4_addItem_27 : decode cX4_addItem 27 = .ok (.iload_n 2, 1) := by decide +kernel
theorem dX4_addItem_28 : decode cX4_addItem 28 = .ok (.iastore, 1) := by decide +kernel
theorem dX4_addItem_29 : decode cX4_addItem 29 = .ok (.aload_n 0, 1) := by decide +kernel
theorem dX4_addItem_30 : decode cX4_addItem 30 = .ok (.getfield 18, 3) := by decide +kernel
theorem dX4_addItem_33 : decode cX4_addItem 33 = .ok (.aload_n 0, 1) := by decide +kernel
theorem dX4_addItem_34 : decode cX4_addItem 34 = .ok (.getfield 48, 3) := by decide +kernel
theorem dX4_addItem_37 : decode cX4_addItem 37 = .ok (.iconst 1, 1) := by decide +kernel
theorem dX4_addItem_38 : decode cX4_addItem 38 = .ok (.iastore, 1) := by decide +kernel
theorem dX4_addItem_39 : decode cX4_addItem 39 = .ok (.aload_n 0, 1) := by decide +kernel
theorem dX4_addItem_40 : decode cX4_addItem 40 = .ok (.getfield 21, 3) := by decide +kernel
theorem dX4_addItem_43 : decode cX4_addItem 43 = .ok (.aload_n 0, 1) := by decide +kernel
theorem dX4_addItem_44 : decode cX4_addItem 44 = .ok (.getfield 48, 3) := by decide +kernel
theorem dX4_addItem_47 : decode cX4_addItem 47 = .ok (.iload_n 3, 1) := by decide +kernel
theorem dX4_addItem_48 : decode cX4_addItem 48 = .ok (.iastore, 1) := by decide +kernel
theorem dX4_addItem_49 : decode cX4_addItem 49 = .ok (.aload_n 0, 1) := by decide +kernel
theorem dX4_addItem_50 : decode cX4_addItem 50 = .ok (.dup, 1) := by decide +kernel
theorem dX4_addItem_51 : decode cX4_addItem 51 = .ok (.getfield 48, 3) := by decide +kernel
theorem dX4_addItem_54 : decode cX4_addItem 54 = .ok (.iconst 1, 1) := by decide +kernel
theorem dX4_addItem_55 : decode cX4_addItem 55 = .ok (.iadd, 1) := by decide +kernel
theorem dX4_addItem_56 : decode cX4_addItem 56 = .ok (.putfield 48, 3) := by decide +kernel
theorem dX4_addItem_59 : decode cX4_addItem 59 = .ok (.return_, 1) := by decide +kernel
theorem dX4_widthOf_0 : decode cX4_widthOf 0 = .ok (.aload_n 0, 1) := by decide +kernel
theorem dX4_widthOf_1 : decode cX4_widthOf 1 = .ok (.getfield 15, 3) := by decide +kernel
theorem dX4_widthOf_4 : decode cX4_widthOf 4 = .ok (.iload_n 2, 1) := by decide +kernel
theorem dX4_widthOf_5 : decode cX4_widthOf 5 = .ok (.iaload, 1) := by decide +kernel
theorem dX4_widthOf_6 : decode cX4_widthOf 6 = .ok (.istore_n 3, 1) := by decide +kernel
theorem dX4_widthOf_7 : decode cX4_widthOf 7 = .ok (.iconst 0, 1) := by decide +kernel
theorem dX4_widthOf_8 : decode cX4_widthOf 8 = .ok (.istore 4, 2) := by decide +kernel
theorem dX4_widthOf_10 : decode cX4_widthOf 10 = .ok (.iload_n 3, 1) := by decide +kernel
theorem dX4_widthOf_11 : decode cX4_widthOf 11 = .ok (.istore 5, 2) := by decide +kernel
theorem dX4_widthOf_13 : decode cX4_widthOf 13 = .ok (.iload 5, 2) := by decide +kernel
theorem dX4_widthOf_15 : decode cX4_widthOf 15 = .ok (.iload_n 3, 1) := by decide +kernel
theorem dX4_widthOf_16 : decode cX4_widthOf 16 = .ok (.aload_n 0, 1) := by decide +kernel
theorem dX4_widthOf_17 : decode cX4_widthOf 17 = .ok (.getfield 18, 3) := by decide +kernel
theorem dX4_widthOf_20 : decode cX4_widthOf 20 = .ok (.iload_n 2, 1) := by decide +kernel
theorem dX4_widthOf_21 : decode cX4_widthOf 21 = .ok (.iaload, 1) := by decide +kernel
theorem dX4_widthOf_22 : decode cX4_widthOf 22 = .ok (.iadd, 1) := by decide +kernel
theorem dX4_widthOf_23 : decode cX4_widthOf 23 = .ok (.if_icmp .ge 20, 3) := by decide +kernel
theorem dX4_widthOf_26 : decode cX4_widthOf 26 = .ok (.iload 4, 2) := by decide +kernel
theorem dX4_widthOf_28 : decode cX4_widthOf 28 = .ok (.aload_n 1, 1) := by decide +kernel
theorem dX4_widthOf_29 : decode cX4_widthOf 29 = .ok (.iload 5, 2) := by decide +kernel
theorem dX4_widthOf_31 : decode cX4_widthOf 31 = .ok (.invokevirtual 90, 3) := by decide +kernel
theorem dX4_widthOf_34 : decode cX4_widthOf 34 = .ok (.iadd, 1) := by decide +kernel
theorem dX4_widthOf_35 : decode cX4_widthOf 35 = .ok (.istore 4, 2) := by decide +kernel
theorem dX4_widthOf_37 : decode cX4_widthOf 37 = .ok (.iinc 5 1, 3) := by decide +kernel
theorem dX4_widthOf_40 : decode cX4_widthOf 40 = .ok (.goto (-27), 3) := by decide +kernel
theorem dX4_widthOf_43 : decode cX4_widthOf 43 = .ok (.aload_n 0, 1) := by decide +kernel
theorem dX4_widthOf_44 : decode cX4_widthOf 44 = .ok (.getfield 9, 3) := by decide +kernel
theorem dX4_widthOf_47 : decode cX4_widthOf 47 = .ok (.iload_n 2, 1) := by decide +kernel
theorem dX4_widthOf_48 : decode cX4_widthOf 48 = .ok (.iaload, 1) := by decide +kernel
theorem dX4_widthOf_49 : decode cX4_widthOf 49 = .ok (.ifCond .ne 22, 3) := by decide +kernel
theorem dX4_widthOf_52 : decode cX4_widthOf 52 = .ok (.iload 4, 2) := by decide +kernel
theorem dX4_widthOf_54 : decode cX4_widthOf 54 = .ok (.bipush 10, 2) := by decide +kernel
theorem dX4_widthOf_56 : decode cX4_widthOf 56 = .ok (.iadd, 1) := by decide +kernel
theorem dX4_widthOf_57 : decode cX4_widthOf 57 = .ok (.aload_n 1, 1) := by decide +kernel
theorem dX4_widthOf_58 : decode cX4_widthOf 58 = .ok (.aload_n 0, 1) := by decide +kernel
theorem dX4_widthOf_59 : decode cX4_widthOf 59 = .ok (.getfield 45, 3) := by decide +kernel
theorem dX4_widthOf_62 : decode cX4_widthOf 62 = .ok (.iload_n 3, 1) := by decide +kernel
theorem dX4_widthOf_63 : decode cX4_widthOf 63 = .ok (.invokevirtual 57, 3) := by decide +kernel
theorem dX4_widthOf_66 : decode cX4_widthOf 66 = .ok (.invokevirtual 94, 3) := by decide +kernel
theorem dX4_widthOf_69 : decode cX4_widthOf 69 = .ok (.iadd, 1) := by decide +kernel
theorem dX4_widthOf_70 : decode cX4_widthOf 70 = .ok (.ireturn, 1) := by decide +kernel
theorem dX4_widthOf_71 : decode cX4_widthOf 71 = .ok (.aload_n 0, 1) := by decide +kernel
theorem dX4_widthOf_72 : decode cX4_widthOf 72 = .ok (.getfield 9, 3) := by decide +kernel
theorem dX4_widthOf_75 : decode cX4_widthOf 75 = .ok (.iload_n 2, 1) := by decide +kernel
theorem dX4_widthOf_76 : decode cX4_widthOf 76 = .ok (.iaload, 1) := by decide +kernel
theorem dX4_widthOf_77 : decode cX4_widthOf 77 = .ok (.iconst 2, 1) := by decide +kernel
theorem dX4_widthOf_78 : decode cX4_widthOf 78 = .ok (.if_icmp .ne 34, 3) := by decide +kernel
theorem dX4_widthOf_81 : decode cX4_widthOf 81 = .ok (.aload_n 0, 1) := by decide +kernel
theorem dX4_widthOf_82 : decode cX4_widthOf 82 = .ok (.getfield 21, 3) := by decide +kernel
theorem dX4_widthOf_85 : decode cX4_widthOf 85 = .ok (.iload_n 2, 1) := by decide +kernel
theorem dX4_widthOf_86 : decode cX4_widthOf 86 = .ok (.iaload, 1) := by decide +kernel
theorem dX4_widthOf_87 : decode cX4_widthOf 87 = .ok (.iconst (-1), 1) := by decide +kernel
theorem dX4_widthOf_88 : decode cX4_widthOf 88 = .ok (.if_icmp .eq 24, 3) := by decide +kernel
theorem dX4_widthOf_91 : decode cX4_widthOf 91 = .ok (.iload 4, 2) := by decide +kernel
theorem dX4_widthOf_93 : decode cX4_widthOf 93 = .ok (.bipush 10, 2) := by decide +kernel
theorem dX4_widthOf_95 : decode cX4_widthOf 95 = .ok (.iadd, 1) := by decide +kernel
theorem dX4_widthOf_96 : decode cX4_widthOf 96 = .ok (.aload_n 1, 1) := by decide +kernel
theorem dX4_widthOf_97 : decode cX4_widthOf 97 = .ok (.aload_n 0, 1) := by decide +kernel
theorem dX4_widthOf_98 : decode cX4_widthOf 98 = .ok (.getfield 21, 3) := by decide +kernel
theorem dX4_widthOf_101 : decode cX4_widthOf 101 = .ok (.iload_n 2, 1) := by decide +kernel
theorem dX4_widthOf_102 : decode cX4_widthOf 102 = .ok (.iaload, 1) := by decide +kernel
theorem dX4_widthOf_103 : decode cX4_widthOf 103 = .ok (.iload_n 3, 1) := by decide +kernel
theorem dX4_widthOf_104 : decode cX4_widthOf 104 = .ok (.invokevirtual 57, 3) := by decide +kernel
theorem dX4_widthOf_107 : decode cX4_widthOf 107 = .ok (.invokevirtual 97, 3) := by decide +kernel
theorem dX4_widthOf_110 : decode cX4_widthOf 110 = .ok (.iadd, 1) := by decide +kernel
theorem dX4_widthOf_111 : decode cX4_widthOf 111 = .ok (.ireturn, 1) := by decide +kernel
theorem dX4_widthOf_112 : decode cX4_widthOf 112 = .ok (.iload 4, 2) := by decide +kernel
theorem dX4_widthOf_114 : decode cX4_widthOf 114 = .ok (.bipush 16, 2) := by decide +kernel
theorem dX4_widthOf_116 : decode cX4_widthOf 116 = .ok (.iadd, 1) := by decide +kernel
theorem dX4_widthOf_117 : decode cX4_widthOf 117 = .ok (.aload_n 0, 1) := by decide +kernel
theorem dX4_widthOf_118 : decode cX4_widthOf 118 = .ok (.getfield 18, 3) := by decide +kernel
theorem dX4_widthOf_121 : decode cX4_widthOf 121 = .ok (.iload_n 2, 1) := by decide +kernel
theorem dX4_widthOf_122 : decode cX4_widthOf 122 = .ok (.iaload, 1) := by decide +kernel
theorem dX4_widthOf_123 : decode cX4_widthOf 123 = .ok (.iadd, 1) := by decide +kernel
theorem dX4_widthOf_124 : decode cX4_widthOf 124 = .ok (.ireturn, 1) := by decide +kernel
theorem dX4_firstBarOfLine_0 : decode cX4_firstBarOfLine 0 = .ok (.aload_n 0, 1) := by decide +kernel
theorem dX4_firstBarOfLine_1 : decode cX4_firstBarOfLine 1 = .ok (.getfield 15, 3) := by decide +kernel
theorem dX4_firstBarOfLine_4 : decode cX4_firstBarOfLine 4 = .ok (.aload_n 0, 1) := by decide +kernel
theorem dX4_firstBarOfLine_5 : decode cX4_firstBarOfLine 5 = .ok (.getfield 30, 3) := by decide +kernel
theorem dX4_firstBarOfLine_8 : decode cX4_firstBarOfLine 8 = .ok (.getfield 100, 3) := by decide +kernel
theorem dX4_firstBarOfLine_11 : decode cX4_firstBarOfLine 11 = .ok (.iload_n 1, 1) := by decide +kernel
theorem dX4_firstBarOfLine_12 : decode cX4_firstBarOfLine 12 = .ok (.iaload, 1) := by decide +kernel
theorem dX4_firstBarOfLine_13 : decode cX4_firstBarOfLine 13 = .ok (.iaload, 1) := by decide +kernel
theorem dX4_firstBarOfLine_14 : decode cX4_firstBarOfLine 14 = .ok (.ireturn, 1) := by decide +kernel
theorem dX4_lineWithBar_0 : decode cX4_lineWithBar 0 = .ok (.aload_n 0, 1) := by decide +kernel
theorem dX4_lineWithBar_1 : decode cX4_lineWithBar 1 = .ok (.getfield 30, 3) := by decide +kernel
theorem dX4_lineWithBar_4 : decode cX4_lineWithBar 4 = .ok (.getfield 103, 3) := by decide +kernel
theorem dX4_lineWithBar_7 : decode cX4_lineWithBar 7 = .ok (.iconst 1, 1) := by decide +kernel
theorem dX4_lineWithBar_8 : decode cX4_lineWithBar 8 = .ok (.isub, 1) := by decide +kernel
theorem dX4_lineWithBar_9 : decode cX4_lineWithBar 9 = .ok (.istore_n 2, 1) := by decide +kernel
theorem dX4_lineWithBar_10 : decode cX4_lineWithBar 10 = .ok (.iload_n 2, 1) := by decide +kernel
theorem dX4_lineWithBar_11 : decode cX4_lineWithBar 11 = .ok (.ifCond .le 20, 3) := by decide +kernel
theorem dX4_lineWithBar_14 : decode cX4_lineWithBar 14 = .ok (.aload_n 0, 1) := by decide +kernel
theorem dX4_lineWithBar_15 : decode cX4_lineWithBar 15 = .ok (.iload_n 2, 1) := by decide +kernel
theorem dX4_lineWithBar_16 : decode cX4_lineWithBar 16 = .ok (.invokevirtual 106, 3) := by decide +kernel
theorem dX4_lineWithBar_19 : decode cX4_lineWithBar 19 = .ok (.iload_n 1, 1) := by decide +kernel
theorem dX4_lineWithBar_20 : decode cX4_lineWithBar 20 = .ok (.if_icmp .gt 5, 3) := by decide +kernel
theorem dX4_lineWithBar_23 : decode cX4_lineWithBar 23 = .ok (.iload_n 2, 1) := by decide +kernel
theorem dX4_lineWithBar_24 : decode cX4_lineWithBar 24 = .ok (.ireturn, 1) := by decide +kernel
theorem dX4_lineWithBar_25 : decode cX4_lineWithBar 25 = .ok (.iinc 2 (-1), 3) := by decide +kernel
theorem dX4_lineWithBar_28 : decode cX4_lineWithBar 28 = .ok (.goto (-18), 3) := by decide +kernel
theorem dX4_lineWithBar_31 : decode cX4_lineWithBar 31 = .ok (.iconst 0, 1) := by decide +kernel
theorem dX4_lineWithBar_32 : decode cX4_lineWithBar 32 = .ok (.ireturn, 1) := by decide +kernel
theorem dX4_timeBreaks_0 : decode cX4_timeBreaks 0 = .ok (.iconst 1, 1) := by decide +kernel
theorem dX4_timeBreaks_1 : decode cX4_timeBreaks 1 = .ok (.istore_n 3, 1) := by decide +kernel
theorem dX4_timeBreaks_2 : decode cX4_timeBreaks 2 = .ok (.iload_n 3, 1) := by decide +kernel
theorem dX4_timeBreaks_3 : decode cX4_timeBreaks 3 = .ok (.aload_n 0, 1) := by decide +kernel
theorem dX4_timeBreaks_4 : decode cX4_timeBreaks 4 = .ok (.getfield 30, 3) := by decide +kernel
theorem dX4_timeBreaks_7 : decode cX4_timeBreaks 7 = .ok (.getfield 103, 3) := by decide +kernel
theorem dX4_timeBreaks_10 : decode cX4_timeBreaks 10 = .ok (.if_icmp .ge 89, 3) := by decide +kernel
theorem dX4_timeBreaks_13 : decode cX4_timeBreaks 13 = .ok (.aload_n 0, 1) := by decide +kernel
theorem dX4_timeBreaks_14 : decode cX4_timeBreaks 14 = .ok (.iload_n 3, 1) := by decide +kernel
theorem dX4_timeBreaks_15 : decode cX4_timeBreaks 15 = .ok (.invokevirtual 106, 3) := by decide +kernel
theorem dX4_timeBreaks_18 : decode cX4_timeBreaks 18 = .ok (.istore 4, 2) := by decide +kernel
theorem dX4_timeBreaks_20 : decode cX4_timeBreaks 20 = .ok (.aload_n 2, 1) := by decide +kernel
theorem dX4_timeBreaks_21 : decode cX4_timeBreaks 21 = .ok (.iload 4, 2) := by decide +kernel
theorem dX4_timeBreaks_23 : decode cX4_timeBreaks 23 = .ok (.invokevirtual 109, 3) := by decide +kernel
theorem dX4_timeBreaks_26 : decode cX4_timeBreaks 26 = .ok (.istore 5, 2) := by decide +kernel
theorem dX4_timeBreaks_28 : decode cX4_timeBreaks 28 = .ok (.aload_n 2, 1) := by decide +kernel
theorem dX4_timeBreaks_29 : decode cX4_timeBreaks 29 = .ok (.aload_n 0, 1) := by decide +kernel
theorem dX4_timeBreaks_30 : decode cX4_timeBreaks 30 = .ok (.getfield 45, 3) := by decide +kernel
theorem dX4_timeBreaks_33 : decode cX4_timeBreaks 33 = .ok (.iload 5, 2) := by decide +kernel
theorem dX4_timeBreaks_35 : decode cX4_timeBreaks 35 = .ok (.invokevirtual 114, 3) := by decide +kernel
theorem dX4_timeBreaks_38 : decode cX4_timeBreaks 38 = .ok (.istore 6, 2) := by decide +kernel
theorem dX4_timeBreaks_40 : decode cX4_timeBreaks 40 = .ok (.iload 6, 2) := by decide +kernel
theorem dX4_timeBreaks_42 : decode cX4_timeBreaks 42 = .ok (.aload_n 1, 1) := by decide +kernel
theorem dX4_timeBreaks_43 : decode cX4_timeBreaks 43 = .ok (.getfield 117, 3) := by decide +kernel
theorem dX4_timeBreaks_46 : decode cX4_timeBreaks 46 = .ok (.if_icmp .ge 7, 3) := by decide +kernel
theorem dX4_timeBreaks_49 : decode cX4_timeBreaks 49 = .ok (.iconst 1, 1) := by decide +kernel
theorem dX4_timeBreaks_50 : decode cX4_timeBreaks 50 = .ok (.goto 4, 3) := by decide +kernel
theorem dX4_timeBreaks_53 : decode cX4_timeBreaks 53 = .ok (.iconst 0, 1) := by decide +kernel
theorem dX4_timeBreaks_54 : decode cX4_timeBreaks 54 = .ok (.istore 7, 2) := by decide +kernel
theorem dX4_timeBreaks_56 : decode cX4_timeBreaks 56 = .ok (.aload_n 1, 1) := by decide +kernel
theorem dX4_timeBreaks_57 : decode cX4_timeBreaks 57 = .ok (.aload_n 0, 1) := by decide +kernel
theorem dX4_timeBreaks_58 : decode cX4_timeBreaks 58 = .ok (.getfield 45, 3) := by decide +kernel
theorem dX4_timeBreaks_61 : decode cX4_timeBreaks 61 = .ok (.iload 4, 2) := by decide +kernel
theorem dX4_timeBreaks_63 : decode cX4_timeBreaks 63 = .ok (.iconst 1, 1) := by decide +kernel
theorem dX4_timeBreaks_64 : decode cX4_timeBreaks 64 = .ok (.isub, 1) := by decide +kernel
theorem dX4_timeBreaks_65 : decode cX4_timeBreaks 65 = .ok (.invokevirtual 120, 3) := by decide +kernel
theorem dX4_timeBreaks_68 : decode cX4_timeBreaks 68 = .ok (.istore 8, 2) := by decide +kernel
theorem dX4_timeBreaks_70 : decode cX4_timeBreaks 70 = .ok (.aload_n 0, 1) := by decide +kernel
theorem dX4_timeBreaks_71 : decode cX4_timeBreaks 71 = .ok (.getfield 37, 3) := by decide +kernel
theorem dX4_timeBreaks_74 : decode cX4_timeBreaks 74 = .ok (.iload_n 3, 1) := by decide +kernel
theorem dX4_timeBreaks_75 : decode cX4_timeBreaks 75 = .ok (.iload 4, 2) := by decide +kernel
theorem dX4_timeBreaks_77 : decode cX4_timeBreaks 77 = .ok (.iconst 1, 1) := by decide +kernel
theorem dX4_timeBreaks_78 : decode cX4_timeBreaks 78 = .ok (.isub, 1) := by decide +kernel
theorem dX4_timeBreaks_79 : decode cX4_timeBreaks 79 = .ok (.iload 5, 2) := by decide +kernel
theorem dX4_timeBreaks_81 : decode cX4_timeBreaks 81 = .ok (.iload 6, 2) := by decide +kernel
theorem dX4_timeBreaks_83 : decode cX4_timeBreaks 83 = .ok (.iload 7, 2) := by decide +kernel
theorem dX4_timeBreaks_85 : decode cX4_timeBreaks 85 = .ok (.iload 8, 2) := by decide +kernel
theorem dX4_timeBreaks_87 : decode cX4_timeBreaks 87 = .ok (.invokestatic 124, 3) := by decide +kernel
theorem dX4_timeBreaks_90 : decode cX4_timeBreaks 90 = .ok (.invokevirtual 128, 3) := by decide +kernel
theorem dX4_timeBreaks_93 : decode cX4_timeBreaks 93 = .ok (.iinc 3 1, 3) := by decide +kernel
theorem dX4_timeBreaks_96 : decode cX4_timeBreaks 96 = .ok (.goto (-94), 3) := by decide +kernel
theorem dX4_timeBreaks_99 : decode cX4_timeBreaks 99 = .ok (.return_, 1) := by decide +kernel
theorem dX5_init_0 : decode cX5_init 0 = .ok (.aload_n 0, 1) := by decide +kernel
theorem dX5_init_1 : decode cX5_init 1 = .ok (.invokespecial 1, 3) := by decide +kernel
theorem dX5_init_4 : decode cX5_init 4 = .ok (.aload_n 0, 1) := by decide +kernel
theorem dX5_init_5 : decode cX5_init 5 = .ok (.iload_n 1, 1) := by decide +kernel
theorem dX5_init_6 : decode cX5_init 6 = .ok (.putfield 7, 3) := by decide +kernel
theorem dX5_init_9 : decode cX5_init 9 = .ok (.aload_n 0, 1) := by decide +kernel
theorem dX5_init_10 : decode cX5_init 10 = .ok (.iload_n 2, 1) := by decide +kernel
theorem dX5_init_11 : decode cX5_init 11 = .ok (.putfield 13, 3) := by decide +kernel
theorem dX5_init_14 : decode cX5_init 14 = .ok (.aload_n 0, 1) := by decide +kernel
theorem dX5_init_15 : decode cX5_init 15 = .ok (.aload_n 3, 1) := by decide +kernel
theorem dX5_init_16 : decode cX5_init 16 = .ok (.putfield 16, 3) := by decide +kernel
theorem dX5_init_19 : decode cX5_init 19 = .ok (.aload_n 0, 1) := by decide +kernel
theorem dX5_init_20 : decode cX5_init 20 = .ok (.iload 4, 2) := by decide +kernel
theorem dX5_init_22 : decode cX5_init 22 = .ok (.putfield 20, 3) := by decide +kernel
theorem dX5_init_25 : decode cX5_init 25 = .ok (.aload_n 0, 1) := by decide +kernel
theorem dX5_init_26 : decode cX5_init 26 = .ok (.aload 5, 2) := by decide +kernel
theorem dX5_init_28 : decode cX5_init 28 = .ok (.putfield 23, 3) := by decide +kernel
theorem dX5_init_31 : decode cX5_init 31 = .ok (.return_, 1) := by decide +kernel
theorem dX5_hasEnd_0 : decode cX5_hasEnd 0 = .ok (.aload_n 0, 1) := by decide +kernel
theorem dX5_hasEnd_1 : decode cX5_hasEnd 1 = .ok (.getfield 16, 3) := by decide +kernel
theorem dX5_hasEnd_4 : decode cX5_hasEnd 4 = .ok (.aload_n 1, 1) := by decide +kernel
theorem dX5_hasEnd_5 : decode cX5_hasEnd 5 = .ok (.if_acmp .eq 11, 3) := by decide +kernel
theorem dX5_hasEnd_8 : decode cX5_hasEnd 8 = .ok (.aload_n 0, 1) := by decide +kernel
theorem dX5_hasEnd_9 : decode cX5_hasEnd 9 = .ok (.getfield 23, 3) := by decide +kernel
theorem dX5_hasEnd_12 : decode cX5_hasEnd 12 = .ok (.aload_n 1, 1) := by decide +kernel
theorem dX5_hasEnd_13 : decode cX5_hasEnd 13 = .ok (.if_acmp .ne 7, 3) := by decide +kernel
theorem dX5_hasEnd_16 : decode cX5_hasEnd 16 = .ok (.iconst 1, 1) := by decide +kernel
theorem dX5_hasEnd_17 : decode cX5_hasEnd 17 = .ok (.goto 4, 3) := by decide +kernel
theorem dX5_hasEnd_20 : decode cX5_hasEnd 20 = .ok (.iconst 0, 1) := by decide +kernel
theorem dX5_hasEnd_21 : decode cX5_hasEnd 21 = .ok (.ireturn, 1) := by decide +kernel
theorem dX5_goesOnBehind_0 : decode cX5_goesOnBehind 0 = .ok (.aload_n 0, 1) := by decide +kernel
theorem dX5_goesOnBehind_1 : decode cX5_goesOnBehind 1 = .ok (.getfield 26, 3) := by decide +kernel
theorem dX5_goesOnBehind_4 : decode cX5_goesOnBehind 4 = .ok (.ifCond .ne 31, 3) := by decide +kernel
theorem dX5_goesOnBehind_7 : decode cX5_goesOnBehind 7 = .ok (.aload_n 0, 1) := by decide +kernel
theorem dX5_goesOnBehind_8 : decode cX5_goesOnBehind 8 = .ok (.getfield 7, 3) := by decide +kernel
theorem dX5_goesOnBehind_11 : decode cX5_goesOnBehind 11 = .ok (.iload_n 1, 1) := by decide +kernel
theorem dX5_goesOnBehind_12 : decode cX5_goesOnBehind 12 = .ok (.if_icmp .ne 23, 3) := by decide +kernel
theorem dX5_goesOnBehind_15 : decode cX5_goesOnBehind 15 = .ok (.aload_n 0, 1) := by decide +kernel
theorem dX5_goesOnBehind_16 : decode cX5_goesOnBehind 16 = .ok (.getfield 13, 3) := by decide +kernel
theorem dX5_goesOnBehind_19 : decode cX5_goesOnBehind 19 = .ok (.iload_n 2, 1) := by decide +kernel
theorem dX5_goesOnBehind_20 : decode cX5_goesOnBehind 20 = .ok (.if_icmp .gt 15, 3) := by decide +kernel
theorem dX5_goesOnBehind_23 : decode cX5_goesOnBehind 23 = .ok (.aload_n 0, 1) := by decide +kernel
theorem dX5_goesOnBehind_24 : decode cX5_goesOnBehind 24 = .ok (.getfield 20, 3) := by decide +kernel
theorem dX5_goesOnBehind_27 : decode cX5_goesOnBehind 27 = .ok (.iload_n 2, 1) := by decide +kernel
theorem dX5_goesOnBehind_28 : decode cX5_goesOnBehind 28 = .ok (.if_icmp .le 7, 3) := by decide +kernel
theorem dX5_goesOnBehind_31 : decode cX5_goesOnBehind 31 = .ok (.iconst 1, 1) := by decide +kernel
theorem dX5_goesOnBehind_32 : decode cX5_goesOnBehind 32 = .ok (.goto 4, 3) := by decide +kernel
theorem dX5_goesOnBehind_35 : decode cX5_goesOnBehind 35 = .ok (.iconst 0, 1) := by decide +kernel
theorem dX5_goesOnBehind_36 : decode cX5_goesOnBehind 36 = .ok (.ireturn, 1) := by decide +kernel
theorem dX6_init_0 : decode cX6_init 0 = .ok (.aload_n 0, 1) := by decide +kernel
theorem dX6_init_1 : decode cX6_init 1 = .ok (.invokespecial 3, 3) := by decide +kernel
theorem dX6_init_4 : decode cX6_init 4 = .ok (.aload_n 0, 1) := by decide +kernel
theorem dX6_init_5 : decode cX6_init 5 = .ok (.bipush 48, 2) := by decide +kernel
theorem dX6_init_7 : decode cX6_init 7 = .ok (.newarray .int, 2) := by decide +kernel
theorem dX6_init_9 : decode cX6_init 9 = .ok (.putfield 11, 3) := by decide +kernel
theorem dX6_init_12 : decode cX6_init 12 = .ok (.aload_n 0, 1) := by decide +kernel
theorem dX6_init_13 : decode cX6_init 13 = .ok (.bipush 48, 2) := by decide +kernel
theorem dX6_init_15 : decode cX6_init 15 = .ok (.newarray .int, 2) := by decide +kernel
theorem dX6_init_17 : decode cX6_init 17 = .ok (.putfield 15, 3) := by decide +kernel
theorem dX6_init_20 : decode cX6_init 20 = .ok (.aload_n 0, 1) := by decide +kernel
theorem dX6_init_21 : decode cX6_init 21 = .ok (.new 18, 3) := by decide +kernel
theorem dX6_init_24 : decode cX6_init 24 = .ok (.dup, 1) := by decide +kernel
theorem dX6_init_25 : decode cX6_init 25 = .ok (.invokespecial 20, 3) := by decide +kernel
theorem dX6_init_28 : decode cX6_init 28 = .ok (.putfield 21, 3) := by decide +kernel
theorem dX6_init_31 : decode cX6_init 31 = .ok (.aload_n 0, 1) := by decide +kernel
theorem dX6_init_32 : decode cX6_init 32 = .ok (.iconst (-1), 1) := by decide +kernel
theorem dX6_init_33 : decode cX6_init 33 = .ok (.putfield 25, 3) := by decide +kernel
theorem dX6_init_36 : decode cX6_init 36 = .ok (.aload_n 0, 1) := by decide +kernel
theorem dX6_init_37 : decode cX6_init 37 = .ok (.iconst 4, 1) := by decide +kernel
theorem dX6_init_38 : decode cX6_init 38 = .ok (.anewarray 29, 3) := by decide +kernel
theorem dX6_init_41 : decode cX6_init 41 = .ok (.putfield 31, 3) := by decide +kernel
theorem dX6_init_44 : decode cX6_init 44 = .ok (.aload_n 0, 1) := by decide +kernel
theorem dX6_init_45 : decode cX6_init 45 = .ok (.iconst 4, 1) := by decide +kernel
theorem dX6_init_46 : decode cX6_init 46 = .ok (.newarray .int, 2) := by decide +kernel
theorem dX6_init_48 : decode cX6_init 48 = .ok (.putfield 35, 3) := by decide +kernel
theorem dX6_init_51 : decode cX6_init 51 = .ok (.aload_n 0, 1) := by decide +kernel
theorem dX6_init_52 : decode cX6_init 52 = .ok (.iconst 4, 1) := by decide +kernel
theorem dX6_init_53 : decode cX6_init 53 = .ok (.newarray .int, 2) := by decide +kernel
theorem dX6_init_55 : decode cX6_init 55 = .ok (.putfield 38, 3) := by decide +kernel
theorem dX6_init_58 : decode cX6_init 58 = .ok (.return_, 1) := by decide +kernel
theorem dX6_renew_0 : decode cX6_renew 0 = .ok (.aload_n 0, 1) := by decide +kernel
theorem dX6_renew_1 : decode cX6_renew 1 = .ok (.getfield 25, 3) := by decide +kernel
theorem dX6_renew_4 : decode cX6_renew 4 = .ok (.aload_n 1, 1) := by decide +kernel
theorem dX6_renew_5 : decode cX6_renew 5 = .ok (.getfield 41, 3) := by decide +kernel
theorem dX6_renew_8 : decode cX6_renew 8 = .ok (.if_icmp .ne 4, 3) := by decide +kernel
theorem dX6_renew_11 : decode cX6_renew 11 = .ok (.return_, 1) := by decide +kernel
theorem dX6_renew_12 : decode cX6_renew 12 = .ok (.aload_n 0, 1) := by decide +kernel
theorem dX6_renew_13 : decode cX6_renew 13 = .ok (.aload_n 1, 1) := by decide +kernel
theorem dX6_renew_14 : decode cX6_renew 14 = .ok (.getfield 41, 3) := by decide +kernel
theorem dX6_renew_17 : decode cX6_renew 17 = .ok (.putfield 25, 3) := by decide +kernel
theorem dX6_renew_20 : decode cX6_renew 20 = .ok (.aload_n 0, 1) := by decide +kernel
theorem dX6_renew_21 : decode cX6_renew 21 = .ok (.aload_n 1, 1) := by decide +kernel
theorem dX6_renew_22 : decode cX6_renew 22 = .ok (.invokevirtual 44, 3) := by decide +kernel
theorem dX6_renew_25 : decode cX6_renew 25 = .ok (.aload_n 1, 1) := by decide +kernel
theorem dX6_renew_26 : decode cX6_renew 26 = .ok (.invokevirtual 48, 3) := by decide +kernel
theorem dX6_renew_29 : decode cX6_renew 29 = .ok (.aload_n 0, 1) := by decide +kernel
theorem dX6_renew_30 : decode cX6_renew 30 = .ok (.iconst 0, 1) := by decide +kernel
theorem dX6_renew_31 : decode cX6_renew 31 = .ok (.putfield 51, 3) := by decide +kernel
theorem dX6_renew_34 : decode cX6_renew 34 = .ok (.iconst 0, 1) := by decide +kernel
theorem dX6_renew_35 : decode cX6_renew 35 = .ok (.istore_n 2, 1) := by decide +kernel
theorem dX6_renew_36 : decode cX6_renew 36 = .ok (.iload_n 2, 1) := by decide +kernel
theorem dX6_renew_37 : decode cX6_renew 37 = .ok (.aload_n 0, 1) := by decide +kernel
theorem dX6_renew_38 : decode cX6_renew 38 = .ok (.getfield 54, 3) := by decide +kernel
theorem dX6_renew_41 : decode cX6_renew 41 = .ok (.if_icmp .ge 15, 3) := by decide +kernel
theorem dX6_renew_44 : decode cX6_renew 44 = .ok (.aload_n 0, 1) := by decide +kernel
theorem dX6_renew_45 : decode cX6_renew 45 = .ok (.aload_n 1, 1) := by decide +kernel
theorem dX6_renew_46 : decode cX6_renew 46 = .ok (.iload_n 2, 1) := by decide +kernel
theorem dX6_renew_47 : decode cX6_renew 47 = .ok (.invokevirtual 57, 3) := by decide +kernel
theorem dX6_renew_50 : decode cX6_renew 50 = .ok (.iinc 2 1, 3) := by decide +kernel
theorem dX6_renew_53 : decode cX6_renew 53 = .ok (.goto (-17), 3) := by decide +kernel
theorem dX6_renew_56 : decode cX6_renew 56 = .ok (.return_, 1) := by decide +kernel
theorem dX6_layPlaces_0 : decode cX6_layPlaces 0 = .ok (.aload_n 0, 1) := by decide +kernel
theorem dX6_layPlaces_1 : decode cX6_layPlaces 1 = .ok (.iconst 0, 1) := by decide +kernel
theorem dX6_layPlaces_2 : decode cX6_layPlaces 2 = .ok (.putfield 54, 3) := by decide +kernel
theorem dX6_layPlaces_5 : decode cX6_layPlaces 5 = .ok (.aload_n 0, 1) := by decide +kernel
theorem dX6_layPlaces_6 : decode cX6_layPlaces 6 = .ok (.iconst 0, 1) := by decide +kernel
theorem dX6_layPlaces_7 : decode cX6_layPlaces 7 = .ok (.putfield 61, 3) := by decide +kernel
theorem dX6_layPlaces_10 : decode cX6_layPlaces 10 = .ok (.iconst 0, 1) := by decide +kernel
theorem dX6_layPlaces_11 : decode cX6_layPlaces 11 = .ok (.istore_n 2, 1) := by decide +kernel
theorem dX6_layPlaces_12 : decode cX6_layPlaces 12 = .ok (.iload_n 2, 1) := by decide +kernel
theorem dX6_layPlaces_13 : decode cX6_layPlaces 13 = .ok (.aload_n 1, 1) := by decide +kernel
theorem dX6_layPlaces_14 : decode cX6_layPlaces 14 = .ok (.invokevirtual 64, 3) := by decide +kernel
theorem dX6_layPlaces_17 : decode cX6_layPlaces 17 = .ok (.if_icmp .ge 69, 3) := by decide +kernel
theorem dX6_layPlaces_20 : decode cX6_layPlaces 20 = .ok (.aload_n 0, 1) := by decide +kernel
theorem dX6_layPlaces_21 : decode cX6_layPlaces 21 = .ok (.aload_n 1, 1) := by decide +kernel
theorem dX6_layPlaces_22 : decode cX6_layPlaces 22 = .ok (.iload_n 2, 1) := by decide +kernel
theorem dX6_layPlaces_23 : decode cX6_layPlaces 23 = .ok (.invokevirtual 68, 3) := by decide +kernel
theorem dX6_layPlaces_26 : decode cX6_layPlaces 26 = .ok (.aload_n 1, 1) := by decide +kernel
theorem dX6_layPlaces_27 : decode cX6_layPlaces 27 = .ok (.iload_n 2, 1) := by decide +kernel
theorem dX6_layPlaces_28 : decode cX6_layPlaces 28 = .ok (.invokevirtual 71, 3) := by decide +kernel
theorem dX6_layPlaces_31 : decode cX6_layPlaces 31 = .ok (.istore_n 3, 1) := by decide +kernel
theorem dX6_layPlaces_32 : decode cX6_layPlaces 32 = .ok (.iload_n 3, 1) := by decide +kernel
theorem dX6_layPlaces_33 : decode cX6_layPlaces 33 = .ok (.iconst (-1), 1) := by decide +kernel
theorem dX6_layPlaces_34 : decode cX6_layPlaces 34 = .ok (.if_icmp .eq 46, 3) := by decide +kernel
theorem dX6_layPlaces_37 : decode cX6_layPlaces 37 = .ok (.aload_n 1, 1) := by decide +kernel
theorem dX6_layPlaces_38 : decode cX6_layPlaces 38 = .ok (.getfield 75, 3) := by decide +kernel
theorem dX6_layPlaces_41 : decode cX6_layPlaces 41 = .ok (.iload_n 3, 1) := by decide +kernel
theorem dX6_layPlaces_42 : decode cX6_layPlaces 42 = .ok (.invokevirtual 78, 3) := by decide +kernel
theorem dX6_layPlaces_45 : decode cX6_layPlaces 45 = .ok (.checkcast 82, 3) := by decide +kernel
theorem dX6_layPlaces_48 : decode cX6_layPlaces 48 = .ok (.astore 4, 2) := by decide +kernel
theorem dX6_layPlaces_50 : decode cX6_layPlaces 50 = .ok (.aload 4, 2) := by decide +kernel
theorem dX6_layPlaces_52 : decode cX6_layPlaces 52 = .ok (.getfield 84, 3) := by decide +kernel
theorem dX6_layPlaces_55 : decode cX6_layPlaces 55 = .ok (.istore 5, 2) := by decide +kernel
theorem dX6_layPlaces_57 : decode cX6_layPlaces 57 = .ok (.iload 5, 2) := by decide +kernel
theorem dX6_layPlaces_59 : decode cX6_layPlaces 59 = .ok (.aload 4, 2) := by decide +kernel
theorem dX6_layPlaces_61 : decode cX6_layPlaces 61 = .ok (.invokevirtual 87, 3) := by decide +kernel
theorem dX6_layPlaces_64 : decode cX6_layPlaces 64 = .ok (.if_icmp .gt 16, 3) := by decide +kernel
theorem dX6_layPlaces_67 : decode cX6_layPlaces 67 = .ok (.aload_n 0, 1) := by decide +kernel
theorem dX6_layPlaces_68 : decode cX6_layPlaces 68 = .ok (.aload_n 1, 1) := by decide +kernel
theorem dX6_layPlaces_69 : decode cX6_layPlaces 69 = .ok (.iload 5, 2) := by decide +kernel
theorem dX6_layPlaces_71 : decode cX6_layPlaces 71 = .ok (.invokevirtual 68, 3) := by decide +kernel
theorem dX6_layPlaces_74 : decode cX6_layPlaces 74 = .ok (.iinc 5 1, 3) := by decide +kernel
theorem dX6_layPlaces_77 : decode cX6_layPlaces 77 = .ok (.goto (-20), 3) := by decide +kernel
theorem dX6_layPlaces_80 : decode cX6_layPlaces 80 = .ok (.iinc 2 1, 3) := by decide +kernel
theorem dX6_layPlaces_83 : decode cX6_layPlaces 83 = .ok (.goto (-71), 3) := by decide +kernel
theorem dX6_layPlaces_86 : decode cX6_layPlaces 86 = .ok (.return_, 1) := by decide +kernel
theorem dX6_addPlace_0 : decode cX6_addPlace 0 = .ok (.aload_n 0, 1) := by decide +kernel
theorem dX6_addPlace_1 : decode cX6_addPlace 1 = .ok (.getfield 54, 3) := by decide +kernel
theorem dX6_addPlace_4 : decode cX6_addPlace 4 = .ok (.bipush 48, 2) := by decide +kernel
theorem dX6_addPlace_6 : decode cX6_addPlace 6 = .ok (.if_icmp .ge 50, 3) := by decide +kernel
theorem dX6_addPlace_9 : decode cX6_addPlace 9 = .ok (.aload_n 0, 1) := by decide +kernel
theorem dX6_addPlace_10 : decode cX6_addPlace 10 = .ok (.getfield 11, 3) := by decide +kernel
theorem dX6_addPlace_13 : decode cX6_addPlace 13 = .ok (.aload_n 0, 1) := by decide +kernel
theorem dX6_addPlace_14 : decode cX6_addPlace 14 = .ok (.getfield 54, 3) := by decide +kernel
theorem dX6_addPlace_17 : decode cX6_addPlace 17 = .ok (.iload_n 2, 1) := by decide +kernel
theorem dX6_addPlace_18 : decode cX6_addPlace 18 = .ok (.iastore, 1) := by decide +kernel
theorem dX6_addPlace_19 : decode cX6_addPlace 19 = .ok (.aload_n 0, 1) := by decide +kernel
theorem dX6_addPlace_20 : decode cX6_addPlace 20 = .ok (.getfield 15, 3) := by decide +kernel
theorem dX6_addPlace_23 : decode cX6_addPlace 23 = .ok (.aload_n 0, 1) := by decide +kernel
theorem dX6_addPlace_24 : decode cX6_addPlace 24 = .ok (.getfield 54, 3) := by decide +kernel
theorem dX6_addPlace_27 : decode cX6_addPlace 27 = .ok (.aload_n 0, 1) := by decide +kernel
theorem dX6_addPlace_28 : decode cX6_addPlace 28 = .ok (.getfield 61, 3) := by decide +kernel
theorem dX6_addPlace_31 : decode cX6_addPlace 31 = .ok (.iastore, 1) := by decide +kernel
theorem dX6_addPlace_32 : decode cX6_addPlace 32 = .ok (.aload_n 0, 1) := by decide +kernel
theorem dX6_addPlace_33 : decode cX6_addPlace 33 = .ok (.dup, 1) := by decide +kernel
theorem dX6_addPlace_34 : decode cX6_addPlace 34 = .ok (.getfield 54, 3) := by decide +kernel
theorem dX6_addPlace_37 : decode cX6_addPlace 37 = .ok (.iconst 1, 1) := by decide +kernel
theorem dX6_addPlace_38 : decode cX6_addPlace 38 = .ok (.iadd, 1) := by decide +kernel
theorem dX6_addPlace_39 : decode cX6_addPlace 39 = .ok (.putfield 54, 3) := by decide +kernel
theorem dX6_addPlace_42 : decode cX6_addPlace 42 = .ok (.aload_n 0, 1) := by decide +kernel
theorem dX6_addPlace_43 : decode cX6_addPlace 43 = .ok (.dup, 1) := by decide +kernel
theorem dX6_addPlace_44 : decode cX6_addPlace 44 = .ok (.getfield 61, 3) := by decide +kernel
theorem dX6_addPlace_47 : decode cX6_addPlace 47 = .ok (.aload_n 1, 1) := by decide +kernel
theorem dX6_addPlace_48 : decode cX6_addPlace 48 = .ok (.iload_n 2, 1) := by decide +kernel
theorem dX6_addPlace_49 : decode cX6_addPlace 49 = .ok (.invokevirtual 90, 3) := by decide +kernel
theorem dX6_addPlace_52 : decode cX6_addPlace 52 = .ok (.iadd, 1) := by decide +kernel
theorem dX6_addPlace_53 : decode cX6_addPlace 53 = .ok (.putfield 61, 3) := by decide +kernel
theorem dX6_addPlace_56 : decode cX6_addPlace 56 = .ok (.return_, 1) := by decide +kernel
theorem dX6_playPlace_0 : decode cX6_playPlace 0 = .ok (.aload_n 1, 1) := by decide +kernel
theorem dX6_playPlace_1 : decode cX6_playPlace 1 = .ok (.aload_n 0, 1) := by decide +kernel
theorem dX6_playPlace_2 : decode cX6_playPlace 2 = .ok (.getfield 11, 3) := by decide +kernel
theorem dX6_playPlace_5 : decode cX6_playPlace 5 = .ok (.iload_n 2, 1) := by decide +kernel
theorem dX6_playPlace_6 : decode cX6_playPlace 6 = .ok (.iaload, 1) := by decide +kernel
theorem dX6_playPlace_7 : decode cX6_playPlace 7 = .ok (.invokevirtual 93, 3) := by decide +kernel
theorem dX6_playPlace_10 : decode cX6_playPlace 10 = .ok (.astore_n 3, 1) := by decide +kernel
theorem dX6_playPlace_11 : decode cX6_playPlace 11 = .ok (.aload_n 1, 1) := by decide +kernel
theorem dX6_playPlace_12 : decode cX6_playPlace 12 = .ok (.aload_n 0, 1) := by decide +kernel
theorem dX6_playPlace_13 : decode cX6_playPlace 13 = .ok (.getfield 11, 3) := by decide +kernel
theorem dX6_playPlace_16 : decode cX6_playPlace 16 = .ok (.iload_n 2, 1) := by decide +kernel
theorem dX6_playPlace_17 : decode cX6_playPlace 17 = .ok (.iaload, 1) := by decide +kernel
theorem dX6_playPlace_18 : decode cX6_playPlace 18 = .ok (.invokevirtual 97, 3) := by decide +kernel
theorem dX6_playPlace_21 : decode cX6_playPlace 21 = .ok (.istore 4, 2) := by decide +kernel
theorem dX6_playPlace_23 : decode cX6_playPlace 23 = .ok (.iconst 0, 1) := by decide +kernel
theorem dX6_playPlace_24 : decode cX6_playPlace 24 = .ok (.istore 5, 2) := by decide +kernel
theorem dX6_playPlace_26 : decode cX6_playPlace 26 = .ok (.iload 5, 2) := by decide +kernel
theorem dX6_playPlace_28 : decode cX6_playPlace 28 = .ok (.iconst 4, 1) := by decide +kernel
theorem dX6_playPlace_29 : decode cX6_playPlace 29 = .ok (.if_icmp .ge 25, 3) := by decide +kernel
theorem dX6_playPlace_32 : decode cX6_playPlace 32 = .ok (.aload_n 0, 1) := by decide +kernel
theorem dX6_playPlace_33 : decode cX6_playPlace 33 = .ok (.getfield 35, 3) := by decide +kernel
theorem dX6_playPlace_36 : decode cX6_playPlace 36 = .ok (.iload 5, 2) := by decide +kernel
theorem dX6_playPlace_38 : decode cX6_playPlace 38 = .ok (.iconst 0, 1) := by decide +kernel
theorem dX6_playPlace_39 : decode cX6_playPlace 39 = .ok (.iastore, 1) := by decide +kernel
theorem dX6_playPlace_40 : decode cX6_playPlace 40 = .ok (.aload_n 0, 1) := by decide +kernel
theorem dX6_playPlace_41 : decode cX6_playPlace 41 = .ok (.getfield 38, 3) := by decide +kernel
theorem dX6_playPlace_44 : decode cX6_playPlace 44 = .ok (.iload 5, 2) := by decide +kernel
theorem dX6_playPlace_46 : decode cX6_playPlace 46 = .ok (.iconst 0, 1) := by decide +kernel
theorem dX6_playPlace_47 : decode cX6_playPlace 47 = .ok (.iastore, 1) := by decide +kernel
theorem dX6_playPlace_48 : decode cX6_playPlace 48 = .ok (.iinc 5 1, 3) := by decide +kernel
theorem dX6_playPlace_51 : decode cX6_playPlace 51 = .ok (.goto (-25), 3) := by decide +kernel
theorem dX6_playPlace_54 : decode cX6_playPlace 54 = .ok (.iconst 0, 1) := by decide +kernel
theorem dX6_playPlace_55 : decode cX6_playPlace 55 = .ok (.istore 5, 2) := by decide +kernel
theorem dX6_playPlace_57 : decode cX6_playPlace 57 = .ok (.iload 5, 2) := by decide +kernel
theorem dX6_playPlace_59 : decode cX6_playPlace 59 = .ok (.bipush 64, 2) := by decide +kernel
theorem dX6_playPlace_61 : decode cX6_playPlace 61 = .ok (.if_icmp .ge 33, 3) := by decide +kernel
theorem dX6_playPlace_64 : decode cX6_playPlace 64 = .ok (.aload_n 0, 1) := by decide +kernel
theorem dX6_playPlace_65 : decode cX6_playPlace 65 = .ok (.aload_n 3, 1) := by decide +kernel
theorem dX6_playPlace_66 : decode cX6_playPlace 66 = .ok (.invokevirtual 100, 3) := by decide +kernel
theorem dX6_playPlace_69 : decode cX6_playPlace 69 = .ok (.istore 6, 2) := by decide +kernel
theorem dX6_playPlace_71 : decode cX6_playPlace 71 = .ok (.iload 6, 2) := by decide +kernel
theorem dX6_playPlace_73 : decode cX6_playPlace 73 = .ok (.iconst (-1), 1) := by decide +kernel
theorem dX6_playPlace_74 : decode cX6_playPlace 74 = .ok (.if_icmp .ne 4, 3) := by decide +kernel
theorem dX6_playPlace_77 : decode cX6_playPlace 77 = .ok (.return_, 1) := by decide +kernel
theorem dX6_playPlace_78 : decode cX6_playPlace 78 = .ok (.aload_n 0, 1) := by decide +kernel
theorem dX6_playPlace_79 : decode cX6_playPlace 79 = .ok (.aload_n 1, 1) := by decide +kernel
theorem dX6_playPlace_80 : decode cX6_playPlace 80 = .ok (.iload_n 2, 1) := by decide +kernel
theorem dX6_playPlace_81 : decode cX6_playPlace 81 = .ok (.iload 6, 2) := by decide +kernel
theorem dX6_playPlace_83 : decode cX6_playPlace 83 = .ok (.iload 4, 2) := by decide +kernel
theorem dX6_playPlace_85 : decode cX6_playPlace 85 = .ok (.invokevirtual 104, 3) := by decide +kernel
theorem dX6_playPlace_88 : decode cX6_playPlace 88 = .ok (.iinc 5 1, 3) := by decide +kernel
theorem dX6_playPlace_91 : decode cX6_playPlace 91 = .ok (.goto (-34), 3) := by decide +kernel
theorem dX6_playPlace_94 : decode cX6_playPlace 94 = .ok (.return_, 1) := by decide +kernel
theorem dX6_nextVoice_0 : decode cX6_nextVoice 0 = .ok (.iconst (-1), 1) := by decide +kernel
theorem dX6_nextVoice_1 : decode cX6_nextVoice 1 = .ok (.istore_n 2, 1) := by decide +kernel
theorem dX6_nextVoice_2 : decode cX6_nextVoice 2 = .ok (.iconst 0, 1) := by decide +kernel
theorem dX6_nextVoice_3 : decode cX6_nextVoice 3 = .ok (.istore_n 3, 1) := by decide +kernel
theorem dX6_nextVoice_4 : decode cX6_nextVoice 4 = .ok (.iload_n 3, 1) := by decide +kernel
theorem dX6_nextVoice_5 : decode cX6_nextVoice 5 = .ok (.iconst 4, 1) := by decide +kernel
theorem dX6_nextVoice_6 : decode cX6_nextVoice 6 = .ok (.if_icmp .ge 61, 3) := by decide +kernel
theorem dX6_nextVoice_9 : decode cX6_nextVoice 9 = .ok (.aload_n 0, 1) := by decide +kernel
theorem dX6_nextVoice_10 : decode cX6_nextVoice 10 = .ok (.getfield 35, 3) := by decide +kernel
theorem dX6_nextVoice_13 : decode cX6_nextVoice 13 = .ok (.iload_n 3, 1) := by decide +kernel
theorem dX6_nextVoice_14 : decode cX6_nextVoice 14 = .ok (.iaload, 1) := by decide +kernel
theorem dX6_nextVoice_15 : decode cX6_nextVoice 15 = .ok (.aload_n 1, 1) := by decide +kernel
theorem dX6_nextVoice_16 : decode cX6_nextVoice 16 = .ok (.getfield 108, 3) := by decide +kernel
theorem dX6_nextVoice_19 : decode cX6_nextVoice 19 = .ok (.iload_n 3, 1) := by decide +kernel
theorem dX6_nextVoice_20 : decode cX6_nextVoice 20 = .ok (.aaload, 1) := by decide +kernel
theorem dX6_nextVoice_21 : decode cX6_nextVoice 21 = .ok (.invokevirtual 114, 3) := by decide +kernel
theorem dX6_nextVoice_24 : decode cX6_nextVoice 24 = .ok (.if_icmp .lt 7, 3) := by decide +kernel
theorem dX6_nextVoice_27 : decode cX6_nextVoice 27 = .ok (.iconst 1, 1) := by decide +kernel
theorem dX6_nextVoice_28 : decode cX6_nextVoice 28 = .ok (.goto 4, 3) := by decide +kernel
theorem dX6_nextVoice_31 : decode cX6_nextVoice 31 = .ok (.iconst 0, 1) := by decide +kernel
theorem dX6_nextVoice_32 : decode cX6_nextVoice 32 = .ok (.istore 4, 2) := by decide +kernel
theorem dX6_nextVoice_34 : decode cX6_nextVoice 34 = .ok (.iload 4, 2) := by decide +kernel
theorem dX6_nextVoice_36 : decode cX6_nextVoice 36 = .ok (.ifCond .ne 25, 3) := by decide +kernel
theorem dX6_nextVoice_39 : decode cX6_nextVoice 39 = .ok (.iload_n 2, 1) := by decide +kernel
theorem dX6_nextVoice_40 : decode cX6_nextVoice 40 = .ok (.iconst (-1), 1) := by decide +kernel
theorem dX6_nextVoice_41 : decode cX6_nextVoice 41 = .ok (.if_icmp .eq 18, 3) := by decide +kernel
theorem dX6_nextVoice_44 : decode cX6_nextVoice 44 = .ok (.aload_n 0, 1) := by decide +kernel
theorem dX6_nextVoice_45 : decode cX6_nextVoice 45 = .ok (.getfield 38, 3) := by decide +kernel
theorem dX6_nextVoice_48 : decode cX6_nextVoice 48 = .ok (.iload_n 3, 1) := by decide +kernel
theorem dX6_nextVoice_49 : decode cX6_nextVoice 49 = .ok (.iaload, 1) := by decide +kernel
theorem dX6_nextVoice_50 : decode cX6_nextVoice 50 = .ok (.aload_n 0, 1) := by decide +kernel
theorem dX6_nextVoice_51 : decode cX6_nextVoice 51 = .ok (.getfield 38, 3) := by decide +kernel
theorem dX6_nextVoice_54 : decode cX6_nextVoice 54 = .ok (.iload_n 2, 1) := by decide +kernel
theorem dX6_nextVoice_55 : decode cX6_nextVoice 55 = .ok (.iaload, 1) := by decide +kernel
theorem dX6_nextVoice_56 : decode cX6_nextVoice 56 = .ok (.if_icmp .ge 5, 3) := by decide +kernel
theorem dX6_nextVoice_59 : decode cX6_nextVoice 59 = .ok (.iload_n 3, 1) := by decide +kernel
theorem dX6_nextVoice_60 : decode cX6_nextVoice 60 = .ok (.istore_n 2, 1) := by decide +kernel
theorem dX6_nextVoice_61 : decode cX6_nextVoice 61 = .ok (.iinc 3 1, 3) := by decide +kernel
theorem dX6_nextVoice_64 : decode cX6_nextVoice 64 = .ok (.goto (-60), 3) := by decide +kernel
theorem dX6_nextVoice_67 : decode cX6_nextVoice 67 = .ok (.iload_n 2, 1) := by decide +kernel
theorem dX6_nextVoice_68 : decode cX6_nextVoice 68 = .ok (.ireturn, 1) := by decide +kernel
theorem dX6_playEvent_0 : decode cX6_playEvent 0 = .ok (.aload_n 0, 1) := by decide +kernel
theorem dX6_playEvent_1 : decode cX6_playEvent 1 = .ok (.getfield 35, 3) := by decide +kernel
theorem dX6_playEvent_4 : decode cX6_playEvent 4 = .ok (.iload_n 3, 1) := by decide +kernel
theorem dX6_playEvent_5 : decode cX6_playEvent 5 = .ok (.iaload, 1) := by decide +kernel
theorem dX6_playEvent_6 : decode cX6_playEvent 6 = .ok (.istore 5, 2) := by decide +kernel
theorem dX6_playEvent_8 : decode cX6_playEvent 8 = .ok (.aload_n 1, 1) := by decide +kernel
theorem dX6_playEvent_9 : decode cX6_playEvent 9 = .ok (.iload_n 3, 1) := by decide +kernel
theorem dX6_playEvent_10 : decode cX6_playEvent 10 = .ok (.aload_n 0, 1) := by decide +kernel
theorem dX6_playEvent_11 : decode cX6_playEvent 11 = .ok (.getfield 11, 3) := by decide +kernel
theorem dX6_playEvent_14 : decode cX6_playEvent 14 = .ok (.iload_n 2, 1) := by decide +kernel
theorem dX6_playEvent_15 : decode cX6_playEvent 15 = .ok (.iaload, 1) := by decide +kernel
theorem dX6_playEvent_16 : decode cX6_playEvent 16 = .ok (.invokevirtual 119, 3) := by decide +kernel
theorem dX6_playEvent_19 : decode cX6_playEvent 19 = .ok (.iload 5, 2) := by decide +kernel
theorem dX6_playEvent_21 : decode cX6_playEvent 21 = .ok (.invokevirtual 123, 3) := by decide +kernel
theorem dX6_playEvent_24 : decode cX6_playEvent 24 = .ok (.astore 6, 2) := by decide +kernel
theorem dX6_playEvent_26 : decode cX6_playEvent 26 = .ok (.aload_n 0, 1) := by decide +kernel
theorem dX6_playEvent_27 : decode cX6_playEvent 27 = .ok (.getfield 15, 3) := by decide +kernel
theorem dX6_playEvent_30 : decode cX6_playEvent 30 = .ok (.iload_n 2, 1) := by decide +kernel
theorem dX6_playEvent_31 : decode cX6_playEvent 31 = .ok (.iaload, 1) := by decide +kernel
theorem dX6_playEvent_32 : decode cX6_playEvent 32 = .ok (.aload_n 0, 1) := by decide +kernel
theorem dX6_playEvent_33 : decode cX6_playEvent 33 = .ok (.getfield 38, 3) := by decide +kernel
theorem dX6_playEvent_36 : decode cX6_playEvent 36 = .ok (.iload_n 3, 1) := by decide +kernel
theorem dX6_playEvent_37 : decode cX6_playEvent 37 = .ok (.iaload, 1) := by decide +kernel
theorem dX6_playEvent_38 : decode cX6_playEvent 38 = .ok (.iload 4, 2) := by decide +kernel
theorem dX6_playEvent_40 : decode cX6_playEvent 40 = .ok (.invokestatic 126, 3) := by decide +kernel
theorem dX6_playEvent_43 : decode cX6_playEvent 43 = .ok (.iadd, 1) := by decide +kernel
theorem dX6_playEvent_44 : decode cX6_playEvent 44 = .ok (.istore 7, 2) := by decide +kernel
theorem dX6_playEvent_46 : decode cX6_playEvent 46 = .ok (.aload_n 0, 1) := by decide +kernel
theorem dX6_playEvent_47 : decode cX6_playEvent 47 = .ok (.getfield 38, 3) := by decide +kernel
theorem dX6_playEvent_50 : decode cX6_playEvent 50 = .ok (.iload_n 3, 1) := by decide +kernel
theorem dX6_playEvent_51 : decode cX6_playEvent 51 = .ok (.dup2, 1) := by decide +kernel
theorem dX6_playEvent_52 : decode cX6_playEvent 52 = .ok (.iaload, 1) := by decide +kernel
theorem dX6_playEvent_53 : decode cX6_playEvent 53 = .ok (.aload 6, 2) := by decide +kernel
theorem dX6_playEvent_55 : decode cX6_playEvent 55 = .ok (.getfield 130, 3) := by decide +kernel
theorem dX6_playEvent_58 : decode cX6_playEvent 58 = .ok (.iadd, 1) := by decide +kernel
theorem dX6_playEvent_59 : decode cX6_playEvent 59 = .ok (.iastore, 1) := by decide +kernel
theorem dX6_playEvent_60 : decode cX6_playEvent 60 = .ok (.aload_n 0, 1) := by decide +kernel
theorem dX6_playEvent_61 : decode cX6_playEvent 61 = .ok (.getfield 35, 3) := by decide +kernel
theorem dX6_playEvent_64 : decode cX6_playEvent 64 = .ok (.iload_n 3, 1) := by decide +kernel
theorem dX6_playEvent_65 : decode cX6_playEvent 65 = .ok (.dup2, 1) := by decide +kernel
theorem dX6_playEvent_66 : decode cX6_playEvent 66 = .ok (.iaload, 1) := by decide +kernel
theorem dX6_playEvent_67 : decode cX6_playEvent 67 = .ok (.iconst 1, 1) := by decide +kernel
theorem dX6_playEvent_68 : decode cX6_playEvent 68 = .ok (.iadd, 1) := by decide +kernel
theorem dX6_playEvent_69 : decode cX6_playEvent 69 = .ok (.iastore, 1) := by decide +kernel
theorem dX6_playEvent_70 : decode cX6_playEvent 70 = .ok (.aload 6, 2) := by decide +kernel
theorem dX6_playEvent_72 : decode cX6_playEvent 72 = .ok (.invokevirtual 135, 3) := by decide +kernel
theorem dX6_playEvent_75 : decode cX6_playEvent 75 = .ok (.ifCond .ne 4, 3) := by decide +kernel
theorem dX6_playEvent_78 : decode cX6_playEvent 78 = .ok (.return_, 1) := by decide +kernel
theorem dX6_playEvent_79 : decode cX6_playEvent 79 = .ok (.aload_n 0, 1) := by decide +kernel
theorem dX6_playEvent_80 : decode cX6_playEvent 80 = .ok (.aload_n 1, 1) := by decide +kernel
theorem dX6_playEvent_81 : decode cX6_playEvent 81 = .ok (.iload_n 2, 1) := by decide +kernel
theorem dX6_playEvent_82 : decode cX6_playEvent 82 = .ok (.iload_n 3, 1) := by decide +kernel
theorem dX6_playEvent_83 : decode cX6_playEvent 83 = .ok (.iload 5, 2) := by decide +kernel
theorem dX6_playEvent_85 : decode cX6_playEvent 85 = .ok (.invokevirtual 139, 3) := by decide +kernel
theorem dX6_playEvent_88 : decode cX6_playEvent 88 = .ok (.astore 8, 2) := by decide +kernel
theorem dX6_playEvent_90 : decode cX6_playEvent 90 = .ok (.aload 8, 2) := by decide +kernel
theorem dX6_playEvent_92 : decode cX6_playEvent 92 = .ok (.ifnull 26, 3) := by decide +kernel
theorem dX6_playEvent_95 : decode cX6_playEvent 95 = .ok (.aload 8, 2) := by decide +kernel
theorem dX6_playEvent_97 : decode cX6_playEvent 97 = .ok (.aload 6, 2) := by decide +kernel
theorem dX6_playEvent_99 : decode cX6_playEvent 99 = .ok (.invokevirtual 143, 3) := by decide +kernel
theorem dX6_playEvent_102 : decode cX6_playEvent 102 = .ok (.ifCond .eq 16, 3) := by decide +kernel
theorem dX6_playEvent_105 : decode cX6_playEvent 105 = .ok (.aload_n 0, 1) := by decide +kernel
theorem dX6_playEvent_106 : decode cX6_playEvent 106 = .ok (.getfield 31, 3) := by decide +kernel
theorem dX6_playEvent_109 : decode cX6_playEvent 109 = .ok (.iload_n 3, 1) := by decide +kernel
theorem dX6_playEvent_110 : decode cX6_playEvent 110 = .ok (.aaload, 1) := by decide +kernel
theorem dX6_playEvent_111 : decode cX6_playEvent 111 = .ok (.ifnull 7, 3) := by decide +kernel
theorem dX6_playEvent_114 : decode cX6_playEvent 114 = .ok (.iconst 1, 1) := by decide +kernel
theorem dX6_playEvent_115 : decode cX6_playEvent 115 = .ok (.goto 4, 3) := by decide +kernel
theorem dX6_playEvent_118 : decode cX6_playEvent 118 = .ok (.iconst 0, 1) := by decide +kernel
theorem dX6_playEvent_119 : decode cX6_playEvent 119 = .ok (.istore 9, 2) := by decide +kernel
theorem dX6_playEvent_121 : decode cX6_playEvent 121 = .ok (.iload 9, 2) := by decide +kernel
theorem dX6_playEvent_123 : decode cX6_playEvent 123 = .ok (.ifCond .eq 12, 3) := by decide +kernel
theorem dX6_playEvent_126 : decode cX6_playEvent 126 = .ok (.aload_n 0, 1) := by decide +kernel
theorem dX6_playEvent_127 : decode cX6_playEvent 127 = .ok (.getfield 31, 3) := by decide +kernel
theorem dX6_playEvent_130 : decode cX6_playEvent 130 = .ok (.iload_n 3, 1) := by decide +kernel
theorem dX6_playEvent_131 : decode cX6_playEvent 131 = .ok (.aaload, 1) := by decide +kernel
theorem dX6_playEvent_132 : decode cX6_playEvent 132 = .ok (.goto 12, 3) := by decide +kernel
theorem dX6_playEvent_135 : decode cX6_playEvent 135 = .ok (.aload_n 0, 1) := by decide +kernel
theorem dX6_playEvent_136 : decode cX6_playEvent 136 = .ok (.iload_n 3, 1) := by decide +kernel
theorem dX6_playEvent_137 : decode cX6_playEvent 137 = .ok (.iload 7, 2) := by decide +kernel
theorem dX6_playEvent_139 : decode cX6_playEvent 139 = .ok (.aload 6, 2) := by decide +kernel
theorem dX6_playEvent_141 : decode cX6_playEvent 141 = .ok (.invokevirtual 147, 3) := by decide +kernel
theorem dX6_playEvent_144 : decode cX6_playEvent 144 = .ok (.astore 10, 2) := by decide +kernel
theorem dX6_playEvent_146 : decode cX6_playEvent 146 = .ok (.aload 10, 2) := by decide +kernel
theorem dX6_playEvent_148 : decode cX6_playEvent 148 = .ok (.aload_n 0, 1) := by decide +kernel
theorem dX6_playEvent_149 : decode cX6_playEvent 149 = .ok (.getfield 15, 3) := by decide +kernel
theorem dX6_playEvent_152 : decode cX6_playEvent 152 = .ok (.iload_n 2, 1) := by decide +kernel
theorem dX6_playEvent_153 : decode cX6_playEvent 153 = .ok (.iaload, 1) := by decide +kernel
theorem dX6_playEvent_154 : decode cX6_playEvent 154 = .ok (.aload_n 0, 1) := by decide +kernel
theorem dX6_playEvent_155 : decode cX6_playEvent 155 = .ok (.getfield 38, 3) := by decide +kernel
theorem dX6_playEvent_158 : decode cX6_playEvent 158 = .ok (.iload_n 3, 1) := by decide +kernel
theorem dX6_playEvent_159 : decode cX6_playEvent 159 = .ok (.iaload, 1) := by decide +kernel
theorem dX6_playEvent_160 : decode cX6_playEvent 160 = .ok (.iload 4, 2) := by decide +kernel
theorem dX6_playEvent_162 : decode cX6_playEvent 162 = .ok (.invokestatic 126, 3) := by decide +kernel
theorem dX6_playEvent_165 : decode cX6_playEvent 165 = .ok (.iadd, 1) := by decide +kernel
theorem dX6_playEvent_166 : decode cX6_playEvent 166 = .ok (.putfield 151, 3) := by decide +kernel
theorem dX6_playEvent_169 : decode cX6_playEvent 169 = .ok (.aload_n 0, 1) := by decide +kernel
theorem dX6_playEvent_170 : decode cX6_playEvent 170 = .ok (.getfield 31, 3) := by decide +kernel
theorem dX6_playEvent_173 : decode cX6_playEvent 173 = .ok (.iload_n 3, 1) := by decide +kernel
theorem dX6_playEvent_174 : decode cX6_playEvent 174 = .ok (.aload 10, 2) := by decide +kernel
theorem dX6_playEvent_176 : decode cX6_playEvent 176 = .ok (.aastore, 1) := by decide +kernel
theorem dX6_playEvent_177 : decode cX6_playEvent 177 = .ok (.return_, 1) := by decide +kernel
theorem dX6_eventAhead_0 : decode cX6_eventAhead 0 = .ok (.iload 4, 2) := by decide +kernel
theorem dX6_eventAhead_2 : decode cX6_eventAhead 2 = .ok (.ifCond .le 22, 3) := by decide +kernel
theorem dX6_eventAhead_5 : decode cX6_eventAhead 5 = .ok (.aload_n 1, 1) := by decide +kernel
theorem dX6_eventAhead_6 : decode cX6_eventAhead 6 = .ok (.iload_n 3, 1) := by decide +kernel
theorem dX6_eventAhead_7 : decode cX6_eventAhead 7 = .ok (.aload_n 0, 1) := by decide +kernel
theorem dX6_eventAhead_8 : decode cX6_eventAhead 8 = .ok (.getfield 11, 3) := by decide +kernel
theorem dX6_eventAhead_11 : decode cX6_eventAhead 11 = .ok (.iload_n 2, 1) := by decide +kernel
theorem dX6_eventAhead_12 : decode cX6_eventAhead 12 = .ok (.iaload, 1) := by decide +kernel
theorem dX6_eventAhead_13 : decode cX6_eventAhead 13 = .ok (.invokevirtual 119, 3) := by decide +kernel
theorem dX6_eventAhead_16 : decode cX6_eventAhead 16 = .ok (.iload 4, 2) := by decide +kernel
theorem dX6_eventAhead_18 : decode cX6_eventAhead 18 = .ok (.iconst 1, 1) := by decide +kernel
theorem dX6_eventAhead_19 : decode cX6_eventAhead 19 = .ok (.isub, 1) := by decide +kernel
theorem dX6_eventAhead_20 : decode cX6_eventAhead 20 = .ok (.invokevirtual 123, 3) := by decide +kernel
theorem dX6_eventAhead_23 : decode cX6_eventAhead 23 = .ok (.areturn, 1) := by decide +kernel
theorem dX6_eventAhead_24 : decode cX6_eventAhead 24 = .ok (.iload_n 2, 1) := by decide +kernel
theorem dX6_eventAhead_25 : decode cX6_eventAhead 25 = .ok (.ifCond .eq 22, 3) := by decide +kernel
theorem dX6_eventAhead_28 : decode cX6_eventAhead 28 = .ok (.aload_n 0, 1) := by decide +kernel
theorem dX6_eventAhead_29 : decode cX6_eventAhead 29 = .ok (.getfield 11, 3) := by decide +kernel
theorem dX6_eventAhead_32 : decode cX6_eventAhead 32 = .ok (.iload_n 2, 1) := by decide +kernel
theorem dX6_eventAhead_33 : decode cX6_eventAhead 33 = .ok (.iconst 1, 1) := by decide +kernel
theorem dX6_eventAhead_34 : decode cX6_eventAhead 34 = .ok (.isub, 1) := by decide +kernel
theorem dX6_eventAhead_35 : decode cX6_eventAhead 35 = .ok (.iaload, 1) := by decide +kernel
theorem dX6_eventAhead_36 : decode cX6_eventAhead 36 = .ok (.iconst 1, 1) := by decide +kernel
theorem dX6_eventAhead_37 : decode cX6_eventAhead 37 = .ok (.iadd, 1) := by decide +kernel
theorem dX6_eventAhead_38 : decode cX6_eventAhead 38 = .ok (.aload_n 0, 1) := by decide +kernel
theorem dX6_eventAhead_39 : decode cX6_eventAhead 39 = .ok (.getfield 11, 3) := by decide +kernel
theorem dX6_eventAhead_42 : decode cX6_eventAhead 42 = .ok (.iload_n 2, 1) := by decide +kernel
theorem dX6_eventAhead_43 : decode cX6_eventAhead 43 = .ok (.iaload, 1) := by decide +kernel
theorem dX6_eventAhead_44 : decode cX6_eventAhead 44 = .ok (.if_icmp .eq 5, 3) := by decide +kernel
theorem dX6_eventAhead_47 : decode cX6_eventAhead 47 = .ok (.aconst_null, 1) := by decide +kernel
theorem dX6_eventAhead_48 : decode cX6_eventAhead 48 = .ok (.areturn, 1) := by decide +kernel
theorem dX6_eventAhead_49 : decode cX6_eventAhead 49 = .ok (.aload_n 1, 1) := by decide +kernel
theorem dX6_eventAhead_50 : decode cX6_eventAhead 50 = .ok (.iload_n 3, 1) := by decide +kernel
theorem dX6_eventAhead_51 : decode cX6_eventAhead 51 = .ok (.aload_n 0, 1) := by decide +kernel
theorem dX6_eventAhead_52 : decode cX6_eventAhead 52 = .ok (.getfield 11, 3) := by decide +kernel
theorem dX6_eventAhead_55 : decode cX6_eventAhead 55 = .ok (.iload_n 2, 1) := by decide +kernel
theorem dX6_eventAhead_56 : decode cX6_eventAhead 56 = .ok (.iconst 1, 1) := by decide +kernel
theorem dX6_eventAhead_57 : decode cX6_eventAhead 57 = .ok (.isub, 1) := by decide +kernel
theorem dX6_eventAhead_58 : decode cX6_eventAhead 58 = .ok (.iaload, 1) := by decide +kernel
theorem dX6_eventAhead_59 : decode cX6_eventAhead 59 = .ok (.invokevirtual 119, 3) := by decide +kernel
theorem dX6_eventAhead_62 : decode cX6_eventAhead 62 = .ok (.astore 5, 2) := by decide +kernel
theorem dX6_eventAhead_64 : decode cX6_eventAhead 64 = .ok (.aload 5, 2) := by decide +kernel
theorem dX6_eventAhead_66 : decode cX6_eventAhead 66 = .ok (.invokevirtual 152, 3) := by decide +kernel
theorem dX6_eventAhead_69 : decode cX6_eventAhead 69 = .ok (.ifCond .eq 7, 3) := by decide +kernel
theorem dX6_eventAhead_72 : decode cX6_eventAhead 72 = .ok (.aconst_null, 1) := by decide +kernel
theorem dX6_eventAhead_73 : decode cX6_eventAhead 73 = .ok (.goto 15, 3) := by decide +kernel
theorem dX6_eventAhead_76 : decode cX6_eventAhead 76 = .ok (.aload 5, 2) := by decide +kernel
theorem dX6_eventAhead_78 : decode cX6_eventAhead 78 = .ok (.aload 5, 2) := by decide +kernel
theorem dX6_eventAhead_80 : decode cX6_eventAhead 80 = .ok (.invokevirtual 114, 3) := by decide +kernel
theorem dX6_eventAhead_83 : decode cX6_eventAhead 83 = .ok (.iconst 1, 1) := by decide +kernel
theorem dX6_eventAhead_84 : decode cX6_eventAhead 84 = .ok (.isub, 1) := by decide +kernel
theorem dX6_eventAhead_85 : decode cX6_eventAhead 85 = .ok (.invokevirtual 123, 3) := by decide +kernel
theorem dX6_eventAhead_88 : decode cX6_eventAhead 88 = .ok (.areturn, 1) := by decide +kernel
theorem dX6_newSound_0 : decode cX6_newSound 0 = .ok (.aload_n 0, 1) := by decide +kernel
theorem dX6_newSound_1 : decode cX6_newSound 1 = .ok (.getfield 51, 3) := by decide +kernel
theorem dX6_newSound_4 : decode cX6_newSound 4 = .ok (.aload_n 0, 1) := by decide +kernel
theorem dX6_newSound_5 : decode cX6_newSound 5 = .ok (.getfield 21, 3) := by decide +kernel
theorem dX6_newSound_8 : decode cX6_newSound 8 = .ok (.invokevirtual 155, 3) := by decide +kernel
theorem dX6_newSound_11 : decode cX6_newSound 11 = .ok (.if_icmp .lt 18, 3) := by decide +kernel
theorem dX6_newSound_14 : decode cX6_newSound 14 = .ok (.aload_n 0, 1) := by decide +kernel
theorem dX6_newSound_15 : decode cX6_newSound 15 = .ok (.getfield 21, 3) := by decide +kernel
theorem dX6_newSound_18 : decode cX6_newSound 18 = .ok (.new 29, 3) := by decide +kernel
theorem dX6_newSound_21 : decode cX6_newSound 21 = .ok (.dup, 1) := by decide +kernel
theorem dX6_newSound_22 : decode cX6_newSound 22 = .ok (.invokespecial 156, 3) := by decide +kernel
theorem dX6_newSound_25 : decode cX6_newSound 25 = .ok (.invokevirtual 157, 3) := by decide +kernel
theorem dX6_newSound_28 : decode cX6_newSound 28 = .ok (.pop, 1) := by decide +kernel
theorem dX6_newSound_29 : decode cX6_newSound 29 = .ok (.aload_n 0, 1) := by decide +kernel
theorem dX6_newSound_30 : decode cX6_newSound 30 = .ok (.getfield 21, 3) := by decide +kernel
theorem dX6_newSound_33 : decode cX6_newSound 33 = .ok (.aload_n 0, 1) := by decide +kernel
theorem dX6_newSound_34 : decode cX6_newSound 34 = .ok (.getfield 51, 3) := by decide +kernel
theorem dX6_newSound_37 : decode cX6_newSound 37 = .ok (.invokevirtual 78, 3) := by decide +kernel
theorem dX6_newSound_40 : decode cX6_newSound 40 = .ok (.checkcast 29, 3) := by decide +kernel
theorem dX6_newSound_43 : decode cX6_newSound 43 = .ok (.astore 4, 2) := by decide +kernel
theorem dX6_newSound_45 : decode cX6_newSound 45 = .ok (.aload_n 0, 1) := by decide +kernel
theorem dX6_newSound_46 : decode cX6_newSound 46 = .ok (.dup, 1) := by decide +kernel
theorem dX6_newSound_47 : decode cX6_newSound 47 = .ok (.getfield 51, 3) := by decide +kernel
theorem dX6_newSound_50 : decode cX6_newSound 50 = .ok (.iconst 1, 1) := by decide +kernel
theorem dX6_newSound_51 : decode cX6_newSound 51 = .ok (.iadd, 1) := by decide +kernel
theorem dX6_newSound_52 : decode cX6_newSound 52 = .ok (.putfield 51, 3) := by decide +kernel
theorem dX6_newSound_55 : decode cX6_newSound 55 = .ok (.aload 4, 2) := by decide +kernel
theorem dX6_newSound_57 : decode cX6_newSound 57 = .ok (.iload_n 1, 1) := by decide +kernel
theorem dX6_newSound_58 : decode cX6_newSound 58 = .ok (.putfield 161, 3) := by decide +kernel
theorem dX6_newSound_61 : decode cX6_newSound 61 = .ok (.aload 4, 2) := by decide +kernel
theorem dX6_newSound_63 : decode cX6_newSound 63 = .ok (.iload_n 2, 1) := by decide +kernel
theorem dX6_newSound_64 : decode cX6_newSound 64 = .ok (.putfield 164, 3) := by decide +kernel
theorem dX6_newSound_67 : decode cX6_newSound 67 = .ok (.aload 4, 2) := by decide +kernel
theorem dX6_newSound_69 : decode cX6_newSound 69 = .ok (.aload_n 3, 1) := by decide +kernel
theorem dX6_newSound_70 : decode cX6_newSound 70 = .ok (.getfield 167, 3) := by decide +kernel
theorem dX6_newSound_73 : decode cX6_newSound 73 = .ok (.putfield 170, 3) := by decide +kernel
theorem dX6_newSound_76 : decode cX6_newSound 76 = .ok (.aload 4, 2) := by decide +kernel
theorem dX6_newSound_78 : decode cX6_newSound 78 = .ok (.aload_n 3, 1) := by decide +kernel
theorem dX6_newSound_79 : decode cX6_newSound 79 = .ok (.getfield 171, 3) := by decide +kernel
theorem dX6_newSound_82 : decode cX6_newSound 82 = .ok (.putfield 174, 3) := by decide +kernel
theorem dX6_newSound_85 : decode cX6_newSound 85 = .ok (.aload 4, 2) := by decide +kernel
theorem dX6_newSound_87 : decode cX6_newSound 87 = .ok (.areturn, 1) := by decide +kernel
theorem dX6_timeOfEvents_0 : decode cX6_timeOfEvents 0 = .ok (.iconst 0, 1) := by decide +kernel
theorem dX6_timeOfEvents_1 : decode cX6_timeOfEvents 1 = .ok (.istore_n 3, 1) := by decide +kernel
theorem dX6_timeOfEvents_2 : decode cX6_timeOfEvents 2 = .ok (.iconst 0, 1) := by decide +kernel
theorem dX6_timeOfEvents_3 : decode cX6_timeOfEvents 3 = .ok (.istore 4, 2) := by decide +kernel
theorem dX6_timeOfEvents_5 : decode cX6_timeOfEvents 5 = .ok (.iload 4, 2) := by decide +kernel
theorem dX6_timeOfEvents_7 : decode cX6_timeOfEvents 7 = .ok (.aload_n 0, 1) := by decide +kernel
theorem dX6_timeOfEvents_8 : decode cX6_timeOfEvents 8 = .ok (.getfield 54, 3) := by decide +kernel
theorem dX6_timeOfEvents_11 : decode cX6_timeOfEvents 11 = .ok (.if_icmp .ge 61, 3) := by decide +kernel
theorem dX6_timeOfEvents_14 : decode cX6_timeOfEvents 14 = .ok (.aload_n 0, 1) := by decide +kernel
theorem dX6_timeOfEvents_15 : decode cX6_timeOfEvents 15 = .ok (.getfield 11, 3) := by decide +kernel
theorem dX6_timeOfEvents_18 : decode cX6_timeOfEvents 18 = .ok (.iload 4, 2) := by decide +kernel
theorem dX6_timeOfEvents_20 : decode cX6_timeOfEvents 20 = .ok (.iaload, 1) := by decide +kernel
theorem dX6_timeOfEvents_21 : decode cX6_timeOfEvents 21 = .ok (.istore 5, 2) := by decide +kernel
theorem dX6_timeOfEvents_23 : decode cX6_timeOfEvents 23 = .ok (.aload_n 1, 1) := by decide +kernel
theorem dX6_timeOfEvents_24 : decode cX6_timeOfEvents 24 = .ok (.iload_n 2, 1) := by decide +kernel
theorem dX6_timeOfEvents_25 : decode cX6_timeOfEvents 25 = .ok (.iload 5, 2) := by decide +kernel
theorem dX6_timeOfEvents_27 : decode cX6_timeOfEvents 27 = .ok (.invokevirtual 119, 3) := by decide +kernel
theorem dX6_timeOfEvents_30 : decode cX6_timeOfEvents 30 = .ok (.astore 6, 2) := by decide +kernel
theorem dX6_timeOfEvents_32 : decode cX6_timeOfEvents 32 = .ok (.iload_n 3, 1) := by decide +kernel
theorem dX6_timeOfEvents_33 : decode cX6_timeOfEvents 33 = .ok (.aload 6, 2) := by decide +kernel
theorem dX6_timeOfEvents_35 : decode cX6_timeOfEvents 35 = .ok (.invokevirtual 152, 3) := by decide +kernel
theorem dX6_timeOfEvents_38 : decode cX6_timeOfEvents 38 = .ok (.ifCond .eq 12, 3) := by decide +kernel
theorem dX6_timeOfEvents_41 : decode cX6_timeOfEvents 41 = .ok (.aload_n 1, 1) := by decide +kernel
theorem dX6_timeOfEvents_42 : decode cX6_timeOfEvents 42 = .ok (.iload 5, 2) := by decide +kernel
theorem dX6_timeOfEvents_44 : decode cX6_timeOfEvents 44 = .ok (.invokevirtual 90, 3) := by decide +kernel
theorem dX6_timeOfEvents_47 : decode cX6_timeOfEvents 47 = .ok (.goto 17, 3) := by decide +kernel
theorem dX6_timeOfEvents_50 : decode cX6_timeOfEvents 50 = .ok (.aload 6, 2) := by decide +kernel
theorem dX6_timeOfEvents_52 : decode cX6_timeOfEvents 52 = .ok (.getfield 175, 3) := by decide +kernel
theorem dX6_timeOfEvents_55 : decode cX6_timeOfEvents 55 = .ok (.aload_n 1, 1) := by decide +kernel
theorem dX6_timeOfEvents_56 : decode cX6_timeOfEvents 56 = .ok (.iload 5, 2) := by decide +kernel
theorem dX6_timeOfEvents_58 : decode cX6_timeOfEvents 58 = .ok (.invokevirtual 97, 3) := by decide +kernel
theorem dX6_timeOfEvents_61 : decode cX6_timeOfEvents 61 = .ok (.invokestatic 126, 3) := by decide +kernel
theorem dX6_timeOfEvents_64 : decode cX6_timeOfEvents 64 = .ok (.iadd, 1) := by decide +kernel
theorem dX6_timeOfEvents_65 : decode cX6_timeOfEvents 65 = .ok (.istore_n 3, 1) := by decide +kernel
theorem dX6_timeOfEvents_66 : decode cX6_timeOfEvents 66 = .ok (.iinc 4 1, 3) := by decide +kernel
theorem dX6_timeOfEvents_69 : decode cX6_timeOfEvents 69 = .ok (.goto (-64), 3) := by decide +kernel
theorem dX6_timeOfEvents_72 : decode cX6_timeOfEvents 72 = .ok (.iload_n 3, 1) := by decide +kernel
theorem dX6_timeOfEvents_73 : decode cX6_timeOfEvents 73 = .ok (.ireturn, 1) := by decide +kernel
theorem dX6_firstTimeOf_0 : decode cX6_firstTimeOf 0 = .ok (.iconst 0, 1) := by decide +kernel
theorem dX6_firstTimeOf_1 : decode cX6_firstTimeOf 1 = .ok (.istore_n 2, 1) := by decide +kernel
theorem dX6_firstTimeOf_2 : decode cX6_firstTimeOf 2 = .ok (.iload_n 2, 1) := by decide +kernel
theorem dX6_firstTimeOf_3 : decode cX6_firstTimeOf 3 = .ok (.aload_n 0, 1) := by decide +kernel
theorem dX6_firstTimeOf_4 : decode cX6_firstTimeOf 4 = .ok (.getfield 54, 3) := by decide +kernel
theorem dX6_firstTimeOf_7 : decode cX6_firstTimeOf 7 = .ok (.if_icmp .ge 26, 3) := by decide +kernel
theorem dX6_firstTimeOf_10 : decode cX6_firstTimeOf 10 = .ok (.aload_n 0, 1) := by decide +kernel
theorem dX6_firstTimeOf_11 : decode cX6_firstTimeOf 11 = .ok (.getfield 11, 3) := by decide +kernel
theorem dX6_firstTimeOf_14 : decode cX6_firstTimeOf 14 = .ok (.iload_n 2, 1) := by decide +kernel
theorem dX6_firstTimeOf_15 : decode cX6_firstTimeOf 15 = .ok (.iaload, 1) := by decide +kernel
theorem dX6_firstTimeOf_16 : decode cX6_firstTimeOf 16 = .ok (.iload_n 1, 1) := by decide +kernel
theorem dX6_firstTimeOf_17 : decode cX6_firstTimeOf 17 = .ok (.if_icmp .ne 10, 3) := by decide +kernel
theorem dX6_firstTimeOf_20 : decode cX6_firstTimeOf 20 = .ok (.aload_n 0, 1) := by decide +kernel
theorem dX6_firstTimeOf_21 : decode cX6_firstTimeOf 21 = .ok (.getfield 15, 3) := by decide +kernel
theorem dX6_firstTimeOf_24 : decode cX6_firstTimeOf 24 = .ok (.iload_n 2, 1) := by decide +kernel
theorem dX6_firstTimeOf_25 : decode cX6_firstTimeOf 25 = .ok (.iaload, 1) := by decide +kernel
theorem dX6_firstTimeOf_26 : decode cX6_firstTimeOf 26 = .ok (.ireturn, 1) := by decide +kernel
theorem dX6_firstTimeOf_27 : decode cX6_firstTimeOf 27 = .ok (.iinc 2 1, 3) := by decide +kernel
theorem dX6_firstTimeOf_30 : decode cX6_firstTimeOf 30 = .ok (.goto (-28), 3) := by decide +kernel
theorem dX6_firstTimeOf_33 : decode cX6_firstTimeOf 33 = .ok (.aload_n 0, 1) := by decide +kernel
theorem dX6_firstTimeOf_34 : decode cX6_firstTimeOf 34 = .ok (.getfield 61, 3) := by decide +kernel
theorem dX6_firstTimeOf_37 : decode cX6_firstTimeOf 37 = .ok (.ireturn, 1) := by decide +kernel
theorem dX6_restAt_0 : decode cX6_restAt 0 = .ok (.iconst 0, 1) := by decide +kernel
theorem dX6_restAt_1 : decode cX6_restAt 1 = .ok (.istore_n 3, 1) := by decide +kernel
theorem dX6_restAt_2 : decode cX6_restAt 2 = .ok (.iconst 0, 1) := by decide +kernel
theorem dX6_restAt_3 : decode cX6_restAt 3 = .ok (.istore 4, 2) := by decide +kernel
theorem dX6_restAt_5 : decode cX6_restAt 5 = .ok (.iload 4, 2) := by decide +kernel
theorem dX6_restAt_7 : decode cX6_restAt 7 = .ok (.aload_n 0, 1) := by decide +kernel
theorem dX6_restAt_8 : decode cX6_restAt 8 = .ok (.getfield 51, 3) := by decide +kernel
theorem dX6_restAt_11 : decode cX6_restAt 11 = .ok (.if_icmp .ge 66, 3) := by decide +kernel
theorem dX6_restAt_14 : decode cX6_restAt 14 = .ok (.aload_n 0, 1) := by decide +kernel
theorem dX6_restAt_15 : decode cX6_restAt 15 = .ok (.getfield 21, 3) := by decide +kernel
theorem dX6_restAt_18 : decode cX6_restAt 18 = .ok (.iload 4, 2) := by decide +kernel
theorem dX6_restAt_20 : decode cX6_restAt 20 = .ok (.invokevirtual 78, 3) := by decide +kernel
theorem dX6_restAt_23 : decode cX6_restAt 23 = .ok (.checkcast 29, 3) := by decide +kernel
theorem dX6_restAt_26 : decode cX6_restAt 26 = .ok (.astore 5, 2) := by decide +kernel
theorem dX6_restAt_28 : decode cX6_restAt 28 = .ok (.aload 5, 2) := by decide +kernel
theorem dX6_restAt_30 : decode cX6_restAt 30 = .ok (.getfield 161, 3) := by decide +kernel
theorem dX6_restAt_33 : decode cX6_restAt 33 = .ok (.iload_n 1, 1) := by decide +kernel
theorem dX6_restAt_34 : decode cX6_restAt 34 = .ok (.if_icmp .ne 37, 3) := by decide +kernel
theorem dX6_restAt_37 : decode cX6_restAt 37 = .ok (.aload 5, 2) := by decide +kernel
theorem dX6_restAt_39 : decode cX6_restAt 39 = .ok (.getfield 164, 3) := by decide +kernel
theorem dX6_restAt_42 : decode cX6_restAt 42 = .ok (.iload_n 2, 1) := by decide +kernel
theorem dX6_restAt_43 : decode cX6_restAt 43 = .ok (.if_icmp .lt 11, 3) := by decide +kernel
theorem dX6_restAt_46 : decode cX6_restAt 46 = .ok (.aload 5, 2) := by decide +kernel
theorem dX6_restAt_48 : decode cX6_restAt 48 = .ok (.getfield 164, 3) := by decide +kernel
theorem dX6_restAt_51 : decode cX6_restAt 51 = .ok (.iload_n 3, 1) := by decide +kernel
theorem dX6_restAt_52 : decode cX6_restAt 52 = .ok (.isub, 1) := by decide +kernel
theorem dX6_restAt_53 : decode cX6_restAt 53 = .ok (.ireturn, 1) := by decide +kernel
theorem dX6_restAt_54 : decode cX6_restAt 54 = .ok (.aload 5, 2) := by decide +kernel
theorem dX6_restAt_56 : decode cX6_restAt 56 = .ok (.getfield 151, 3) := by decide +kernel
theorem dX6_restAt_59 : decode cX6_restAt 59 = .ok (.iload_n 2, 1) := by decide +kernel
theorem dX6_restAt_60 : decode cX6_restAt 60 = .ok (.if_icmp .le 5, 3) := by decide +kernel
theorem dX6_restAt_63 : decode cX6_restAt 63 = .ok (.iconst 0, 1) := by decide +kernel
theorem dX6_restAt_64 : decode cX6_restAt 64 = .ok (.ireturn, 1) := by decide +kernel
theorem dX6_restAt_65 : decode cX6_restAt 65 = .ok (.aload 5, 2) := by decide +kernel
theorem dX6_restAt_67 : decode cX6_restAt 67 = .ok (.getfield 151, 3) := by decide +kernel
theorem dX6_restAt_70 : decode cX6_restAt 70 = .ok (.istore_n 3, 1) := by decide +kernel
theorem dX6_restAt_71 : decode cX6_restAt 71 = .ok (.iinc 4 1, 3) := by decide +kernel
theorem dX6_restAt_74 : decode cX6_restAt 74 = .ok (.goto (-69), 3) := by decide +kernel
theorem dX6_restAt_77 : decode cX6_restAt 77 = .ok (.aload_n 0, 1) := by decide +kernel
theorem dX6_restAt_78 : decode cX6_restAt 78 = .ok (.getfield 61, 3) := by decide +kernel
theorem dX6_restAt_81 : decode cX6_restAt 81 = .ok (.iload_n 3, 1) := by decide +kernel
theorem dX6_restAt_82 : decode cX6_restAt 82 = .ok (.isub, 1) := by decide +kernel
theorem dX6_restAt_83 : decode cX6_restAt 83 = .ok (.ireturn, 1) := by decide +kernel
theorem dX7_init_0 : decode cX7_init 0 = .ok (.aload_n 0, 1) := by decide +kernel
theorem dX7_init_1 : decode cX7_init 1 = .ok (.invokespecial 1, 3) := by decide +kernel
theorem dX7_init_4 : decode cX7_init 4 = .ok (.aload_n 0, 1) := by decide +kernel
theorem dX7_init_5 : decode cX7_init 5 = .ok (.iload_n 1, 1) := by decide +kernel
theorem dX7_init_6 : decode cX7_init 6 = .ok (.putfield 7, 3) := by decide +kernel
theorem dX7_init_9 : decode cX7_init 9 = .ok (.aload_n 0, 1) := by decide +kernel
theorem dX7_init_10 : decode cX7_init 10 = .ok (.iload_n 2, 1) := by decide +kernel
theorem dX7_init_11 : decode cX7_init 11 = .ok (.putfield 13, 3) := by decide +kernel
theorem dX7_init_14 : decode cX7_init 14 = .ok (.aload_n 0, 1) := by decide +kernel
theorem dX7_init_15 : decode cX7_init 15 = .ok (.iload_n 3, 1) := by decide +kernel
theorem dX7_init_16 : decode cX7_init 16 = .ok (.putfield 16, 3) := by decide +kernel
theorem dX7_init_19 : decode cX7_init 19 = .ok (.return_, 1) := by decide +kernel
theorem dX7_lastAgain_0 : decode cX7_lastAgain 0 = .ok (.aload_n 0, 1) := by decide +kernel
theorem dX7_lastAgain_1 : decode cX7_lastAgain 1 = .ok (.getfield 13, 3) := by decide +kernel
theorem dX7_lastAgain_4 : decode cX7_lastAgain 4 = .ok (.aload_n 0, 1) := by decide +kernel
theorem dX7_lastAgain_5 : decode cX7_lastAgain 5 = .ok (.getfield 16, 3) := by decide +kernel
theorem dX7_lastAgain_8 : decode cX7_lastAgain 8 = .ok (.isub, 1) := by decide +kernel
theorem dX7_lastAgain_9 : decode cX7_lastAgain 9 = .ok (.ireturn, 1) := by decide +kernel
theorem dX8_init_0 : decode cX8_init 0 = .ok (.aload_n 0, 1) := by decide +kernel
theorem dX8_init_1 : decode cX8_init 1 = .ok (.invokespecial 3, 3) := by decide +kernel
theorem dX8_init_4 : decode cX8_init 4 = .ok (.aload_n 0, 1) := by decide +kernel
theorem dX8_init_5 : decode cX8_init 5 = .ok (.new 9, 3) := by decide +kernel
theorem dX8_init_8 : decode cX8_init 8 = .ok (.dup, 1) := by decide +kernel
theorem dX8_init_9 : decode cX8_init 9 = .ok (.invokespecial 11, 3) := by decide +kernel
theorem dX8_init_12 : decode cX8_init 12 = .ok (.putfield 12, 3) := by decide +kernel
theorem dX8_init_15 : decode cX8_init 15 = .ok (.return_, 1) := by decide +kernel
theorem dX8_size_0 : decode cX8_size 0 = .ok (.aload_n 0, 1) := by decide +kernel
theorem dX8_size_1 : decode cX8_size 1 = .ok (.getfield 12, 3) := by decide +kernel
theorem dX8_size_4 : decode cX8_size 4 = .ok (.invokevirtual 18, 3) := by decide +kernel
theorem dX8_size_7 : decode cX8_size 7 = .ok (.ireturn, 1) := by decide +kernel
theorem dX8_isEmpty_0 : decode cX8_isEmpty 0 = .ok (.aload_n 0, 1) := by decide +kernel
theorem dX8_isEmpty_1 : decode cX8_isEmpty 1 = .ok (.getfield 12, 3) := by decide +kernel
theorem dX8_isEmpty_4 : decode cX8_isEmpty 4 = .ok (.invokevirtual 22, 3) := by decide +kernel
theorem dX8_isEmpty_7 : decode cX8_isEmpty 7 = .ok (.ireturn, 1) := by decide +kernel
theorem dX8_get_0 : decode cX8_get 0 = .ok (.aload_n 0, 1) := by decide +kernel
theorem dX8_get_1 : decode cX8_get 1 = .ok (.getfield 12, 3) := by decide +kernel
theorem dX8_get_4 : decode cX8_get 4 = .ok (.iload_n 1, 1) := by decide +kernel
theorem dX8_get_5 : decode cX8_get 5 = .ok (.invokevirtual 26, 3) := by decide +kernel
theorem dX8_get_8 : decode cX8_get 8 = .ok (.checkcast 30, 3) := by decide +kernel
theorem dX8_get_11 : decode cX8_get 11 = .ok (.areturn, 1) := by decide +kernel
theorem dX8_putIn_0 : decode cX8_putIn 0 = .ok (.aload_n 0, 1) := by decide +kernel
theorem dX8_putIn_1 : decode cX8_putIn 1 = .ok (.getfield 12, 3) := by decide +kernel
theorem dX8_putIn_4 : decode cX8_putIn 4 = .ok (.iload_n 1, 1) := by decide +kernel
theorem dX8_putIn_5 : decode cX8_putIn 5 = .ok (.aload_n 2, 1) := by decide +kernel
theorem dX8_putIn_6 : decode cX8_putIn 6 = .ok (.invokevirtual 32, 3) := by decide +kernel
theorem dX8_putIn_9 : decode cX8_putIn 9 = .ok (.aload_n 0, 1) := by decide +kernel
theorem dX8_putIn_10 : decode cX8_putIn 10 = .ok (.dup, 1) := by decide +kernel
theorem dX8_putIn_11 : decode cX8_putIn 11 = .ok (.getfield 36, 3) := by decide +kernel
theorem dX8_putIn_14 : decode cX8_putIn 14 = .ok (.aload_n 2, 1) := by decide +kernel
theorem dX8_putIn_15 : decode cX8_putIn 15 = .ok (.getfield 40, 3) := by decide +kernel
theorem dX8_putIn_18 : decode cX8_putIn 18 = .ok (.iadd, 1) := by decide +kernel
theorem dX8_putIn_19 : decode cX8_putIn 19 = .ok (.putfield 36, 3) := by decide +kernel
theorem dX8_putIn_22 : decode cX8_putIn 22 = .ok (.return_, 1) := by decide +kernel
theorem dX8_takeOut_0 : decode cX8_takeOut 0 = .ok (.aload_n 0, 1) := by decide +kernel
theorem dX8_takeOut_1 : decode cX8_takeOut 1 = .ok (.dup, 1) := by decide +kernel
theorem dX8_takeOut_2 : decode cX8_takeOut 2 = .ok (.getfield 36, 3) := by decide +kernel
theorem dX8_takeOut_5 : decode cX8_takeOut 5 = .ok (.aload_n 0, 1) := by decide +kernel
theorem dX8_takeOut_6 : decode cX8_takeOut 6 = .ok (.getfield 12, 3) := by decide +kernel
theorem dX8_takeOut_9 : decode cX8_takeOut 9 = .ok (.iload_n 1, 1) := by decide +kernel
theorem dX8_takeOut_10 : decode cX8_takeOut 10 = .ok (.invokevirtual 26, 3) := by decide +kernel
theorem dX8_takeOut_13 : decode cX8_takeOut 13 = .ok (.checkcast 30, 3) := by decide +kernel
theorem dX8_takeOut_16 : decode cX8_takeOut 16 = .ok (.getfield 40, 3) := by decide +kernel
theorem dX8_takeOut_19 : decode cX8_takeOut 19 = .ok (.isub, 1) := by decide +kernel
theorem dX8_takeOut_20 : decode cX8_takeOut 20 = .ok (.putfield 36, 3) := by decide +kernel
theorem dX8_takeOut_23 : decode cX8_takeOut 23 = .ok (.aload_n 0, 1) := by decide +kernel
theorem dX8_takeOut_24 : decode cX8_takeOut 24 = .ok (.getfield 12, 3) := by decide +kernel
theorem dX8_takeOut_27 : decode cX8_takeOut 27 = .ok (.iload_n 1, 1) := by decide +kernel
theorem dX8_takeOut_28 : decode cX8_takeOut 28 = .ok (.invokevirtual 41, 3) := by decide +kernel
theorem dX8_takeOut_31 : decode cX8_takeOut 31 = .ok (.pop, 1) := by decide +kernel
theorem dX8_takeOut_32 : decode cX8_takeOut 32 = .ok (.return_, 1) := by decide +kernel
theorem dX8_hasWholeTriplets_0 : decode cX8_hasWholeTriplets 0 = .ok (.iconst 0, 1) := by decide +kernel
theorem dX8_hasWholeTriplets_1 : decode cX8_hasWholeTriplets 1 = .ok (.istore_n 1, 1) := by decide +kernel
theorem dX8_hasWholeTriplets_2 : decode cX8_hasWholeTriplets 2 = .ok (.iconst 0, 1) := by decide +kernel
theorem dX8_hasWholeTriplets_3 : decode cX8_hasWholeTriplets 3 = .ok (.istore_n 2, 1) := by decide +kernel
theorem dX8_hasWholeTriplets_4 : decode cX8_hasWholeTriplets 4 = .ok (.iload_n 2, 1) := by decide +kernel
theorem dX8_hasWholeTriplets_5 : decode cX8_hasWholeTriplets 5 = .ok (.aload_n 0, 1) := by decide +kernel
theorem dX8_hasWholeTriplets_6 : decode cX8_hasWholeTriplets 6 = .ok (.getfield 12, 3) := by decide +kernel
theorem dX8_hasWholeTriplets_9 : decode cX8_hasWholeTriplets 9 = .ok (.invokevirtual 18, 3) := by decide +kernel
theorem dX8_hasWholeTriplets_12 : decode cX8_hasWholeTriplets 12 = .ok (.if_icmp .ge 50, 3) := by decide +kernel
theorem dX8_hasWholeTriplets_15 : decode cX8_hasWholeTriplets 15 = .ok (.aload_n 0, 1) := by decide +kernel
theorem dX8_hasWholeTriplets_16 : decode cX8_hasWholeTriplets 16 = .ok (.getfield 12, 3) := by decide +kernel
theorem dX8_hasWholeTriplets_19 : decode cX8_hasWholeTriplets 19 = .ok (.iload_n 2, 1) := by decide +kernel
theorem dX8_hasWholeTriplets_20 : decode cX8_hasWholeTriplets 20 = .ok (.invokevirtual 26, 3) := by decide +kernel
theorem dX8_hasWholeTriplets_23 : decode cX8_hasWholeTriplets 23 = .ok (.checkcast 30, 3) := by decide +kernel
theorem dX8_hasWholeTriplets_26 : decode cX8_hasWholeTriplets 26 = .ok (.astore_n 3, 1) := by decide +kernel
theorem dX8_hasWholeTriplets_27 : decode cX8_hasWholeTriplets 27 = .ok (.aload_n 3, 1) := by decide +kernel
theorem dX8_hasWholeTriplets_28 : decode cX8_hasWholeTriplets 28 = .ok (.getfield 44, 3) := by decide +kernel
theorem dX8_hasWholeTriplets_31 : decode cX8_hasWholeTriplets 31 = .ok (.iconst 2, 1) := by decide +kernel
theorem dX8_hasWholeTriplets_32 : decode cX8_hasWholeTriplets 32 = .ok (.if_icmp .ne 13, 3) := by decide +kernel
theorem dX8_hasWholeTriplets_35 : decode cX8_hasWholeTriplets 35 = .ok (.iload_n 1, 1) := by decide +kernel
theorem dX8_hasWholeTriplets_36 : decode cX8_hasWholeTriplets 36 = .ok (.aload_n 3, 1) := by decide +kernel
theorem dX8_hasWholeTriplets_37 : decode cX8_hasWholeTriplets 37 = .ok (.getfield 40, 3) := by decide +kernel
theorem dX8_hasWholeTriplets_40 : decode cX8_hasWholeTriplets 40 = .ok (.iadd, 1) := by decide +kernel
theorem dX8_hasWholeTriplets_41 : decode cX8_hasWholeTriplets 41 = .ok (.istore_n 1, 1) := by decide +kernel
theorem dX8_hasWholeTriplets_42 : decode cX8_hasWholeTriplets 42 = .ok (.goto 14, 3) := by decide +kernel
theorem dX8_hasWholeTriplets_45 : decode cX8_hasWholeTriplets 45 = .ok (.iload_n 1, 1) := by decide +kernel
theorem dX8_hasWholeTriplets_46 : decode cX8_hasWholeTriplets 46 = .ok (.bipush 6, 2) := by decide +kernel
theorem dX8_hasWholeTriplets_48 : decode cX8_hasWholeTriplets 48 = .ok (.irem, 1) := by decide +kernel
theorem dX8_hasWholeTriplets_49 : decode cX8_hasWholeTriplets 49 = .ok (.ifCond .eq 5, 3) := by decide +kernel
theorem dX8_hasWholeTriplets_52 : decode cX8_hasWholeTriplets 52 = .ok (.iconst 0, 1) := by decide +kernel
theorem dX8_hasWholeTriplets_53 : decode cX8_hasWholeTriplets 53 = .ok (.ireturn, 1) := by decide +kernel
theorem dX8_hasWholeTriplets_54 : decode cX8_hasWholeTriplets 54 = .ok (.iconst 0, 1) := by decide +kernel
theorem dX8_hasWholeTriplets_55 : decode cX8_hasWholeTriplets 55 = .ok (.istore_n 1, 1) := by decide +kernel
theorem dX8_hasWholeTriplets_56 : decode cX8_hasWholeTriplets 56 = .ok (.iinc 2 1, 3) := by decide +kernel
theorem dX8_hasWholeTriplets_59 : decode cX8_hasWholeTriplets 59 = .ok (.goto (-55), 3) := by decide +kernel
theorem dX8_hasWholeTriplets_62 : decode cX8_hasWholeTriplets 62 = .ok (.iload_n 1, 1) := by decide +kernel
theorem dX8_hasWholeTriplets_63 : decode cX8_hasWholeTriplets 63 = .ok (.bipush 6, 2) := by decide +kernel
theorem dX8_hasWholeTriplets_65 : decode cX8_hasWholeTriplets 65 = .ok (.irem, 1) := by decide +kernel
theorem dX8_hasWholeTriplets_66 : decode cX8_hasWholeTriplets 66 = .ok (.ifCond .ne 7, 3) := by decide +kernel
theorem dX8_hasWholeTriplets_69 : decode cX8_hasWholeTriplets 69 = .ok (.iconst 1, 1) := by decide +kernel
theorem dX8_hasWholeTriplets_70 : decode cX8_hasWholeTriplets 70 = .ok (.goto 4, 3) := by decide +kernel
theorem dX8_hasWholeTriplets_73 : decode cX8_hasWholeTriplets 73 = .ok (.iconst 0, 1) := by decide +kernel
theorem dX8_hasWholeTriplets_74 : decode cX8_hasWholeTriplets 74 = .ok (.ireturn, 1) := by decide +kernel
theorem dX8_widthOfEvents_0 : decode cX8_widthOfEvents 0 = .ok (.iconst 0, 1) := by decide +kernel
theorem dX8_widthOfEvents_1 : decode cX8_widthOfEvents 1 = .ok (.istore_n 1, 1) := by decide +kernel
theorem dX8_widthOfEvents_2 : decode cX8_widthOfEvents 2 = .ok (.iconst 0, 1) := by decide +kernel
theorem dX8_widthOfEvents_3 : decode cX8_widthOfEvents 3 = .ok (.istore_n 2, 1) := by decide +kernel
theorem dX8_widthOfEvents_4 : decode cX8_widthOfEvents 4 = .ok (.iconst 0, 1) := by decide +kernel
theorem dX8_widthOfEvents_5 : decode cX8_widthOfEvents 5 = .ok (.istore_n 3, 1) := by decide +kernel
theorem dX8_widthOfEvents_6 : decode cX8_widthOfEvents 6 = .ok (.iload_n 3, 1) := by decide +kernel
theorem dX8_widthOfEvents_7 : decode cX8_widthOfEvents 7 = .ok (.aload_n 0, 1) := by decide +kernel
theorem dX8_widthOfEvents_8 : decode cX8_widthOfEvents 8 = .ok (.getfield 12, 3) := by decide +kernel
theorem dX8_widthOfEvents_11 : decode cX8_widthOfEvents 11 = .ok (.invokevirtual 18, 3) := by decide +kernel
theorem dX8_widthOfEvents_14 : decode cX8_widthOfEvents 14 = .ok (.if_icmp .ge 101, 3) := by decide +kernel
theorem dX8_widthOfEvents_17 : decode cX8_widthOfEvents 17 = .ok (.aload_n 0, 1) := by decide +kernel
theorem dX8_widthOfEvents_18 : decode cX8_widthOfEvents 18 = .ok (.getfield 12, 3) := by decide +kernel
theorem dX8_widthOfEvents_21 : decode cX8_widthOfEvents 21 = .ok (.iload_n 3, 1) := by decide +kernel
theorem dX8_widthOfEvents_22 : decode cX8_widthOfEvents 22 = .ok (.invokevirtual 26, 3) := by decide +kernel
theorem dX8_widthOfEvents_25 : decode cX8_widthOfEvents 25 = .ok (.checkcast 30, 3) := by decide +kernel
theorem dX8_widthOfEvents_28 : decode cX8_widthOfEvents 28 = .ok (.astore 4, 2) := by decide +kernel
theorem dX8_widthOfEvents_30 : decode cX8_widthOfEvents 30 = .ok (.aload 4, 2) := by decide +kernel
theorem dX8_widthOfEvents_32 : decode cX8_widthOfEvents 32 = .ok (.getfield 47, 3) := by decide +kernel
theorem dX8_widthOfEvents_35 : decode cX8_widthOfEvents 35 = .ok (.iconst (-1), 1) := by decide +kernel
theorem dX8_widthOfEvents_36 : decode cX8_widthOfEvents 36 = .ok (.if_icmp .eq 7, 3) := by decide +kernel
theorem dX8_widthOfEvents_39 : decode cX8_widthOfEvents 39 = .ok (.iconst 1, 1) := by decide +kernel
theorem dX8_widthOfEvents_40 : decode cX8_widthOfEvents 40 = .ok (.goto 4, 3) := by decide +kernel
theorem dX8_widthOfEvents_43 : decode cX8_widthOfEvents 43 = .ok (.iconst 0, 1) := by decide +kernel
theorem dX8_widthOfEvents_44 : decode cX8_widthOfEvents 44 = .ok (.istore 5, 2) := by decide +kernel
theorem dX8_widthOfEvents_46 : decode cX8_widthOfEvents 46 = .ok (.iload_n 1, 1) := by decide +kernel
theorem dX8_widthOfEvents_47 : decode cX8_widthOfEvents 47 = .ok (.iconst 4, 1) := by decide +kernel
theorem dX8_widthOfEvents_48 : decode cX8_widthOfEvents 48 = .ok (.aload 4, 2) := by decide +kernel
theorem dX8_widthOfEvents_50 : decode cX8_widthOfEvents 50 = .ok (.getfield 40, 3) := by decide +kernel
theorem dX8_widthOfEvents_53 : decode cX8_widthOfEvents 53 = .ok (.bipush 6, 2) := by decide +kernel
theorem dX8_widthOfEvents_55 : decode cX8_widthOfEvents 55 = .ok (.idiv, 1) := by decide +kernel
theorem dX8_widthOfEvents_56 : decode cX8_widthOfEvents 56 = .ok (.iadd, 1) := by decide +kernel
theorem dX8_widthOfEvents_57 : decode cX8_widthOfEvents 57 = .ok (.iadd, 1) := by decide +kernel
theorem dX8_widthOfEvents_58 : decode cX8_widthOfEvents 58 = .ok (.istore_n 1, 1) := by decide +kernel
theorem dX8_widthOfEvents_59 : decode cX8_widthOfEvents 59 = .ok (.iload_n 1, 1) := by decide +kernel
theorem dX8_widthOfEvents_60 : decode cX8_widthOfEvents 60 = .ok (.aload 4, 2) := by decide +kernel
theorem dX8_widthOfEvents_62 : decode cX8_widthOfEvents 62 = .ok (.getfield 44, 3) := by decide +kernel
theorem dX8_widthOfEvents_65 : decode cX8_widthOfEvents 65 = .ok (.iconst 1, 1) := by decide +kernel
theorem dX8_widthOfEvents_66 : decode cX8_widthOfEvents 66 = .ok (.if_icmp .ne 7, 3) := by decide +kernel
theorem dX8_widthOfEvents_69 : decode cX8_widthOfEvents 69 = .ok (.iconst 2, 1) := by decide +kernel
theorem dX8_widthOfEvents_70 : decode cX8_widthOfEvents 70 = .ok (.goto 4, 3) := by decide +kernel
theorem dX8_widthOfEvents_73 : decode cX8_widthOfEvents 73 = .ok (.iconst 0, 1) := by decide +kernel
theorem dX8_widthOfEvents_74 : decode cX8_widthOfEvents 74 = .ok (.iadd, 1) := by decide +kernel
theorem dX8_widthOfEvents_75 : decode cX8_widthOfEvents 75 = .ok (.istore_n 1, 1) := by decide +kernel
theorem dX8_widthOfEvents_76 : decode cX8_widthOfEvents 76 = .ok (.iload_n 1, 1) := by decide +kernel
theorem dX8_widthOfEvents_77 : decode cX8_widthOfEvents 77 = .ok (.iload 5, 2) := by decide +kernel
theorem dX8_widthOfEvents_79 : decode cX8_widthOfEvents 79 = .ok (.ifCond .eq 7, 3) := by decide +kernel
theorem dX8_widthOfEvents_82 : decode cX8_widthOfEvents 82 = .ok (.iconst 3, 1) := by decide +kernel
theorem dX8_widthOfEvents_83 : decode cX8_widthOfEvents 83 = .ok (.goto 4, 3) := by decide +kernel
theorem dX8_widthOfEvents_86 : decode cX8_widthOfEvents 86 = .ok (.iconst 0, 1) := by decide +kernel
theorem dX8_widthOfEvents_87 : decode cX8_widthOfEvents 87 = .ok (.iadd, 1) := by decide +kernel
theorem dX8_widthOfEvents_88 : decode cX8_widthOfEvents 88 = .ok (.istore_n 1, 1) := by decide +kernel
theorem dX8_widthOfEvents_89 : decode cX8_widthOfEvents 89 = .ok (.iload_n 1, 1) := by decide +kernel
theorem dX8_widthOfEvents_90 : decode cX8_widthOfEvents 90 = .ok (.iload 5, 2) := by decide +kernel
theorem dX8_widthOfEvents_92 : decode cX8_widthOfEvents 92 = .ok (.ifCond .eq 11, 3) := by decide +kernel
theorem dX8_widthOfEvents_95 : decode cX8_widthOfEvents 95 = .ok (.iload_n 2, 1) := by decide +kernel
theorem dX8_widthOfEvents_96 : decode cX8_widthOfEvents 96 = .ok (.ifCond .eq 7, 3) := by decide +kernel
theorem dX8_widthOfEvents_99 : decode cX8_widthOfEvents 99 = .ok (.iconst 2, 1) := by decide +kernel
theorem dX8_widthOfEvents_100 : decode cX8_widthOfEvents 100 = .ok (.goto 4, 3) := by decide +kernel
theorem dX8_widthOfEvents_103 : decode cX8_widthOfEvents 103 = .ok (.iconst 0, 1) := by decide +kernel
theorem dX8_widthOfEvents_104 : decode cX8_widthOfEvents 104 = .ok (.iadd, 1) := by decide +kernel
theorem dX8_widthOfEvents_105 : decode cX8_widthOfEvents 105 = .ok (.istore_n 1, 1) := by decide +kernel
theorem dX8_widthOfEvents_106 : decode cX8_widthOfEvents 106 = .ok (.iload 5, 2) := by decide +kernel
theorem dX8_widthOfEvents_108 : decode cX8_widthOfEvents 108 = .ok (.istore_n 2, 1) := by decide +kernel
theorem dX8_widthOfEvents_109 : decode cX8_widthOfEvents 109 = .ok (.iinc 3 1, 3) := by decide +kernel
theorem dX8_widthOfEvents_112 : decode cX8_widthOfEvents 112 = .ok (.goto (-106), 3) := by decide +kernel
theorem dX8_widthOfEvents_115 : decode cX8_widthOfEvents 115 = .ok (.iload_n 1, 1) := by decide +kernel
theorem dX8_widthOfEvents_116 : decode cX8_widthOfEvents 116 = .ok (.ireturn, 1) := by decide +kernel
theorem dX8_widthAsCue_0 : decode cX8_widthAsCue 0 = .ok (.iconst 0, 1) := by decide +kernel
theorem dX8_widthAsCue_1 : decode cX8_widthAsCue 1 = .ok (.istore_n 1, 1) := by decide +kernel
theorem dX8_widthAsCue_2 : decode cX8_widthAsCue 2 = .ok (.iconst 0, 1) := by decide +kernel
theorem dX8_widthAsCue_3 : decode cX8_widthAsCue 3 = .ok (.istore_n 2, 1) := by decide +kernel
theorem dX8_widthAsCue_4 : decode cX8_widthAsCue 4 = .ok (.iload_n 2, 1) := by decide +kernel
theorem dX8_widthAsCue_5 : decode cX8_widthAsCue 5 = .ok (.aload_n 0, 1) := by decide +kernel
theorem dX8_widthAsCue_6 : decode cX8_widthAsCue 6 = .ok (.getfield 12, 3) := by decide +kernel
theorem dX8_widthAsCue_9 : decode cX8_widthAsCue 9 = .ok (.invokevirtual 18, 3) := by decide +kernel
theorem dX8_widthAsCue_12 : decode cX8_widthAsCue 12 = .ok (.if_icmp .ge 31, 3) := by decide +kernel
theorem dX8_widthAsCue_15 : decode cX8_widthAsCue 15 = .ok (.iload_n 1, 1) := by decide +kernel
theorem dX8_widthAsCue_16 : decode cX8_widthAsCue 16 = .ok (.iconst 3, 1) := by decide +kernel
theorem dX8_widthAsCue_17 : decode cX8_widthAsCue 17 = .ok (.aload_n 0, 1) := by decide +kernel
theorem dX8_widthAsCue_18 : decode cX8_widthAsCue 18 = .ok (.getfield 12, 3) := by decide +kernel
theorem dX8_widthAsCue_21 : decode cX8_widthAsCue 21 = .ok (.iload_n 2, 1) := by decide +kernel
theorem dX8_widthAsCue_22 : decode cX8_widthAsCue 22 = .ok (.invokevirtual 26, 3) := by decide +kernel
theorem dX8_widthAsCue_25 : decode cX8_widthAsCue 25 = .ok (.checkcast 30, 3) := by decide +kernel
theorem dX8_widthAsCue_28 : decode cX8_widthAsCue 28 = .ok (.getfield 40, 3) := by decide +kernel
theorem dX8_widthAsCue_31 : decode cX8_widthAsCue 31 = .ok (.bipush 8, 2) := by decide +kernel
theorem dX8_widthAsCue_33 : decode cX8_widthAsCue 33 = .ok (.idiv, 1) := by decide +kernel
theorem dX8_widthAsCue_34 : decode cX8_widthAsCue 34 = .ok (.iadd, 1) := by decide +kernel
theorem dX8_widthAsCue_35 : decode cX8_widthAsCue 35 = .ok (.iadd, 1) := by decide +kernel
theorem dX8_widthAsCue_36 : decode cX8_widthAsCue 36 = .ok (.istore_n 1, 1) := by decide +kernel
theorem dX8_widthAsCue_37 : decode cX8_widthAsCue 37 = .ok (.iinc 2 1, 3) := by decide +kernel
theorem dX8_widthAsCue_40 : decode cX8_widthAsCue 40 = .ok (.goto (-36), 3) := by decide +kernel
theorem dX8_widthAsCue_43 : decode cX8_widthAsCue 43 = .ok (.iload_n 1, 1) := by decide +kernel
theorem dX8_widthAsCue_44 : decode cX8_widthAsCue 44 = .ok (.ireturn, 1) := by decide +kernel
theorem dX9_init_0 : decode cX9_init 0 = .ok (.aload_n 0, 1) := by decide +kernel
theorem dX9_init_1 : decode cX9_init 1 = .ok (.invokespecial 3, 3) := by decide +kernel
theorem dX9_init_4 : decode cX9_init 4 = .ok (.aload_n 0, 1) := by decide +kernel
theorem dX9_init_5 : decode cX9_init 5 = .ok (.new 9, 3) := by decide +kernel
theorem dX9_init_8 : decode cX9_init 8 = .ok (.dup, 1) := by decide +kernel
theorem dX9_init_9 : decode cX9_init 9 = .ok (.invokespecial 11, 3) := by decide +kernel
theorem dX9_init_12 : decode cX9_init 12 = .ok (.putfield 12, 3) := by decide +kernel
theorem dX9_init_15 : decode cX9_init 15 = .ok (.aload_n 0, 1) := by decide +kernel
theorem dX9_init_16 : decode cX9_init 16 = .ok (.new 9, 3) := by decide +kernel
theorem dX9_init_19 : decode cX9_init 19 = .ok (.dup, 1) := by decide +kernel
theorem dX9_init_20 : decode cX9_init 20 = .ok (.invokespecial 11, 3) := by decide +kernel
theorem dX9_init_23 : decode cX9_init 23 = .ok (.putfield 18, 3) := by decide +kernel
theorem dX9_init_26 : decode cX9_init 26 = .ok (.aload_n 0, 1) := by decide +kernel
theorem dX9_init_27 : decode cX9_init 27 = .ok (.new 9, 3) := by decide +kernel
theorem dX9_init_30 : decode cX9_init 30 = .ok (.dup, 1) := by decide +kernel
theorem dX9_init_31 : decode cX9_init 31 = .ok (.invokespecial 11, 3) := by decide +kernel
theorem dX9_init_34 : decode cX9_init 34 = .ok (.putfield 21, 3) := by decide +kernel
theorem dX9_init_37 : decode cX9_init 37 = .ok (.aload_n 0, 1) := by decide +kernel
theorem dX9_init_38 : decode cX9_init 38 = .ok (.iconst 4, 1) := by decide +kernel
theorem dX9_init_39 : decode cX9_init 39 = .ok (.newarray .int, 2) := by decide +kernel
theorem dX9_init_41 : decode cX9_init 41 = .ok (.putfield 24, 3) := by decide +kernel
theorem dX9_init_44 : decode cX9_init 44 = .ok (.aload_n 0, 1) := by decide +kernel
theorem dX9_init_45 : decode cX9_init 45 = .ok (.bipush 120, 2) := by decide +kernel
theorem dX9_init_47 : decode cX9_init 47 = .ok (.putfield 28, 3) := by decide +kernel
theorem dX9_init_50 : decode cX9_init 50 = .ok (.aload_n 0, 1) := by decide +kernel
theorem dX9_init_51 : decode cX9_init 51 = .ok (.iconst 4, 1) := by decide +kernel
theorem dX9_init_52 : decode cX9_init 52 = .ok (.putfield 32, 3) := by decide +kernel
theorem dX9_init_55 : decode cX9_init 55 = .ok (.aload_n 0, 1) := by decide +kernel
theorem dX9_init_56 : decode cX9_init 56 = .ok (.sipush 1500, 3) := by decide +kernel
theorem dX9_init_59 : decode cX9_init 59 = .ok (.putfield 35, 3) := by decide +kernel
theorem dX9_init_62 : decode cX9_init 62 = .ok (.return_, 1) := by decide +kernel
theorem dX9_barCount_0 : decode cX9_barCount 0 = .ok (.aload_n 0, 1) := by decide +kernel
theorem dX9_barCount_1 : decode cX9_barCount 1 = .ok (.getfield 12, 3) := by decide +kernel
theorem dX9_barCount_4 : decode cX9_barCount 4 = .ok (.invokevirtual 38, 3) := by decide +kernel
theorem dX9_barCount_7 : decode cX9_barCount 7 = .ok (.ireturn, 1) := by decide +kernel
theorem dX9_measure_0 : decode cX9_measure 0 = .ok (.aload_n 0, 1) := by decide +kernel
theorem dX9_measure_1 : decode cX9_measure 1 = .ok (.getfield 12, 3) := by decide +kernel
theorem dX9_measure_4 : decode cX9_measure 4 = .ok (.iload_n 1, 1) := by decide +kernel
theorem dX9_measure_5 : decode cX9_measure 5 = .ok (.invokevirtual 42, 3) := by decide +kernel
theorem dX9_measure_8 : decode cX9_measure 8 = .ok (.checkcast 46, 3) := by decide +kernel
theorem dX9_measure_11 : decode cX9_measure 11 = .ok (.areturn, 1) := by decide +kernel
theorem dX9_row_0 : decode cX9_row 0 = .ok (.aload_n 0, 1) := by decide +kernel
theorem dX9_row_1 : decode cX9_row 1 = .ok (.getfield 12, 3) := by decide +kernel
theorem dX9_row_4 : decode cX9_row 4 = .ok (.iload_n 2, 1) := by decide +kernel
theorem dX9_row_5 : decode cX9_row 5 = .ok (.invokevirtual 42, 3) := by decide +kernel
theorem dX9_row_8 : decode cX9_row 8 = .ok (.checkcast 46, 3) := by decide +kernel
theorem dX9_row_11 : decode cX9_row 11 = .ok (.getfield 48, 3) := by decide +kernel
theorem dX9_row_14 : decode cX9_row 14 = .ok (.iload_n 1, 1) := by decide +kernel
theorem dX9_row_15 : decode cX9_row 15 = .ok (.aaload, 1) := by decide +kernel
theorem dX9_row_16 : decode cX9_row 16 = .ok (.areturn, 1) := by decide +kernel
theorem dX9_tempoAt_0 : decode cX9_tempoAt 0 = .ok (.iload_n 1, 1) := by decide +kernel
theorem dX9_tempoAt_1 : decode cX9_tempoAt 1 = .ok (.istore_n 2, 1) := by decide +kernel
theorem dX9_tempoAt_2 : decode cX9_tempoAt 2 = .ok (.iload_n 2, 1) := by decide +kernel
theorem dX9_tempoAt_3 : decode cX9_tempoAt 3 = .ok (.ifCond .lt 31, 3) := by decide +kernel
theorem dX9_tempoAt_6 : decode cX9_tempoAt 6 = .ok (.aload_n 0, 1) := by decide +kernel
theorem dX9_tempoAt_7 : decode cX9_tempoAt 7 = .ok (.getfield 12, 3) := by decide +kernel
theorem dX9_tempoAt_10 : decode cX9_tempoAt 10 = .ok (.iload_n 2, 1) := by decide +kernel
theorem dX9_tempoAt_11 : decode cX9_tempoAt 11 = .ok (.invokevirtual 42, 3) := by decide +kernel
theorem dX9_tempoAt_14 : decode cX9_tempoAt 14 = .ok (.checkcast 46, 3) := by decide +kernel
theorem dX9_tempoAt_17 : decode cX9_tempoAt 17 = .ok (.getfield 52, 3) := by decide +kernel
theorem dX9_tempoAt_20 : decode cX9_tempoAt 20 = .ok (.istore_n 3, 1) := by decide +kernel
theorem dX9_tempoAt_21 : decode cX9_tempoAt 21 = .ok (.iload_n 3, 1) := by decide +kernel
theorem dX9_tempoAt_22 : decode cX9_tempoAt 22 = .ok (.iconst (-1), 1) := by decide +kernel
theorem dX9_tempoAt_23 : decode cX9_tempoAt 23 = .ok (.if_icmp .eq 5, 3) := by decide +kernel
theorem dX9_tempoAt_26 : decode cX9_tempoAt 26 = .ok (.iload_n 3, 1) := by decide +kernel
theorem dX9_tempoAt_27 : decode cX9_tempoAt 27 = .ok (.ireturn, 1) := by decide +kernel
theorem dX9_tempoAt_28 : decode cX9_tempoAt 28 = .ok (.iinc 2 (-1), 3) := by decide +kernel
theorem dX9_tempoAt_31 : decode cX9_tempoAt 31 = .ok (.goto (-29), 3) := by decide +kernel
theorem dX9_tempoAt_34 : decode cX9_tempoAt 34 = .ok (.bipush 120, 2) := by decide +kernel
theorem dX9_tempoAt_36 : decode cX9_tempoAt 36 = .ok (.ireturn, 1) := by decide +kernel
theorem dX9_timeOf_0 : decode cX9_timeOf 0 = .ok (.iload_n 1, 1) := by decide +kernel
theorem dX9_timeOf_1 : decode cX9_timeOf 1 = .ok (.ifCond .le 13, 3) := by decide +kernel
theorem dX9_timeOf_4 : decode cX9_timeOf 4 = .ok (.iload_n 0, 1) := by decide +kernel
theorem dX9_timeOf_5 : decode cX9_timeOf 5 = .ok (.sipush 2500, 3) := by decide +kernel
theorem dX9_timeOf_8 : decode cX9_timeOf 8 = .ok (.imul, 1) := by decide +kernel
theorem dX9_timeOf_9 : decode cX9_timeOf 9 = .ok (.iload_n 1, 1) := by decide +kernel
theorem dX9_timeOf_10 : decode cX9_timeOf 10 = .ok (.idiv, 1) := by decide +kernel
theorem dX9_timeOf_11 : decode cX9_timeOf 11 = .ok (.goto 4, 3) := by decide +kernel
theorem dX9_timeOf_14 : decode cX9_timeOf 14 = .ok (.iconst 0, 1) := by decide +kernel
theorem dX9_timeOf_15 : decode cX9_timeOf 15 = .ok (.ireturn, 1) := by decide +kernel
theorem dX9_timeOfBar_0 : decode cX9_timeOfBar 0 = .ok (.aload_n 0, 1) := by decide +kernel
theorem dX9_timeOfBar_1 : decode cX9_timeOfBar 1 = .ok (.getfield 12, 3) := by decide +kernel
theorem dX9_timeOfBar_4 : decode cX9_timeOfBar 4 = .ok (.iload_n 1, 1) := by decide +kernel
theorem dX9_timeOfBar_5 : decode cX9_timeOfBar 5 = .ok (.invokevirtual 42, 3) := by decide +kernel
theorem dX9_timeOfBar_8 : decode cX9_timeOfBar 8 = .ok (.checkcast 46, 3) := by decide +kernel
theorem dX9_timeOfBar_11 : decode cX9_timeOfBar 11 = .ok (.invokevirtual 55, 3) := by decide +kernel
theorem dX9_timeOfBar_14 : decode cX9_timeOfBar 14 = .ok (.aload_n 0, 1) := by decide +kernel
theorem dX9_timeOfBar_15 : decode cX9_timeOfBar 15 = .ok (.iload_n 1, 1) := by decide +kernel
theorem dX9_timeOfBar_16 : decode cX9_timeOfBar 16 = .ok (.invokevirtual 58, 3) := by decide +kernel
theorem dX9_timeOfBar_19 : decode cX9_timeOfBar 19 = .ok (.invokestatic 62, 3) := by decide +kernel
theorem dX9_timeOfBar_22 : decode cX9_timeOfBar 22 = .ok (.ireturn, 1) := by decide +kernel
theorem dX9_ticksLeft_0 : decode cX9_ticksLeft 0 = .ok (.aload_n 0, 1) := by decide +kernel
theorem dX9_ticksLeft_1 : decode cX9_ticksLeft 1 = .ok (.getfield 12, 3) := by decide +kernel
theorem dX9_ticksLeft_4 : decode cX9_ticksLeft 4 = .ok (.iload_n 2, 1) := by decide +kernel
theorem dX9_ticksLeft_5 : decode cX9_ticksLeft 5 = .ok (.invokevirtual 42, 3) := by decide +kernel
theorem dX9_ticksLeft_8 : decode cX9_ticksLeft 8 = .ok (.checkcast 46, 3) := by decide +kernel
theorem dX9_ticksLeft_11 : decode cX9_ticksLeft 11 = .ok (.invokevirtual 55, 3) := by decide +kernel
theorem dX9_ticksLeft_14 : decode cX9_ticksLeft 14 = .ok (.aload_n 0, 1) := by decide +kernel
theorem dX9_ticksLeft_15 : decode cX9_ticksLeft 15 = .ok (.iload_n 1, 1) := by decide +kernel
theorem dX9_ticksLeft_16 : decode cX9_ticksLeft 16 = .ok (.iload_n 2, 1) := by decide +kernel
theorem dX9_ticksLeft_17 : decode cX9_ticksLeft 17 = .ok (.invokevirtual 66, 3) := by decide +kernel
theorem dX9_ticksLeft_20 : decode cX9_ticksLeft 20 = .ok (.getfield 70, 3) := by decide +kernel
theorem dX9_ticksLeft_23 : decode cX9_ticksLeft 23 = .ok (.isub, 1) := by decide +kernel
theorem dX9_ticksLeft_24 : decode cX9_ticksLeft 24 = .ok (.ireturn, 1) := by decide +kernel
theorem dX9_isRightBar_0 : decode cX9_isRightBar 0 = .ok (.aload_n 0, 1) := by decide +kernel
theorem dX9_isRightBar_1 : decode cX9_isRightBar 1 = .ok (.iload_n 1, 1) := by decide +kernel
theorem dX9_isRightBar_2 : decode cX9_isRightBar 2 = .ok (.iload_n 2, 1) := by decide +kernel
theorem dX9_isRightBar_3 : decode cX9_isRightBar 3 = .ok (.invokevirtual 66, 3) := by decide +kernel
theorem dX9_isRightBar_6 : decode cX9_isRightBar 6 = .ok (.astore_n 3, 1) := by decide +kernel
theorem dX9_isRightBar_7 : decode cX9_isRightBar 7 = .ok (.aload_n 3, 1) := by decide +kernel
theorem dX9_isRightBar_8 : decode cX9_isRightBar 8 = .ok (.invokevirtual 74, 3) := by decide +kernel
theorem dX9_isRightBar_11 : decode cX9_isRightBar 11 = .ok (.ifCond .ne 19, 3) := by decide +kernel
theorem dX9_isRightBar_14 : decode cX9_isRightBar 14 = .ok (.aload_n 0, 1) := by decide +kernel
theorem dX9_isRightBar_15 : decode cX9_isRightBar 15 = .ok (.iload_n 1, 1) := by decide +kernel
theorem dX9_isRightBar_16 : decode cX9_isRightBar 16 = .ok (.iload_n 2, 1) := by decide +kernel
theorem dX9_isRightBar_17 : decode cX9_isRightBar 17 = .ok (.invokevirtual 78, 3) := by decide +kernel
theorem dX9_isRightBar_20 : decode cX9_isRightBar 20 = .ok (.ifCond .ne 14, 3) := by decide +kernel
theorem dX9_isRightBar_23 : decode cX9_isRightBar 23 = .ok (.aload_n 3, 1) := by decide +kernel
theorem dX9_isRightBar_24 : decode cX9_isRightBar 24 = .ok (.invokevirtual 81, 3) := by decide +kernel
theorem dX9_isRightBar_27 : decode cX9_isRightBar 27 = .ok (.ifCond .eq 7, 3) := by decide +kernel
theorem dX9_isRightBar_30 : decode cX9_isRightBar 30 = .ok (.iconst 1, 1) := by decide +kernel
theorem dX9_isRightBar_31 : decode cX9_isRightBar 31 = .ok (.goto 4, 3) := by decide +kernel
theorem dX9_isRightBar_34 : decode cX9_isRightBar 34 = .ok (.iconst 0, 1) := by decide +kernel
theorem dX9_isRightBar_35 : decode cX9_isRightBar 35 = .ok (.ireturn, 1) := by decide +kernel
theorem dX9_canBeDrawn_0 : decode cX9_canBeDrawn 0 = .ok (.iconst 0, 1) := by decide +kernel
theorem dX9_canBeDrawn_1 : decode cX9_canBeDrawn 1 = .ok (.istore_n 2, 1) := by decide +kernel
theorem dX9_canBeDrawn_2 : decode cX9_canBeDrawn 2 = .ok (.iload_n 2, 1) := by decide +kernel
theorem dX9_canBeDrawn_3 : decode cX9_canBeDrawn 3 = .ok (.aload_n 0, 1) := by decide +kernel
theorem dX9_canBeDrawn_4 : decode cX9_canBeDrawn 4 = .ok (.getfield 12, 3) := by decide +kernel
theorem dX9_canBeDrawn_7 : decode cX9_canBeDrawn 7 = .ok (.invokevirtual 38, 3) := by decide +kernel
theorem dX9_canBeDrawn_10 : decode cX9_canBeDrawn 10 = .ok (.if_icmp .ge 20, 3) := by decide +kernel
theorem dX9_canBeDrawn_13 : decode cX9_canBeDrawn 13 = .ok (.aload_n 0, 1) := by decide +kernel
theorem dX9_canBeDrawn_14 : decode cX9_canBeDrawn 14 = .ok (.iload_n 1, 1) := by decide +kernel
theorem dX9_canBeDrawn_15 : decode cX9_canBeDrawn 15 = .ok (.iload_n 2, 1) := by decide +kernel
theorem dX9_canBeDrawn_16 : decode cX9_canBeDrawn 16 = .ok (.invokevirtual 84, 3) := by decide +kernel
theorem dX9_canBeDrawn_19 : decode cX9_canBeDrawn 19 = .ok (.ifCond .ne 5, 3) := by decide +kernel
theorem dX9_canBeDrawn_22 : decode cX9_canBeDrawn 22 = .ok (.iconst 0, 1) := by decide +kernel
theorem dX9_canBeDrawn_23 : decode cX9_canBeDrawn 23 = .ok (.ireturn, 1) := by decide +kernel
theorem dX9_canBeDrawn_24 : decode cX9_canBeDrawn 24 = .ok (.iinc 2 1, 3) := by decide +kernel
theorem dX9_canBeDrawn_27 : decode cX9_canBeDrawn 27 = .ok (.goto (-25), 3) := by decide +kernel
theorem dX9_canBeDrawn_30 : decode cX9_canBeDrawn 30 = .ok (.aload_n 0, 1) := by decide +kernel
theorem dX9_canBeDrawn_31 : decode cX9_canBeDrawn 31 = .ok (.getfield 12, 3) := by decide +kernel
theorem dX9_canBeDrawn_34 : decode cX9_canBeDrawn 34 = .ok (.invokevirtual 88, 3) := by decide +kernel
theorem dX9_canBeDrawn_37 : decode cX9_canBeDrawn 37 = .ok (.ifCond .ne 7, 3) := by decide +kernel
theorem dX9_canBeDrawn_40 : decode cX9_canBeDrawn 40 = .ok (.iconst 1, 1) := by decide +kernel
theorem dX9_canBeDrawn_41 : decode cX9_canBeDrawn 41 = .ok (.goto 4, 3) := by decide +kernel
theorem dX9_canBeDrawn_44 : decode cX9_canBeDrawn 44 = .ok (.iconst 0, 1) := by decide +kernel
theorem dX9_canBeDrawn_45 : decode cX9_canBeDrawn 45 = .ok (.ireturn, 1) := by decide +kernel
theorem dX9_isPitchOrRest_0 : decode cX9_isPitchOrRest 0 = .ok (.iload_n 0, 1) := by decide +kernel
theorem dX9_isPitchOrRest_1 : decode cX9_isPitchOrRest 1 = .ok (.ifCond .eq 18, 3) := by decide +kernel
theorem dX9_isPitchOrRest_4 : decode cX9_isPitchOrRest 4 = .ok (.iload_n 0, 1) := by decide +kernel
theorem dX9_isPitchOrRest_5 : decode cX9_isPitchOrRest 5 = .ok (.iload_n 1, 1) := by decide +kernel
theorem dX9_isPitchOrRest_6 : decode cX9_isPitchOrRest 6 = .ok (.iadd, 1) := by decide +kernel
theorem dX9_isPitchOrRest_7 : decode cX9_isPitchOrRest 7 = .ok (.iconst 1, 1) := by decide +kernel
theorem dX9_isPitchOrRest_8 : decode cX9_isPitchOrRest 8 = .ok (.if_icmp .lt 15, 3) := by decide +kernel
theorem dX9_isPitchOrRest_11 : decode cX9_isPitchOrRest 11 = .ok (.iload_n 0, 1) := by decide +kernel
theorem dX9_isPitchOrRest_12 : decode cX9_isPitchOrRest 12 = .ok (.iload_n 1, 1) := by decide +kernel
theorem dX9_isPitchOrRest_13 : decode cX9_isPitchOrRest 13 = .ok (.iadd, 1) := by decide +kernel
theorem dX9_isPitchOrRest_14 : decode cX9_isPitchOrRest 14 = .ok (.bipush 127, 2) := by decide +kernel
theorem dX9_isPitchOrRest_16 : decode cX9_isPitchOrRest 16 = .ok (.if_icmp .gt 7, 3) := by decide +kernel
theorem dX9_isPitchOrRest_19 : decode cX9_isPitchOrRest 19 = .ok (.iconst 1, 1) := by decide +kernel
theorem dX9_isPitchOrRest_20 : decode cX9_isPitchOrRest 20 = .ok (.goto 4, 3) := by decide +kernel
theorem dX9_isPitchOrRest_23 : decode cX9_isPitchOrRest 23 = .ok (.iconst 0, 1) := by decide +kernel
theorem dX9_isPitchOrRest_24 : decode cX9_isPitchOrRest 24 = .ok (.ireturn, 1) := by decide +kernel
theorem dX9_canBeWritten_0 : decode cX9_canBeWritten 0 = .ok (.iload_n 2, 1) := by decide +kernel
theorem dX9_canBeWritten_1 : decode cX9_canBeWritten 1 = .ok (.aload_n 0, 1) := by decide +kernel
theorem dX9_canBeWritten_2 : decode cX9_canBeWritten 2 = .ok (.getfield 24, 3) := by decide +kernel
theorem dX9_canBeWritten_5 : decode cX9_canBeWritten 5 = .ok (.iload_n 1, 1) := by decide +kernel
theorem dX9_canBeWritten_6 : decode cX9_canBeWritten 6 = .ok (.iaload, 1) := by decide +kernel
theorem dX9_canBeWritten_7 : decode cX9_canBeWritten 7 = .ok (.invokestatic 89, 3) := by decide +kernel
theorem dX9_canBeWritten_10 : decode cX9_canBeWritten 10 = .ok (.ireturn, 1) := by decide +kernel
theorem dX9_canBeTransposed_0 : decode cX9_canBeTransposed 0 = .ok (.iconst 0, 1) := by decide +kernel
theorem dX9_canBeTransposed_1 : decode cX9_canBeTransposed 1 = .ok (.istore_n 3, 1) := by decide +kernel
theorem dX9_canBeTransposed_2 : decode cX9_canBeTransposed 2 = .ok (.iload_n 3, 1) := by decide +kernel
theorem dX9_canBeTransposed_3 : decode cX9_canBeTransposed 3 = .ok (.aload_n 0, 1) := by decide +kernel
theorem dX9_canBeTransposed_4 : decode cX9_canBeTransposed 4 = .ok (.getfield 12, 3) := by decide +kernel
theorem dX9_canBeTransposed_7 : decode cX9_canBeTransposed 7 = .ok (.invokevirtual 38, 3) := by decide +kernel
theorem dX9_canBeTransposed_10 : decode cX9_canBeTransposed 10 = .ok (.if_icmp .ge 55, 3) := by decide +kernel
theorem dX9_canBeTransposed_13 : decode cX9_canBeTransposed 13 = .ok (.aload_n 0, 1) := by decide +kernel
theorem dX9_canBeTransposed_14 : decode cX9_canBeTransposed 14 = .ok (.iload_n 1, 1) := by decide +kernel
theorem dX9_canBeTransposed_15 : decode cX9_canBeTransposed 15 = .ok (.iload_n 3, 1) := by decide +kernel
theorem dX9_canBeTransposed_16 : decode cX9_canBeTransposed 16 = .ok (.invokevirtual 66, 3) := by decide +kernel
theorem dX9_canBeTransposed_19 : decode cX9_canBeTransposed 19 = .ok (.astore 4, 2) := by decide +kernel
theorem dX9_canBeTransposed_21 : decode cX9_canBeTransposed 21 = .ok (.iconst 0, 1) := by decide +kernel
theorem dX9_canBeTransposed_22 : decode cX9_canBeTransposed 22 = .ok (.istore 5, 2) := by decide +kernel
theorem dX9_canBeTransposed_24 : decode cX9_canBeTransposed 24 = .ok (.iload 5, 2) := by decide +kernel
theorem dX9_canBeTransposed_26 : decode cX9_canBeTransposed 26 = .ok (.aload 4, 2) := by decide +kernel
theorem dX9_canBeTransposed_28 : decode cX9_canBeTransposed 28 = .ok (.invokevirtual 92, 3) := by decide +kernel
theorem dX9_canBeTransposed_31 : decode cX9_canBeTransposed 31 = .ok (.if_icmp .ge 28, 3) := by decide +kernel
theorem dX9_canBeTransposed_34 : decode cX9_canBeTransposed 34 = .ok (.aload 4, 2) := by decide +kernel
theorem dX9_canBeTransposed_36 : decode cX9_canBeTransposed 36 = .ok (.iload 5, 2) := by decide +kernel
theorem dX9_canBeTransposed_38 : decode cX9_canBeTransposed 38 = .ok (.invokevirtual 93, 3) := by decide +kernel
theorem dX9_canBeTransposed_41 : decode cX9_canBeTransposed 41 = .ok (.getfield 96, 3) := by decide +kernel
theorem dX9_canBeTransposed_44 : decode cX9_canBeTransposed 44 = .ok (.iload_n 2, 1) := by decide +kernel
theorem dX9_canBeTransposed_45 : decode cX9_canBeTransposed 45 = .ok (.invokestatic 89, 3) := by decide +kernel
theorem dX9_canBeTransposed_48 : decode cX9_canBeTransposed 48 = .ok (.ifCond .ne 5, 3) := by decide +kernel
theorem dX9_canBeTransposed_51 : decode cX9_canBeTransposed 51 = .ok (.iconst 0, 1) := by decide +kernel
theorem dX9_canBeTransposed_52 : decode cX9_canBeTransposed 52 = .ok (.ireturn, 1) := by decide +kernel
theorem dX9_canBeTransposed_53 : decode cX9_canBeTransposed 53 = .ok (.iinc 5 1, 3) := by decide +kernel
theorem dX9_canBeTransposed_56 : decode cX9_canBeTransposed 56 = .ok (.goto (-32), 3) := by decide +kernel
theorem dX9_canBeTransposed_59 : decode cX9_canBeTransposed 59 = .ok (.iinc 3 1, 3) := by decide +kernel
theorem dX9_canBeTransposed_62 : decode cX9_canBeTransposed 62 = .ok (.goto (-60), 3) := by decide +kernel
theorem dX9_canBeTransposed_65 : decode cX9_canBeTransposed 65 = .ok (.iconst 1, 1) := by decide +kernel
theorem dX9_canBeTransposed_66 : decode cX9_canBeTransposed 66 = .ok (.ireturn, 1) := by decide +kernel
theorem dX9_spreadMarks_0 : decode cX9_spreadMarks 0 = .ok (.iconst 0, 1) := by decide +kernel
theorem dX9_spreadMarks_1 : decode cX9_spreadMarks 1 = .ok (.istore_n 1, 1) := by decide +kernel
theorem dX9_spreadMarks_2 : decode cX9_spreadMarks 2 = .ok (.iload_n 1, 1) := by decide +kernel
theorem dX9_spreadMarks_3 : decode cX9_spreadMarks 3 = .ok (.iconst 4, 1) := by decide +kernel
theorem dX9_spreadMarks_4 : decode cX9_spreadMarks 4 = .ok (.if_icmp .ge 91, 3) := by decide +kernel
theorem dX9_spreadMarks_7 : decode cX9_spreadMarks 7 = .ok (.iconst 2, 1) := by decide +kernel
theorem dX9_spreadMarks_8 : decode cX9_spreadMarks 8 = .ok (.istore_n 2, 1) := by decide +kernel
theorem dX9_spreadMarks_9 : decode cX9_spreadMarks 9 = .ok (.iconst 0, 1) := by decide +kernel
theorem dX9_spreadMarks_10 : decode cX9_spreadMarks 10 = .ok (.istore_n 3, 1) := by decide +kernel
theorem dX9_spreadMarks_11 : decode cX9_spreadMarks 11 = .ok (.iload_n 3, 1) := by decide +kernel
theorem dX9_spreadMarks_12 : decode cX9_spreadMarks 12 = .ok (.aload_n 0, 1) := by decide +kernel
theorem dX9_spreadMarks_13 : decode cX9_spreadMarks 13 = .ok (.getfield 12, 3) := by decide +kernel
theorem dX9_spreadMarks_16 : decode cX9_spreadMarks 16 = .ok (.invokevirtual 38, 3) := by decide +kernel
theorem dX9_spreadMarks_19 : decode cX9_spreadMarks 19 = .ok (.if_icmp .ge 70, 3) := by decide +kernel
theorem dX9_spreadMarks_22 : decode cX9_spreadMarks 22 = .ok (.aload_n 0, 1) := by decide +kernel
theorem dX9_spreadMarks_23 : decode cX9_spreadMarks 23 = .ok (.iload_n 1, 1) := by decide +kernel
theorem dX9_spreadMarks_24 : decode cX9_spreadMarks 24 = .ok (.iload_n 3, 1) := by decide +kernel
theorem dX9_spreadMarks_25 : decode cX9_spreadMarks 25 = .ok (.invokevirtual 66, 3) := by decide +kernel
theorem dX9_spreadMarks_28 : decode cX9_spreadMarks 28 = .ok (.astore 4, 2) := by decide +kernel
theorem dX9_spreadMarks_30 : decode cX9_spreadMarks 30 = .ok (.iconst 0, 1) := by decide +kernel
theorem dX9_spreadMarks_31 : decode cX9_spreadMarks 31 = .ok (.istore 5, 2) := by decide +kernel
theorem dX9_spreadMarks_33 : decode cX9_spreadMarks 33 = .ok (.iload 5, 2) := by decide +kernel
theorem dX9_spreadMarks_35 : decode cX9_spreadMarks 35 = .ok (.aload 4, 2) := by decide +kernel
theorem dX9_spreadMarks_37 : decode cX9_spreadMarks 37 = .ok (.invokevirtual 92, 3) := by decide +kernel
theorem dX9_spreadMarks_40 : decode cX9_spreadMarks 40 = .ok (.if_icmp .ge 43, 3) := by decide +kernel
theorem dX9_spreadMarks_43 : decode cX9_spreadMarks 43 = .ok (.aload 4, 2) := by decide +kernel
theorem dX9_spreadMarks_45 : decode cX9_spreadMarks 45 = .ok (.iload 5, 2) := by decide +kernel
theorem dX9_spreadMarks_47 : decode cX9_spreadMarks 47 = .ok (.invokevirtual 93, 3) := by decide +kernel
theorem dX9_spreadMarks_50 : decode cX9_spreadMarks 50 = .ok (.astore 6, 2) := by decide +kernel
theorem dX9_spreadMarks_52 : decode cX9_spreadMarks 52 = .ok (.aload 6, 2) := by decide +kernel
theorem dX9_spreadMarks_54 : decode cX9_spreadMarks 54 = .ok (.getfield 101, 3) := by decide +kernel
theorem dX9_spreadMarks_57 : decode cX9_spreadMarks 57 = .ok (.iconst (-1), 1) := by decide +kernel
theorem dX9_spreadMarks_58 : decode cX9_spreadMarks 58 = .ok (.if_icmp .ne 7, 3) := by decide +kernel
theorem dX9_spreadMarks_61 : decode cX9_spreadMarks 61 = .ok (.iload_n 2, 1) := by decide +kernel
theorem dX9_spreadMarks_62 : decode cX9_spreadMarks 62 = .ok (.goto 8, 3) := by decide +kernel
theorem dX9_spreadMarks_65 : decode cX9_spreadMarks 65 = .ok (.aload 6, 2) := by decide +kernel
theorem dX9_spreadMarks_67 : decode cX9_spreadMarks 67 = .ok (.getfield 101, 3) := by decide +kernel
theorem dX9_spreadMarks_70 : decode cX9_spreadMarks 70 = .ok (.istore_n 2, 1) := by decide +kernel
theorem dX9_spreadMarks_71 : decode cX9_spreadMarks 71 = .ok (.aload 6, 2) := by decide +kernel
theorem dX9_spreadMarks_73 : decode cX9_spreadMarks 73 = .ok (.iload_n 2, 1) := by decide +kernel
theorem dX9_spreadMarks_74 : decode cX9_spreadMarks 74 = .ok (.putfield 104, 3) := by decide +kernel
theorem dX9_spreadMarks_77 : decode cX9_spreadMarks 77 = .ok (.iinc 5 1, 3) := by decide +kernel
theorem dX9_spreadMarks_80 : decode cX9_spreadMarks 80 = .ok (.goto (-47), 3) := by decide +kernel
theorem dX9_spreadMarks_83 : decode cX9_spreadMarks 83 = .ok (.iinc 3 1, 3) := by decide +kernel
theorem dX9_spreadMarks_86 : decode cX9_spreadMarks 86 = .ok (.goto (-75), 3) := by decide +kernel
theorem dX9_spreadMarks_89 : decode cX9_spreadMarks 89 = .ok (.iinc 1 1, 3) := by decide +kernel
theorem dX9_spreadMarks_92 : decode cX9_spreadMarks 92 = .ok (.goto (-90), 3) := by decide +kernel
theorem dX9_spreadMarks_95 : decode cX9_spreadMarks 95 = .ok (.return_, 1) := by decide +kernel
theorem dX9_lowestVoiceBeside_0 : decode cX9_lowestVoiceBeside 0 = .ok (.iconst 0, 1) := by decide +kernel
theorem dX9_lowestVoiceBeside_1 : decode cX9_lowestVoiceBeside 1 = .ok (.istore_n 3, 1) := by decide +kernel
theorem dX9_lowestVoiceBeside_2 : decode cX9_lowestVoiceBeside 2 = .ok (.iload_n 3, 1) := by decide +kernel
theorem dX9_lowestVoiceBeside_3 : decode cX9_lowestVoiceBeside 3 = .ok (.iconst 4, 1) := by decide +kernel
theorem dX9_lowestVoiceBeside_4 : decode cX9_lowestVoiceBeside 4 = .ok (.if_icmp .ge 28, 3) := by decide +kernel
theorem dX9_lowestVoiceBeside_7 : decode cX9_lowestVoiceBeside 7 = .ok (.iload_n 3, 1) := by decide +kernel
theorem dX9_lowestVoiceBeside_8 : decode cX9_lowestVoiceBeside 8 = .ok (.iload_n 1, 1) := by decide +kernel
theorem dX9_lowestVoiceBeside_9 : decode cX9_lowestVoiceBeside 9 = .ok (.if_icmp .eq 17, 3) := by decide +kernel
theorem dX9_lowestVoiceBeside_12 : decode cX9_lowestVoiceBeside 12 = .ok (.aload_n 0, 1) := by decide +kernel
theorem dX9_lowestVoiceBeside_13 : decode cX9_lowestVoiceBeside 13 = .ok (.iload_n 3, 1) := by decide +kernel
theorem dX9_lowestVoiceBeside_14 : decode cX9_lowestVoiceBeside 14 = .ok (.iload_n 2, 1) := by decide +kernel
theorem dX9_lowestVoiceBeside_15 : decode cX9_lowestVoiceBeside 15 = .ok (.invokevirtual 66, 3) := by decide +kernel
theorem dX9_lowestVoiceBeside_18 : decode cX9_lowestVoiceBeside 18 = .ok (.invokevirtual 74, 3) := by decide +kernel
theorem dX9_lowestVoiceBeside_21 : decode cX9_lowestVoiceBeside 21 = .ok (.ifCond .ne 5, 3) := by decide +kernel
theorem dX9_lowestVoiceBeside_24 : decode cX9_lowestVoiceBeside 24 = .ok (.iload_n 3, 1) := by decide +kernel
theorem dX9_lowestVoiceBeside_25 : decode cX9_lowestVoiceBeside 25 = .ok (.ireturn, 1) := by decide +kernel
theorem dX9_lowestVoiceBeside_26 : decode cX9_lowestVoiceBeside 26 = .ok (.iinc 3 1, 3) := by decide +kernel
theorem dX9_lowestVoiceBeside_29 : decode cX9_lowestVoiceBeside 29 = .ok (.goto (-27), 3) := by decide +kernel
theorem dX9_lowestVoiceBeside_32 : decode cX9_lowestVoiceBeside 32 = .ok (.iconst (-1), 1) := by decide +kernel
theorem dX9_lowestVoiceBeside_33 : decode cX9_lowestVoiceBeside 33 = .ok (.ireturn, 1) := by decide +kernel
theorem dX9_dropPhrasesAt_0 : decode cX9_dropPhrasesAt 0 = .ok (.iconst 0, 1) := by decide +kernel
theorem dX9_dropPhrasesAt_1 : decode cX9_dropPhrasesAt 1 = .ok (.istore_n 2, 1) := by decide +kernel
theorem dX9_dropPhrasesAt_2 : decode cX9_dropPhrasesAt 2 = .ok (.iload_n 2, 1) := by decide +kernel
theorem dX9_dropPhrasesAt_3 : decode cX9_dropPhrasesAt 3 = .ok (.aload_n 0, 1) := by decide +kernel
theorem dX9_dropPhrasesAt_4 : decode cX9_dropPhrasesAt 4 = .ok (.getfield 18, 3) := by decide +kernel
theorem dX9_dropPhrasesAt_7 : decode cX9_dropPhrasesAt 7 = .ok (.invokevirtual 38, 3) := by decide +kernel
theorem dX9_dropPhrasesAt_10 : decode cX9_dropPhrasesAt 10 = .ok (.if_icmp .ge 42, 3) := by decide +kernel
theorem dX9_dropPhrasesAt_13 : decode cX9_dropPhrasesAt 13 = .ok (.aload_n 0, 1) := by decide +kernel
theorem dX9_dropPhrasesAt_14 : decode cX9_dropPhrasesAt 14 = .ok (.getfield 18, 3) := by decide +kernel
theorem dX9_dropPhrasesAt_17 : decode cX9_dropPhrasesAt 17 = .ok (.iload_n 2, 1) := by decide +kernel
theorem dX9_dropPhrasesAt_18 : decode cX9_dropPhrasesAt 18 = .ok (.invokevirtual 42, 3) := by decide +kernel
theorem dX9_dropPhrasesAt_21 : decode cX9_dropPhrasesAt 21 = .ok (.checkcast 107, 3) := by decide +kernel
theorem dX9_dropPhrasesAt_24 : decode cX9_dropPhrasesAt 24 = .ok (.aload_n 1, 1) := by decide +kernel
theorem dX9_dropPhrasesAt_25 : decode cX9_dropPhrasesAt 25 = .ok (.invokevirtual 109, 3) := by decide +kernel
theorem dX9_dropPhrasesAt_28 : decode cX9_dropPhrasesAt 28 = .ok (.ifCond .eq 18, 3) := by decide +kernel
theorem dX9_dropPhrasesAt_31 : decode cX9_dropPhrasesAt 31 = .ok (.aload_n 0, 1) := by decide +kernel
theorem dX9_dropPhrasesAt_32 : decode cX9_dropPhrasesAt 32 = .ok (.getfield 18, 3) := by decide +kernel
theorem dX9_dropPhrasesAt_35 : decode cX9_dropPhrasesAt 35 = .ok (.iload_n 2, 1) := by decide +kernel
theorem dX9_dropPhrasesAt_36 : decode cX9_dropPhrasesAt 36 = .ok (.invokevirtual 42, 3) := by decide +kernel
theorem dX9_dropPhrasesAt_39 : decode cX9_dropPhrasesAt 39 = .ok (.checkcast 107, 3) := by decide +kernel
theorem dX9_dropPhrasesAt_42 : decode cX9_dropPhrasesAt 42 = .ok (.iconst 1, 1) := by decide +kernel
theorem dX9_dropPhrasesAt_43 : decode cX9_dropPhrasesAt 43 = .ok (.putfield 113, 3) := by decide +kernel
theorem dX9_dropPhrasesAt_46 : decode cX9_dropPhrasesAt 46 = .ok (.iinc 2 1, 3) := by decide +kernel
theorem dX9_dropPhrasesAt_49 : decode cX9_dropPhrasesAt 49 = .ok (.goto (-47), 3) := by decide +kernel
theorem dX9_dropPhrasesAt_52 : decode cX9_dropPhrasesAt 52 = .ok (.return_, 1) := by decide +kernel
theorem dX9_phrasesThere_0 : decode cX9_phrasesThere 0 = .ok (.iconst 0, 1) := by decide +kernel
theorem dX9_phrasesThere_1 : decode cX9_phrasesThere 1 = .ok (.istore_n 1, 1) := by decide +kernel
theorem dX9_phrasesThere_2 : decode cX9_phrasesThere 2 = .ok (.iconst 0, 1) := by decide +kernel
theorem dX9_phrasesThere_3 : decode cX9_phrasesThere 3 = .ok (.istore_n 2, 1) := by decide +kernel
theorem dX9_phrasesThere_4 : decode cX9_phrasesThere 4 = .ok (.iload_n 2, 1) := by decide +kernel
theorem dX9_phrasesThere_5 : decode cX9_phrasesThere 5 = .ok (.aload_n 0, 1) := by decide +kernel
theorem dX9_phrasesThere_6 : decode cX9_phrasesThere 6 = .ok (.getfield 18, 3) := by decide +kernel
theorem dX9_phrasesThere_9 : decode cX9_phrasesThere 9 = .ok (.invokevirtual 38, 3) := by decide +kernel
theorem dX9_phrasesThere_12 : decode cX9_phrasesThere 12 = .ok (.if_icmp .ge 34, 3) := by decide +kernel
theorem dX9_phrasesThere_15 : decode cX9_phrasesThere 15 = .ok (.iload_n 1, 1) := by decide +kernel
theorem dX9_phrasesThere_16 : decode cX9_phrasesThere 16 = .ok (.aload_n 0, 1) := by decide +kernel
theorem dX9_phrasesThere_17 : decode cX9_phrasesThere 17 = .ok (.getfield 18, 3) := by decide +kernel
theorem dX9_phrasesThere_20 : decode cX9_phrasesThere 20 = .ok (.iload_n 2, 1) := by decide +kernel
theorem dX9_phrasesThere_21 : decode cX9_phrasesThere 21 = .ok (.invokevirtual 42, 3) := by decide +kernel
theorem dX9_phrasesThere_24 : decode cX9_phrasesThere 24 = .ok (.checkcast 107, 3) := by decide +kernel
theorem dX9_phrasesThere_27 : decode cX9_phrasesThere 27 = .ok (.getfield 113, 3) := by decide +kernel
theorem dX9_phrasesThere_30 : decode cX9_phrasesThere 30 = .ok (.ifCond .eq 7, 3) := by decide +kernel
theorem dX9_phrasesThere_33 : decode cX9_phrasesThere 33 = .ok (.iconst 0, 1) := by decide +kernel
theorem dX9_phrasesThere_34 : decode cX9_phrasesThere 34 = .ok (.goto 4, 3) := by decide +kernel
theorem dX9_phrasesThere_37 : decode cX9_phrasesThere 37 = .ok (.iconst 1, 1) := by decide +kernel
theorem dX9_phrasesThere_38 : decode cX9_phrasesThere 38 = .ok (.iadd, 1) := by decide +kernel
theorem dX9_phrasesThere_39 : decode cX9_phrasesThere 39 = .ok (.istore_n 1, 1) := by decide +kernel
theorem dX9_phrasesThere_40 : decode cX9_phrasesThere 40 = .ok (.iinc 2 1, 3) := by decide +kernel
theorem dX9_phrasesThere_43 : decode cX9_phrasesThere 43 = .ok (.goto (-39), 3) := by decide +kernel
theorem dX9_phrasesThere_46 : decode cX9_phrasesThere 46 = .ok (.iload_n 1, 1) := by decide +kernel
theorem dX9_phrasesThere_47 : decode cX9_phrasesThere 47 = .ok (.ireturn, 1) := by decide +kernel
theorem dX9_isTurnForbidden_0 : decode cX9_isTurnForbidden 0 = .ok (.aload_n 0, 1) := by decide +kernel
theorem dX9_isTurnForbidden_1 : decode cX9_isTurnForbidden 1 = .ok (.iload_n 1, 1) := by decide +kernel
theorem dX9_isTurnForbidden_2 : decode cX9_isTurnForbidden 2 = .ok (.iload_n 2, 1) := by decide +kernel
theorem dX9_isTurnForbidden_3 : decode cX9_isTurnForbidden 3 = .ok (.invokevirtual 66, 3) := by decide +kernel
theorem dX9_isTurnForbidden_6 : decode cX9_isTurnForbidden 6 = .ok (.getfield 117, 3) := by decide +kernel
theorem dX9_isTurnForbidden_9 : decode cX9_isTurnForbidden 9 = .ok (.ifCond .eq 5, 3) := by decide +kernel
theorem dX9_isTurnForbidden_12 : decode cX9_isTurnForbidden 12 = .ok (.iconst 0, 1) := by decide +kernel
theorem dX9_isTurnForbidden_13 : decode cX9_isTurnForbidden 13 = .ok (.ireturn, 1) := by decide +kernel
theorem dX9_isTurnForbidden_14 : decode cX9_isTurnForbidden 14 = .ok (.iconst 0, 1) := by decide +kernel
theorem dX9_isTurnForbidden_15 : decode cX9_isTurnForbidden 15 = .ok (.istore_n 3, 1) := by decide +kernel
theorem dX9_isTurnForbidden_16 : decode cX9_isTurnForbidden 16 = .ok (.iload_n 3, 1) := by decide +kernel
theorem dX9_isTurnForbidden_17 : decode cX9_isTurnForbidden 17 = .ok (.aload_n 0, 1) := by decide +kernel
theorem dX9_isTurnForbidden_18 : decode cX9_isTurnForbidden 18 = .ok (.getfield 18, 3) := by decide +kernel
theorem dX9_isTurnForbidden_21 : decode cX9_isTurnForbidden 21 = .ok (.invokevirtual 38, 3) := by decide +kernel
theorem dX9_isTurnForbidden_24 : decode cX9_isTurnForbidden 24 = .ok (.if_icmp .ge 30, 3) := by decide +kernel
theorem dX9_isTurnForbidden_27 : decode cX9_isTurnForbidden 27 = .ok (.aload_n 0, 1) := by decide +kernel
theorem dX9_isTurnForbidden_28 : decode cX9_isTurnForbidden 28 = .ok (.getfield 18, 3) := by decide +kernel
theorem dX9_isTurnForbidden_31 : decode cX9_isTurnForbidden 31 = .ok (.iload_n 3, 1) := by decide +kernel
theorem dX9_isTurnForbidden_32 : decode cX9_isTurnForbidden 32 = .ok (.invokevirtual 42, 3) := by decide +kernel
theorem dX9_isTurnForbidden_35 : decode cX9_isTurnForbidden 35 = .ok (.checkcast 107, 3) := by decide +kernel
theorem dX9_isTurnForbidden_38 : decode cX9_isTurnForbidden 38 = .ok (.iload_n 1, 1) := by decide +kernel
theorem dX9_isTurnForbidden_39 : decode cX9_isTurnForbidden 39 = .ok (.iload_n 2, 1) := by decide +kernel
theorem dX9_isTurnForbidden_40 : decode cX9_isTurnForbidden 40 = .ok (.invokevirtual 120, 3) := by decide +kernel
theorem dX9_isTurnForbidden_43 : decode cX9_isTurnForbidden 43 = .ok (.ifCond .eq 5, 3) := by decide +kernel
theorem dX9_isTurnForbidden_46 : decode cX9_isTurnForbidden 46 = .ok (.iconst 1, 1) := by decide +kernel
theorem dX9_isTurnForbidden_47 : decode cX9_isTurnForbidden 47 = .ok (.ireturn, 1) := by decide +kernel
theorem dX9_isTurnForbidden_48 : decode cX9_isTurnForbidden 48 = .ok (.iinc 3 1, 3) := by decide +kernel
theorem dX9_isTurnForbidden_51 : decode cX9_isTurnForbidden 51 = .ok (.goto (-35), 3) := by decide +kernel
theorem dX9_isTurnForbidden_54 : decode cX9_isTurnForbidden 54 = .ok (.iconst 0, 1) := by decide +kernel
theorem dX9_isTurnForbidden_55 : decode cX9_isTurnForbidden 55 = .ok (.ireturn, 1) := by decide +kernel
theorem dX9_isRepeated_0 : decode cX9_isRepeated 0 = .ok (.iconst 0, 1) := by decide +kernel
theorem dX9_isRepeated_1 : decode cX9_isRepeated 1 = .ok (.istore_n 3, 1) := by decide +kernel
theorem dX9_isRepeated_2 : decode cX9_isRepeated 2 = .ok (.iload_n 3, 1) := by decide +kernel
theorem dX9_isRepeated_3 : decode cX9_isRepeated 3 = .ok (.aload_n 0, 1) := by decide +kernel
theorem dX9_isRepeated_4 : decode cX9_isRepeated 4 = .ok (.getfield 21, 3) := by decide +kernel
theorem dX9_isRepeated_7 : decode cX9_isRepeated 7 = .ok (.invokevirtual 38, 3) := by decide +kernel
theorem dX9_isRepeated_10 : decode cX9_isRepeated 10 = .ok (.if_icmp .ge 42, 3) := by decide +kernel
theorem dX9_isRepeated_13 : decode cX9_isRepeated 13 = .ok (.aload_n 0, 1) := by decide +kernel
theorem dX9_isRepeated_14 : decode cX9_isRepeated 14 = .ok (.getfield 21, 3) := by decide +kernel
theorem dX9_isRepeated_17 : decode cX9_isRepeated 17 = .ok (.iload_n 3, 1) := by decide +kernel
theorem dX9_isRepeated_18 : decode cX9_isRepeated 18 = .ok (.invokevirtual 42, 3) := by decide +kernel
theorem dX9_isRepeated_21 : decode cX9_isRepeated 21 = .ok (.checkcast 123, 3) := by decide +kernel
theorem dX9_isRepeated_24 : decode cX9_isRepeated 24 = .ok (.astore 4, 2) := by decide +kernel
theorem dX9_isRepeated_26 : decode cX9_isRepeated 26 = .ok (.aload 4, 2) := by decide +kernel
theorem dX9_isRepeated_28 : decode cX9_isRepeated 28 = .ok (.getfield 125, 3) := by decide +kernel
theorem dX9_isRepeated_31 : decode cX9_isRepeated 31 = .ok (.iload_n 2, 1) := by decide +kernel
theorem dX9_isRepeated_32 : decode cX9_isRepeated 32 = .ok (.if_icmp .gt 14, 3) := by decide +kernel
theorem dX9_isRepeated_35 : decode cX9_isRepeated 35 = .ok (.aload 4, 2) := by decide +kernel
theorem dX9_isRepeated_37 : decode cX9_isRepeated 37 = .ok (.getfield 128, 3) := by decide +kernel
theorem dX9_isRepeated_40 : decode cX9_isRepeated 40 = .ok (.iload_n 1, 1) := by decide +kernel
theorem dX9_isRepeated_41 : decode cX9_isRepeated 41 = .ok (.if_icmp .lt 5, 3) := by decide +kernel
theorem dX9_isRepeated_44 : decode cX9_isRepeated 44 = .ok (.iconst 1, 1) := by decide +kernel
theorem dX9_isRepeated_45 : decode cX9_isRepeated 45 = .ok (.ireturn, 1) := by decide +kernel
theorem dX9_isRepeated_46 : decode cX9_isRepeated 46 = .ok (.iinc 3 1, 3) := by decide +kernel
theorem dX9_isRepeated_49 : decode cX9_isRepeated 49 = .ok (.goto (-47), 3) := by decide +kernel
theorem dX9_isRepeated_52 : decode cX9_isRepeated 52 = .ok (.iconst 0, 1) := by decide +kernel
theorem dX9_isRepeated_53 : decode cX9_isRepeated 53 = .ok (.ireturn, 1) := by decide +kernel
theorem dX9_repeatFrom_0 : decode cX9_repeatFrom 0 = .ok (.iconst 0, 1) := by decide +kernel
theorem dX9_repeatFrom_1 : decode cX9_repeatFrom 1 = .ok (.istore_n 2, 1) := by decide +kernel
theorem dX9_repeatFrom_2 : decode cX9_repeatFrom 2 = .ok (.iload_n 2, 1) := by decide +kernel
theorem dX9_repeatFrom_3 : decode cX9_repeatFrom 3 = .ok (.aload_n 0, 1) := by decide +kernel
theorem dX9_repeatFrom_4 : decode cX9_repeatFrom 4 = .ok (.getfield 21, 3) := by decide +kernel
theorem dX9_repeatFrom_7 : decode cX9_repeatFrom 7 = .ok (.invokevirtual 38, 3) := by decide +kernel
theorem dX9_repeatFrom_10 : decode cX9_repeatFrom 10 = .ok (.if_icmp .ge 29, 3) := by decide +kernel
theorem dX9_repeatFrom_13 : decode cX9_repeatFrom 13 = .ok (.aload_n 0, 1) := by decide +kernel
theorem dX9_repeatFrom_14 : decode cX9_repeatFrom 14 = .ok (.getfield 21, 3) := by decide +kernel
theorem dX9_repeatFrom_17 : decode cX9_repeatFrom 17 = .ok (.iload_n 2, 1) := by decide +kernel
theorem dX9_repeatFrom_18 : decode cX9_repeatFrom 18 = .ok (.invokevirtual 42, 3) := by decide +kernel
theorem dX9_repeatFrom_21 : decode cX9_repeatFrom 21 = .ok (.checkcast 123, 3) := by decide +kernel
theorem dX9_repeatFrom_24 : decode cX9_repeatFrom 24 = .ok (.getfield 125, 3) := by decide +kernel
theorem dX9_repeatFrom_27 : decode cX9_repeatFrom 27 = .ok (.iload_n 1, 1) := by decide +kernel
theorem dX9_repeatFrom_28 : decode cX9_repeatFrom 28 = .ok (.if_icmp .ne 5, 3) := by decide +kernel
theorem dX9_repeatFrom_31 : decode cX9_repeatFrom 31 = .ok (.iload_n 2, 1) := by decide +kernel
theorem dX9_repeatFrom_32 : decode cX9_repeatFrom 32 = .ok (.ireturn, 1) := by decide +kernel
theorem dX9_repeatFrom_33 : decode cX9_repeatFrom 33 = .ok (.iinc 2 1, 3) := by decide +kernel
theorem dX9_repeatFrom_36 : decode cX9_repeatFrom 36 = .ok (.goto (-34), 3) := by decide +kernel
theorem dX9_repeatFrom_39 : decode cX9_repeatFrom 39 = .ok (.iconst (-1), 1) := by decide +kernel
theorem dX9_repeatFrom_40 : decode cX9_repeatFrom 40 = .ok (.ireturn, 1) := by decide +kernel
theorem dX9_repeatTo_0 : decode cX9_repeatTo 0 = .ok (.iconst 0, 1) := by decide +kernel
theorem dX9_repeatTo_1 : decode cX9_repeatTo 1 = .ok (.istore_n 2, 1) := by decide +kernel
theorem dX9_repeatTo_2 : decode cX9_repeatTo 2 = .ok (.iload_n 2, 1) := by decide +kernel
theorem dX9_repeatTo_3 : decode cX9_repeatTo 3 = .ok (.aload_n 0, 1) := by decide +kernel
theorem dX9_repeatTo_4 : decode cX9_repeatTo 4 = .ok (.getfield 21, 3) := by decide +kernel
theorem dX9_repeatTo_7 : decode cX9_repeatTo 7 = .ok (.invokevirtual 38, 3) := by decide +kernel
theorem dX9_repeatTo_10 : decode cX9_repeatTo 10 = .ok (.if_icmp .ge 29, 3) := by decide +kernel
theorem dX9_repeatTo_13 : decode cX9_repeatTo 13 = .ok (.aload_n 0, 1) := by decide +kernel
theorem dX9_repeatTo_14 : decode cX9_repeatTo 14 = .ok (.getfield 21, 3) := by decide +kernel
theorem dX9_repeatTo_17 : decode cX9_repeatTo 17 = .ok (.iload_n 2, 1) := by decide +kernel
theorem dX9_repeatTo_18 : decode cX9_repeatTo 18 = .ok (.invokevirtual 42, 3) := by decide +kernel
theorem dX9_repeatTo_21 : decode cX9_repeatTo 21 = .ok (.checkcast 123, 3) := by decide +kernel
theorem dX9_repeatTo_24 : decode cX9_repeatTo 24 = .ok (.getfield 128, 3) := by decide +kernel
theorem dX9_repeatTo_27 : decode cX9_repeatTo 27 = .ok (.iload_n 1, 1) := by decide +kernel
theorem dX9_repeatTo_28 : decode cX9_repeatTo 28 = .ok (.if_icmp .ne 5, 3) := by decide +kernel
theorem dX9_repeatTo_31 : decode cX9_repeatTo 31 = .ok (.iload_n 2, 1) := by decide +kernel
theorem dX9_repeatTo_32 : decode cX9_repeatTo 32 = .ok (.ireturn, 1) := by decide +kernel
theorem dX9_repeatTo_33 : decode cX9_repeatTo 33 = .ok (.iinc 2 1, 3) := by decide +kernel
theorem dX9_repeatTo_36 : decode cX9_repeatTo 36 = .ok (.goto (-34), 3) := by decide +kernel
theorem dX9_repeatTo_39 : decode cX9_repeatTo 39 = .ok (.iconst (-1), 1) := by decide +kernel
theorem dX9_repeatTo_40 : decode cX9_repeatTo 40 = .ok (.ireturn, 1) := by decide +kernel
theorem dX9_areEndingsFrom_0 : decode cX9_areEndingsFrom 0 = .ok (.iconst 0, 1) := by decide +kernel
theorem dX9_areEndingsFrom_1 : decode cX9_areEndingsFrom 1 = .ok (.istore_n 2, 1) := by decide +kernel
theorem dX9_areEndingsFrom_2 : decode cX9_areEndingsFrom 2 = .ok (.iload_n 2, 1) := by decide +kernel
theorem dX9_areEndingsFrom_3 : decode cX9_areEndingsFrom 3 = .ok (.aload_n 0, 1) := by decide +kernel
theorem dX9_areEndingsFrom_4 : decode cX9_areEndingsFrom 4 = .ok (.getfield 21, 3) := by decide +kernel
theorem dX9_areEndingsFrom_7 : decode cX9_areEndingsFrom 7 = .ok (.invokevirtual 38, 3) := by decide +kernel
theorem dX9_areEndingsFrom_10 : decode cX9_areEndingsFrom 10 = .ok (.if_icmp .ge 40, 3) := by decide +kernel
theorem dX9_areEndingsFrom_13 : decode cX9_areEndingsFrom 13 = .ok (.aload_n 0, 1) := by decide +kernel
theorem dX9_areEndingsFrom_14 : decode cX9_areEndingsFrom 14 = .ok (.getfield 21, 3) := by decide +kernel
theorem dX9_areEndingsFrom_17 : decode cX9_areEndingsFrom 17 = .ok (.iload_n 2, 1) := by decide +kernel
theorem dX9_areEndingsFrom_18 : decode cX9_areEndingsFrom 18 = .ok (.invokevirtual 42, 3) := by decide +kernel
theorem dX9_areEndingsFrom_21 : decode cX9_areEndingsFrom 21 = .ok (.checkcast 123, 3) := by decide +kernel
theorem dX9_areEndingsFrom_24 : decode cX9_areEndingsFrom 24 = .ok (.astore_n 3, 1) := by decide +kernel
theorem dX9_areEndingsFrom_25 : decode cX9_areEndingsFrom 25 = .ok (.aload_n 3, 1) := by decide +kernel
theorem dX9_areEndingsFrom_26 : decode cX9_areEndingsFrom 26 = .ok (.getfield 131, 3) := by decide +kernel
theorem dX9_areEndingsFrom_29 : decode cX9_areEndingsFrom 29 = .ok (.ifCond .le 15, 3) := by decide +kernel
theorem dX9_areEndingsFrom_32 : decode cX9_areEndingsFrom 32 = .ok (.aload_n 3, 1) := by decide +kernel
theorem dX9_areEndingsFrom_33 : decode cX9_areEndingsFrom 33 = .ok (.invokevirtual 134, 3) := by decide +kernel
theorem dX9_areEndingsFrom_36 : decode cX9_areEndingsFrom 36 = .ok (.iconst 1, 1) := by decide +kernel
theorem dX9_areEndingsFrom_37 : decode cX9_areEndingsFrom 37 = .ok (.iadd, 1) := by decide +kernel
theorem dX9_areEndingsFrom_38 : decode cX9_areEndingsFrom 38 = .ok (.iload_n 1, 1) := by decide +kernel
theorem dX9_areEndingsFrom_39 : decode cX9_areEndingsFrom 39 = .ok (.if_icmp .ne 5, 3) := by decide +kernel
theorem dX9_areEndingsFrom_42 : decode cX9_areEndingsFrom 42 = .ok (.iconst 1, 1) := by decide +kernel
theorem dX9_areEndingsFrom_43 : decode cX9_areEndingsFrom 43 = .ok (.ireturn, 1) := by decide +kernel
theorem dX9_areEndingsFrom_44 : decode cX9_areEndingsFrom 44 = .ok (.iinc 2 1, 3) := by decide +kernel
theorem dX9_areEndingsFrom_47 : decode cX9_areEndingsFrom 47 = .ok (.goto (-45), 3) := by decide +kernel
theorem dX9_areEndingsFrom_50 : decode cX9_areEndingsFrom 50 = .ok (.iconst 0, 1) := by decide +kernel
theorem dX9_areEndingsFrom_51 : decode cX9_areEndingsFrom 51 = .ok (.ireturn, 1) := by decide +kernel
theorem dX9_isNewMetre_0 : decode cX9_isNewMetre 0 = .ok (.iload_n 1, 1) := by decide +kernel
theorem dX9_isNewMetre_1 : decode cX9_isNewMetre 1 = .ok (.ifCond .eq 33, 3) := by decide +kernel
theorem dX9_isNewMetre_4 : decode cX9_isNewMetre 4 = .ok (.aload_n 0, 1) := by decide +kernel
theorem dX9_isNewMetre_5 : decode cX9_isNewMetre 5 = .ok (.getfield 12, 3) := by decide +kernel
theorem dX9_isNewMetre_8 : decode cX9_isNewMetre 8 = .ok (.iload_n 1, 1) := by decide +kernel
theorem dX9_isNewMetre_9 : decode cX9_isNewMetre 9 = .ok (.invokevirtual 42, 3) := by decide +kernel
theorem dX9_isNewMetre_12 : decode cX9_isNewMetre 12 = .ok (.checkcast 46, 3) := by decide +kernel
theorem dX9_isNewMetre_15 : decode cX9_isNewMetre 15 = .ok (.aload_n 0, 1) := by decide +kernel
theorem dX9_isNewMetre_16 : decode cX9_isNewMetre 16 = .ok (.getfield 12, 3) := by decide +kernel
theorem dX9_isNewMetre_19 : decode cX9_isNewMetre 19 = .ok (.iload_n 1, 1) := by decide +kernel
theorem dX9_isNewMetre_20 : decode cX9_isNewMetre 20 = .ok (.iconst 1, 1) := by decide +kernel
theorem dX9_isNewMetre_21 : decode cX9_isNewMetre 21 = .ok (.isub, 1) := by decide +kernel
theorem dX9_isNewMetre_22 : decode cX9_isNewMetre 22 = .ok (.invokevirtual 42, 3) := by decide +kernel
theorem dX9_isNewMetre_25 : decode cX9_isNewMetre 25 = .ok (.checkcast 46, 3) := by decide +kernel
theorem dX9_isNewMetre_28 : decode cX9_isNewMetre 28 = .ok (.invokevirtual 137, 3) := by decide +kernel
theorem dX9_isNewMetre_31 : decode cX9_isNewMetre 31 = .ok (.ifCond .ne 7, 3) := by decide +kernel
theorem dX9_isNewMetre_34 : decode cX9_isNewMetre 34 = .ok (.iconst 1, 1) := by decide +kernel
theorem dX9_isNewMetre_35 : decode cX9_isNewMetre 35 = .ok (.goto 4, 3) := by decide +kernel
theorem dX9_isNewMetre_38 : decode cX9_isNewMetre 38 = .ok (.iconst 0, 1) := by decide +kernel
theorem dX9_isNewMetre_39 : decode cX9_isNewMetre 39 = .ok (.ireturn, 1) := by decide +kernel
theorem dX9_isRestParted_0 : decode cX9_isRestParted 0 = .ok (.aload_n 0, 1) := by decide +kernel
theorem dX9_isRestParted_1 : decode cX9_isRestParted 1 = .ok (.iload_n 1, 1) := by decide +kernel
theorem dX9_isRestParted_2 : decode cX9_isRestParted 2 = .ok (.invokevirtual 141, 3) := by decide +kernel
theorem dX9_isRestParted_5 : decode cX9_isRestParted 5 = .ok (.ifCond .ne 49, 3) := by decide +kernel
theorem dX9_isRestParted_8 : decode cX9_isRestParted 8 = .ok (.aload_n 0, 1) := by decide +kernel
theorem dX9_isRestParted_9 : decode cX9_isRestParted 9 = .ok (.getfield 12, 3) := by decide +kernel
theorem dX9_isRestParted_12 : decode cX9_isRestParted 12 = .ok (.iload_n 1, 1) := by decide +kernel
theorem dX9_isRestParted_13 : decode cX9_isRestParted 13 = .ok (.invokevirtual 42, 3) := by decide +kernel
theorem dX9_isRestParted_16 : decode cX9_isRestParted 16 = .ok (.checkcast 46, 3) := by decide +kernel
theorem dX9_isRestParted_19 : decode cX9_isRestParted 19 = .ok (.getfield 52, 3) := by decide +kernel
theorem dX9_isRestParted_22 : decode cX9_isRestParted 22 = .ok (.iconst (-1), 1) := by decide +kernel
theorem dX9_isRestParted_23 : decode cX9_isRestParted 23 = .ok (.if_icmp .ne 31, 3) := by decide +kernel
theorem dX9_isRestParted_26 : decode cX9_isRestParted 26 = .ok (.aload_n 0, 1) := by decide +kernel
theorem dX9_isRestParted_27 : decode cX9_isRestParted 27 = .ok (.iload_n 1, 1) := by decide +kernel
theorem dX9_isRestParted_28 : decode cX9_isRestParted 28 = .ok (.invokevirtual 145, 3) := by decide +kernel
theorem dX9_isRestParted_31 : decode cX9_isRestParted 31 = .ok (.iconst (-1), 1) := by decide +kernel
theorem dX9_isRestParted_32 : decode cX9_isRestParted 32 = .ok (.if_icmp .ne 22, 3) := by decide +kernel
theorem dX9_isRestParted_35 : decode cX9_isRestParted 35 = .ok (.aload_n 0, 1) := by decide +kernel
theorem dX9_isRestParted_36 : decode cX9_isRestParted 36 = .ok (.iload_n 1, 1) := by decide +kernel
theorem dX9_isRestParted_37 : decode cX9_isRestParted 37 = .ok (.invokevirtual 148, 3) := by decide +kernel
theorem dX9_isRestParted_40 : decode cX9_isRestParted 40 = .ok (.ifCond .ne 14, 3) := by decide +kernel
theorem dX9_isRestParted_43 : decode cX9_isRestParted 43 = .ok (.aload_n 0, 1) := by decide +kernel
theorem dX9_isRestParted_44 : decode cX9_isRestParted 44 = .ok (.iload_n 1, 1) := by decide +kernel
theorem dX9_isRestParted_45 : decode cX9_isRestParted 45 = .ok (.iconst 1, 1) := by decide +kernel
theorem dX9_isRestParted_46 : decode cX9_isRestParted 46 = .ok (.isub, 1) := by decide +kernel
theorem dX9_isRestParted_47 : decode cX9_isRestParted 47 = .ok (.invokevirtual 151, 3) := by decide +kernel
theorem dX9_isRestParted_50 : decode cX9_isRestParted 50 = .ok (.iconst (-1), 1) := by decide +kernel
theorem dX9_isRestParted_51 : decode cX9_isRestParted 51 = .ok (.if_icmp .eq 7, 3) := by decide +kernel
theorem dX9_isRestParted_54 : decode cX9_isRestParted 54 = .ok (.iconst 1, 1) := by decide +kernel
theorem dX9_isRestParted_55 : decode cX9_isRestParted 55 = .ok (.goto 4, 3) := by decide +kernel
theorem dX9_isRestParted_58 : decode cX9_isRestParted 58 = .ok (.iconst 0, 1) := by decide +kernel
theorem dX9_isRestParted_59 : decode cX9_isRestParted 59 = .ok (.ireturn, 1) := by decide +kernel
theorem dX9_widthOfSigns_0 : decode cX9_widthOfSigns 0 = .ok (.aload_n 0, 1) := by decide +kernel
theorem dX9_widthOfSigns_1 : decode cX9_widthOfSigns 1 = .ok (.iload_n 1, 1) := by decide +kernel
theorem dX9_widthOfSigns_2 : decode cX9_widthOfSigns 2 = .ok (.invokevirtual 141, 3) := by decide +kernel
theorem dX9_widthOfSigns_5 : decode cX9_widthOfSigns 5 = .ok (.ifCond .eq 7, 3) := by decide +kernel
theorem dX9_widthOfSigns_8 : decode cX9_widthOfSigns 8 = .ok (.iconst 3, 1) := by decide +kernel
theorem dX9_widthOfSigns_9 : decode cX9_widthOfSigns 9 = .ok (.goto 4, 3) := by decide +kernel
theorem dX9_widthOfSigns_12 : decode cX9_widthOfSigns 12 = .ok (.iconst 0, 1) := by decide +kernel
theorem dX9_widthOfSigns_13 : decode cX9_widthOfSigns 13 = .ok (.istore_n 2, 1) := by decide +kernel
theorem dX9_widthOfSigns_14 : decode cX9_widthOfSigns 14 = .ok (.iload_n 2, 1) := by decide +kernel
theorem dX9_widthOfSigns_15 : decode cX9_widthOfSigns 15 = .ok (.aload_n 0, 1) := by decide +kernel
theorem dX9_widthOfSigns_16 : decode cX9_widthOfSigns 16 = .ok (.getfield 12, 3) := by decide +kernel
theorem dX9_widthOfSigns_19 : decode cX9_widthOfSigns 19 = .ok (.iload_n 1, 1) := by decide +kernel
theorem dX9_widthOfSigns_20 : decode cX9_widthOfSigns 20 = .ok (.invokevirtual 42, 3) := by decide +kernel
theorem dX9_widthOfSigns_23 : decode cX9_widthOfSigns 23 = .ok (.checkcast 46, 3) := by decide +kernel
theorem dX9_widthOfSigns_26 : decode cX9_widthOfSigns 26 = .ok (.getfield 52, 3) := by decide +kernel
theorem dX9_widthOfSigns_29 : decode cX9_widthOfSigns 29 = .ok (.iconst (-1), 1) := by decide +kernel
theorem dX9_widthOfSigns_30 : decode cX9_widthOfSigns 30 = .ok (.if_icmp .eq 7, 3) := by decide +kernel
theorem dX9_widthOfSigns_33 : decode cX9_widthOfSigns 33 = .ok (.iconst 4, 1) := by decide +kernel
theorem dX9_widthOfSigns_34 : decode cX9_widthOfSigns 34 = .ok (.goto 4, 3) := by decide +kernel
theorem dX9_widthOfSigns_37 : decode cX9_widthOfSigns 37 = .ok (.iconst 0, 1) := by decide +kernel
theorem dX9_widthOfSigns_38 : decode cX9_widthOfSigns 38 = .ok (.iadd, 1) := by decide +kernel
theorem dX9_widthOfSigns_39 : decode cX9_widthOfSigns 39 = .ok (.istore_n 2, 1) := by decide +kernel
theorem dX9_widthOfSigns_40 : decode cX9_widthOfSigns 40 = .ok (.iload_n 2, 1) := by decide +kernel
theorem dX9_widthOfSigns_41 : decode cX9_widthOfSigns 41 = .ok (.aload_n 0, 1) := by decide +kernel
theorem dX9_widthOfSigns_42 : decode cX9_widthOfSigns 42 = .ok (.iload_n 1, 1) := by decide +kernel
theorem dX9_widthOfSigns_43 : decode cX9_widthOfSigns 43 = .ok (.invokevirtual 145, 3) := by decide +kernel
theorem dX9_widthOfSigns_46 : decode cX9_widthOfSigns 46 = .ok (.iconst (-1), 1) := by decide +kernel
theorem dX9_widthOfSigns_47 : decode cX9_widthOfSigns 47 = .ok (.if_icmp .eq 7, 3) := by decide +kernel
theorem dX9_widthOfSigns_50 : decode cX9_widthOfSigns 50 = .ok (.iconst 2, 1) := by decide +kernel
theorem dX9_widthOfSigns_51 : decode cX9_widthOfSigns 51 = .ok (.goto 4, 3) := by decide +kernel
theorem dX9_widthOfSigns_54 : decode cX9_widthOfSigns 54 = .ok (.iconst 0, 1) := by decide +kernel
theorem dX9_widthOfSigns_55 : decode cX9_widthOfSigns 55 = .ok (.iadd, 1) := by decide +kernel
theorem dX9_widthOfSigns_56 : decode cX9_widthOfSigns 56 = .ok (.istore_n 2, 1) := by decide +kernel
theorem dX9_widthOfSigns_57 : decode cX9_widthOfSigns 57 = .ok (.iload_n 2, 1) := by decide +kernel
theorem dX9_widthOfSigns_58 : decode cX9_widthOfSigns 58 = .ok (.aload_n 0, 1) := by decide +kernel
theorem dX9_widthOfSigns_59 : decode cX9_widthOfSigns 59 = .ok (.iload_n 1, 1) := by decide +kernel
theorem dX9_widthOfSigns_60 : decode cX9_widthOfSigns 60 = .ok (.invokevirtual 151, 3) := by decide +kernel
theorem dX9_widthOfSigns_63 : decode cX9_widthOfSigns 63 = .ok (.iconst (-1), 1) := by decide +kernel
theorem dX9_widthOfSigns_64 : decode cX9_widthOfSigns 64 = .ok (.if_icmp .eq 7, 3) := by decide +kernel
theorem dX9_widthOfSigns_67 : decode cX9_widthOfSigns 67 = .ok (.iconst 2, 1) := by decide +kernel
theorem dX9_widthOfSigns_68 : decode cX9_widthOfSigns 68 = .ok (.goto 4, 3) := by decide +kernel
theorem dX9_widthOfSigns_71 : decode cX9_widthOfSigns 71 = .ok (.iconst 0, 1) := by decide +kernel
theorem dX9_widthOfSigns_72 : decode cX9_widthOfSigns 72 = .ok (.iadd, 1) := by decide +kernel
theorem dX9_widthOfSigns_73 : decode cX9_widthOfSigns 73 = .ok (.istore_n 2, 1) := by decide +kernel
theorem dX9_widthOfSigns_74 : decode cX9_widthOfSigns 74 = .ok (.iload_n 2, 1) := by decide +kernel
theorem dX9_widthOfSigns_75 : decode cX9_widthOfSigns 75 = .ok (.ireturn, 1) := by decide +kernel
theorem dX10_init_0 : decode cX10_init 0 = .ok (.aload_n 0, 1) := by decide +kernel
theorem dX10_init_1 : decode cX10_init 1 = .ok (.invokespecial 1, 3) := by decide +kernel
theorem dX10_init_4 : decode cX10_init 4 = .ok (.return_, 1) := by decide +kernel
theorem dX11_init_0 : decode cX11_init 0 = .ok (.aload_n 0, 1) := by decide +kernel
theorem dX11_init_1 : decode cX11_init 1 = .ok (.invokespecial 1, 3) := by decide +kernel
theorem dX11_init_4 : decode cX11_init 4 = .ok (.aload_n 0, 1) := by decide +kernel
theorem dX11_init_5 : decode cX11_init 5 = .ok (.new 7, 3) := by decide +kernel
theorem dX11_init_8 : decode cX11_init 8 = .ok (.dup, 1) := by decide +kernel
theorem dX11_init_9 : decode cX11_init 9 = .ok (.invokespecial 9, 3) := by decide +kernel
theorem dX11_init_12 : decode cX11_init 12 = .ok (.putfield 10, 3) := by decide +kernel
theorem dX11_init_15 : decode cX11_init 15 = .ok (.aload_n 0, 1) := by decide +kernel
theorem dX11_init_16 : decode cX11_init 16 = .ok (.new 16, 3) := by decide +kernel
theorem dX11_init_19 : decode cX11_init 19 = .ok (.dup, 1) := by decide +kernel
theorem dX11_init_20 : decode cX11_init 20 = .ok (.invokespecial 18, 3) := by decide +kernel
theorem dX11_init_23 : decode cX11_init 23 = .ok (.putfield 19, 3) := by decide +kernel
theorem dX11_init_26 : decode cX11_init 26 = .ok (.aload_n 0, 1) := by decide +kernel
theorem dX11_init_27 : decode cX11_init 27 = .ok (.iconst 4, 1) := by decide +kernel
theorem dX11_init_28 : decode cX11_init 28 = .ok (.anewarray 23, 3) := by decide +kernel
theorem dX11_init_31 : decode cX11_init 31 = .ok (.putfield 25, 3) := by decide +kernel
theorem dX11_init_34 : decode cX11_init 34 = .ok (.return_, 1) := by decide +kernel
theorem dX11_addBar_0 : decode cX11_addBar 0 = .ok (.iload_n 1, 1) := by decide +kernel
theorem dX11_addBar_1 : decode cX11_addBar 1 = .ok (.iload_n 2, 1) := by decide +kernel
theorem dX11_addBar_2 : decode cX11_addBar 2 = .ok (.invokestatic 29, 3) := by decide +kernel
theorem dX11_addBar_5 : decode cX11_addBar 5 = .ok (.aload_n 0, 1) := by decide +kernel
theorem dX11_addBar_6 : decode cX11_addBar 6 = .ok (.getfield 10, 3) := by decide +kernel
theorem dX11_addBar_9 : decode cX11_addBar 9 = .ok (.invokevirtual 33, 3) := by decide +kernel
theorem dX11_addBar_12 : decode cX11_addBar 12 = .ok (.bipush 24, 2) := by decide +kernel
theorem dX11_addBar_14 : decode cX11_addBar 14 = .ok (.if_icmp .lt 13, 3) := by decide +kernel
theorem dX11_addBar_17 : decode cX11_addBar 17 = .ok (.new 37, 3) := by decide +kernel
theorem dX11_addBar_20 : decode cX11_addBar 20 = .ok (.dup, 1) := by decide +kernel
theorem dX11_addBar_21 : decode cX11_addBar 21 = .ok (.ldc 39, 2) := by decide +kernel
theorem dX11_addBar_23 : decode cX11_addBar 23 = .ok (.invokespecial 41, 3) := by decide +kernel
theorem dX11_addBar_26 : decode cX11_addBar 26 = .ok (.athrow, 1) := by decide +kernel
theorem dX11_addBar_27 : decode cX11_addBar 27 = .ok (.aload_n 0, 1) := by decide +kernel
theorem dX11_addBar_28 : decode cX11_addBar 28 = .ok (.getfield 10, 3) := by decide +kernel
theorem dX11_addBar_31 : decode cX11_addBar 31 = .ok (.getfield 44, 3) := by decide +kernel
theorem dX11_addBar_34 : decode cX11_addBar 34 = .ok (.new 48, 3) := by decide +kernel
theorem dX11_addBar_37 : decode cX11_addBar 37 = .ok (.dup, 1) := by decide +kernel
theorem dX11_addBar_38 : decode cX11_addBar 38 = .ok (.iload_n 1, 1) := by decide +kernel
theorem dX11_addBar_39 : decode cX11_addBar 39 = .ok (.iload_n 2, 1) := by decide +kernel
theorem dX11_addBar_40 : decode cX11_addBar 40 = .ok (.invokespecial 50, 3) := by decide +kernel
theorem dX11_addBar_43 : decode cX11_addBar 43 = .ok (.invokevirtual 52, 3) := by decide +kernel
theorem dX11_addBar_46 : decode cX11_addBar 46 = .ok (.pop, 1) := by decide +kernel
theorem dX11_addBar_47 : decode cX11_addBar 47 = .ok (.aload_n 0, 1) := by decide +kernel
theorem dX11_addBar_48 : decode cX11_addBar 48 = .ok (.getfield 10, 3) := by decide +kernel
theorem dX11_addBar_51 : decode cX11_addBar 51 = .ok (.dup, 1) := by decide +kernel
theorem dX11_addBar_52 : decode cX11_addBar 52 = .ok (.getfield 58, 3) := by decide +kernel
theorem dX11_addBar_55 : decode cX11_addBar 55 = .ok (.iconst 1, 1) := by decide +kernel
theorem dX11_addBar_56 : decode cX11_addBar 56 = .ok (.iadd, 1) := by decide +kernel
theorem dX11_addBar_57 : decode cX11_addBar 57 = .ok (.putfield 58, 3) := by decide +kernel
theorem dX11_addBar_60 : decode cX11_addBar 60 = .ok (.aload_n 0, 1) := by decide +kernel
theorem dX11_addBar_61 : decode cX11_addBar 61 = .ok (.getfield 10, 3) := by decide +kernel
theorem dX11_addBar_64 : decode cX11_addBar 64 = .ok (.invokevirtual 33, 3) := by decide +kernel
theorem dX11_addBar_67 : decode cX11_addBar 67 = .ok (.iconst 1, 1) := by decide +kernel
theorem dX11_addBar_68 : decode cX11_addBar 68 = .ok (.isub, 1) := by decide +kernel
theorem dX11_addBar_69 : decode cX11_addBar 69 = .ok (.ireturn, 1) := by decide +kernel
theorem dX11_setMetre_0 : decode cX11_setMetre 0 = .ok (.aload_n 0, 1) := by decide +kernel
theorem dX11_setMetre_1 : decode cX11_setMetre 1 = .ok (.iload_n 1, 1) := by decide +kernel
theorem dX11_setMetre_2 : decode cX11_setMetre 2 = .ok (.invokevirtual 62, 3) := by decide +kernel
theorem dX11_setMetre_5 : decode cX11_setMetre 5 = .ok (.iload_n 2, 1) := by decide +kernel
theorem dX11_setMetre_6 : decode cX11_setMetre 6 = .ok (.iload_n 3, 1) := by decide +kernel
theorem dX11_setMetre_7 : decode cX11_setMetre 7 = .ok (.invokestatic 29, 3) := by decide +kernel
theorem dX11_setMetre_10 : decode cX11_setMetre 10 = .ok (.aload_n 0, 1) := by decide +kernel
theorem dX11_setMetre_11 : decode cX11_setMetre 11 = .ok (.getfield 10, 3) := by decide +kernel
theorem dX11_setMetre_14 : decode cX11_setMetre 14 = .ok (.iload_n 1, 1) := by decide +kernel
theorem dX11_setMetre_15 : decode cX11_setMetre 15 = .ok (.invokevirtual 66, 3) := by decide +kernel
theorem dX11_setMetre_18 : decode cX11_setMetre 18 = .ok (.astore 4, 2) := by decide +kernel
theorem dX11_setMetre_20 : decode cX11_setMetre 20 = .ok (.aload 4, 2) := by decide +kernel
theorem dX11_setMetre_22 : decode cX11_setMetre 22 = .ok (.invokevirtual 70, 3) := by decide +kernel
theorem dX11_setMetre_25 : decode cX11_setMetre 25 = .ok (.iload_n 2, 1) := by decide +kernel
theorem dX11_setMetre_26 : decode cX11_setMetre 26 = .ok (.iload_n 3, 1) := by decide +kernel
theorem dX11_setMetre_27 : decode cX11_setMetre 27 = .ok (.invokestatic 73, 3) := by decide +kernel
theorem dX11_setMetre_30 : decode cX11_setMetre 30 = .ok (.if_icmp .le 13, 3) := by decide +kernel
theorem dX11_setMetre_33 : decode cX11_setMetre 33 = .ok (.new 37, 3) := by decide +kernel
theorem dX11_setMetre_36 : decode cX11_setMetre 36 = .ok (.dup, 1) := by decide +kernel
theorem dX11_setMetre_37 : decode cX11_setMetre 37 = .ok (.ldc 77, 2) := by decide +kernel
theorem dX11_setMetre_39 : decode cX11_setMetre 39 = .ok (.invokespecial 41, 3) := by decide +kernel
theorem dX11_setMetre_42 : decode cX11_setMetre 42 = .ok (.athrow, 1) := by decide +kernel
theorem dX11_setMetre_43 : decode cX11_setMetre 43 = .ok (.aload 4, 2) := by decide +kernel
theorem dX11_setMetre_45 : decode cX11_setMetre 45 = .ok (.invokevirtual 79, 3) := by decide +kernel
theorem dX11_setMetre_48 : decode cX11_setMetre 48 = .ok (.istore 5, 2) := by decide +kernel
theorem dX11_setMetre_50 : decode cX11_setMetre 50 = .ok (.aload 4, 2) := by decide +kernel
theorem dX11_setMetre_52 : decode cX11_setMetre 52 = .ok (.iload_n 2, 1) := by decide +kernel
theorem dX11_setMetre_53 : decode cX11_setMetre 53 = .ok (.putfield 82, 3) := by decide +kernel
theorem dX11_setMetre_56 : decode cX11_setMetre 56 = .ok (.aload 4, 2) := by decide +kernel
theorem dX11_setMetre_58 : decode cX11_setMetre 58 = .ok (.iload_n 3, 1) := by decide +kernel
theorem dX11_setMetre_59 : decode cX11_setMetre 59 = .ok (.putfield 85, 3) := by decide +kernel
theorem dX11_setMetre_62 : decode cX11_setMetre 62 = .ok (.aload_n 0, 1) := by decide +kernel
theorem dX11_setMetre_63 : decode cX11_setMetre 63 = .ok (.getfield 10, 3) := by decide +kernel
theorem dX11_setMetre_66 : decode cX11_setMetre 66 = .ok (.dup, 1) := by decide +kernel
theorem dX11_setMetre_67 : decode cX11_setMetre 67 = .ok (.getfield 58, 3) := by decide +kernel
theorem dX11_setMetre_70 : decode cX11_setMetre 70 = .ok (.iconst 1, 1) := by decide +kernel
theorem dX11_setMetre_71 : decode cX11_setMetre 71 = .ok (.iadd, 1) := by decide +kernel
theorem dX11_setMetre_72 : decode cX11_setMetre 72 = .ok (.putfield 58, 3) := by decide +kernel
theorem dX11_setMetre_75 : decode cX11_setMetre 75 = .ok (.iload 5, 2) := by decide +kernel
theorem dX11_setMetre_77 : decode cX11_setMetre 77 = .ok (.ireturn, 1) := by decide +kernel
theorem dX11_setTempo_0 : decode cX11_setTempo 0 = .ok (.aload_n 0, 1) := by decide +kernel
theorem dX11_setTempo_1 : decode cX11_setTempo 1 = .ok (.iload_n 1, 1) := by decide +kernel
theorem dX11_setTempo_2 : decode cX11_setTempo 2 = .ok (.invokevirtual 62, 3) := by decide +kernel
theorem dX11_setTempo_5 : decode cX11_setTempo 5 = .ok (.iload_n 2, 1) := by decide +kernel
theorem dX11_setTempo_6 : decode cX11_setTempo 6 = .ok (.iconst (-1), 1) := by decide +kernel
theorem dX11_setTempo_7 : decode cX11_setTempo 7 = .ok (.if_icmp .eq 12, 3) := by decide +kernel
theorem dX11_setTempo_10 : decode cX11_setTempo 10 = .ok (.iload_n 2, 1) := by decide +kernel
theorem dX11_setTempo_11 : decode cX11_setTempo 11 = .ok (.bipush 30, 2) := by decide +kernel
theorem dX11_setTempo_13 : decode cX11_setTempo 13 = .ok (.sipush 240, 3) := by decide +kernel
theorem dX11_setTempo_16 : decode cX11_setTempo 16 = .ok (.invokestatic 88, 3) := by decide +kernel
theorem dX11_setTempo_19 : decode cX11_setTempo 19 = .ok (.aload_n 0, 1) := by decide +kernel
theorem dX11_setTempo_20 : decode cX11_setTempo 20 = .ok (.getfield 10, 3) := by decide +kernel
theorem dX11_setTempo_23 : decode cX11_setTempo 23 = .ok (.iload_n 1, 1) := by decide +kernel
theorem dX11_setTempo_24 : decode cX11_setTempo 24 = .ok (.invokevirtual 66, 3) := by decide +kernel
theorem dX11_setTempo_27 : decode cX11_setTempo 27 = .ok (.astore_n 3, 1) := by decide +kernel
theorem dX11_setTempo_28 : decode cX11_setTempo 28 = .ok (.aload_n 3, 1) := by decide +kernel
theorem dX11_setTempo_29 : decode cX11_setTempo 29 = .ok (.getfield 92, 3) := by decide +kernel
theorem dX11_setTempo_32 : decode cX11_setTempo 32 = .ok (.istore 4, 2) := by decide +kernel
theorem dX11_setTempo_34 : decode cX11_setTempo 34 = .ok (.aload_n 3, 1) := by decide +kernel
theorem dX11_setTempo_35 : decode cX11_setTempo 35 = .ok (.iload_n 2, 1) := by decide +kernel
theorem dX11_setTempo_36 : decode cX11_setTempo 36 = .ok (.putfield 92, 3) := by decide +kernel
theorem dX11_setTempo_39 : decode cX11_setTempo 39 = .ok (.aload_n 0, 1) := by decide +kernel
theorem dX11_setTempo_40 : decode cX11_setTempo 40 = .ok (.getfield 10, 3) := by decide +kernel
theorem dX11_setTempo_43 : decode cX11_setTempo 43 = .ok (.dup, 1) := by decide +kernel
theorem dX11_setTempo_44 : decode cX11_setTempo 44 = .ok (.getfield 58, 3) := by decide +kernel
theorem dX11_setTempo_47 : decode cX11_setTempo 47 = .ok (.iconst 1, 1) := by decide +kernel
theorem dX11_setTempo_48 : decode cX11_setTempo 48 = .ok (.iadd, 1) := by decide +kernel
theorem dX11_setTempo_49 : decode cX11_setTempo 49 = .ok (.putfield 58, 3) := by decide +kernel
theorem dX11_setTempo_52 : decode cX11_setTempo 52 = .ok (.iload 4, 2) := by decide +kernel
theorem dX11_setTempo_54 : decode cX11_setTempo 54 = .ok (.ireturn, 1) := by decide +kernel
theorem dX11_bars_0 : decode cX11_bars 0 = .ok (.aload_n 0, 1) := by decide +kernel
theorem dX11_bars_1 : decode cX11_bars 1 = .ok (.getfield 10, 3) := by decide +kernel
theorem dX11_bars_4 : decode cX11_bars 4 = .ok (.invokevirtual 33, 3) := by decide +kernel
theorem dX11_bars_7 : decode cX11_bars 7 = .ok (.ireturn, 1) := by decide +kernel
theorem dX11_length_0 : decode cX11_length 0 = .ok (.aload_n 0, 1) := by decide +kernel
theorem dX11_length_1 : decode cX11_length 1 = .ok (.iload_n 1, 1) := by decide +kernel
theorem dX11_length_2 : decode cX11_length 2 = .ok (.invokevirtual 62, 3) := by decide +kernel
theorem dX11_length_5 : decode cX11_length 5 = .ok (.aload_n 0, 1) := by decide +kernel
theorem dX11_length_6 : decode cX11_length 6 = .ok (.getfield 10, 3) := by decide +kernel
theorem dX11_length_9 : decode cX11_length 9 = .ok (.iload_n 1, 1) := by decide +kernel
theorem dX11_length_10 : decode cX11_length 10 = .ok (.invokevirtual 66, 3) := by decide +kernel
theorem dX11_length_13 : decode cX11_length 13 = .ok (.invokevirtual 79, 3) := by decide +kernel
theorem dX11_length_16 : decode cX11_length 16 = .ok (.ireturn, 1) := by decide +kernel
theorem dX11_tempo_0 : decode cX11_tempo 0 = .ok (.aload_n 0, 1) := by decide +kernel
theorem dX11_tempo_1 : decode cX11_tempo 1 = .ok (.iload_n 1, 1) := by decide +kernel
theorem dX11_tempo_2 : decode cX11_tempo 2 = .ok (.invokevirtual 62, 3) := by decide +kernel
theorem dX11_tempo_5 : decode cX11_tempo 5 = .ok (.aload_n 0, 1) := by decide +kernel
theorem dX11_tempo_6 : decode cX11_tempo 6 = .ok (.getfield 10, 3) := by decide +kernel
theorem dX11_tempo_9 : decode cX11_tempo 9 = .ok (.iload_n 1, 1) := by decide +kernel
theorem dX11_tempo_10 : decode cX11_tempo 10 = .ok (.invokevirtual 95, 3) := by decide +kernel
theorem dX11_tempo_13 : decode cX11_tempo 13 = .ok (.ireturn, 1) := by decide +kernel
theorem dX11_time_0 : decode cX11_time 0 = .ok (.aload_n 0, 1) := by decide +kernel
theorem dX11_time_1 : decode cX11_time 1 = .ok (.iload_n 1, 1) := by decide +kernel
theorem dX11_time_2 : decode cX11_time 2 = .ok (.invokevirtual 62, 3) := by decide +kernel
theorem dX11_time_5 : decode cX11_time 5 = .ok (.aload_n 0, 1) := by decide +kernel
theorem dX11_time_6 : decode cX11_time 6 = .ok (.getfield 10, 3) := by decide +kernel
theorem dX11_time_9 : decode cX11_time 9 = .ok (.iload_n 1, 1) := by decide +kernel
theorem dX11_time_10 : decode cX11_time 10 = .ok (.invokevirtual 99, 3) := by decide +kernel
theorem dX11_time_13 : decode cX11_time 13 = .ok (.ireturn, 1) := by decide +kernel
theorem dX11_insert_0 : decode cX11_insert 0 = .ok (.iload_n 1, 1) := by decide +kernel
theorem dX11_insert_1 : decode cX11_insert 1 = .ok (.invokestatic 102, 3) := by decide +kernel
theorem dX11_insert_4 : decode cX11_insert 4 = .ok (.iload 4, 2) := by decide +kernel
theorem dX11_insert_6 : decode cX11_insert 6 = .ok (.iconst 0, 1) := by decide +kernel
theorem dX11_insert_7 : decode cX11_insert 7 = .ok (.bipush 127, 2) := by decide +kernel
theorem dX11_insert_9 : decode cX11_insert 9 = .ok (.invokestatic 88, 3) := by decide +kernel
theorem dX11_insert_12 : decode cX11_insert 12 = .ok (.iload 5, 2) := by decide +kernel
theorem dX11_insert_14 : decode cX11_insert 14 = .ok (.iconst 0, 1) := by decide +kernel
theorem dX11_insert_15 : decode cX11_insert 15 = .ok (.iconst 5, 1) := by decide +kernel
theorem dX11_insert_16 : decode cX11_insert 16 = .ok (.invokestatic 88, 3) := by decide +kernel
theorem dX11_insert_19 : decode cX11_insert 19 = .ok (.iload 6, 2) := by decide +kernel
theorem dX11_insert_21 : decode cX11_insert 21 = .ok (.iconst 0, 1) := by decide +kernel
theorem dX11_insert_22 : decode cX11_insert 22 = .ok (.iconst 2, 1) := by decide +kernel
theorem dX11_insert_23 : decode cX11_insert 23 = .ok (.invokestatic 88, 3) := by decide +kernel
theorem dX11_insert_26 : decode cX11_insert 26 = .ok (.iload 5, 2) := by decide +kernel
theorem dX11_insert_28 : decode cX11_insert 28 = .ok (.iconst 5, 1) := by decide +kernel
theorem dX11_insert_29 : decode cX11_insert 29 = .ok (.if_icmp .ne 19, 3) := by decide +kernel
theorem dX11_insert_32 : decode cX11_insert 32 = .ok (.iload 6, 2) := by decide +kernel
theorem dX11_insert_34 : decode cX11_insert 34 = .ok (.iconst 1, 1) := by decide +kernel
theorem dX11_insert_35 : decode cX11_insert 35 = .ok (.if_icmp .ne 13, 3) := by decide +kernel
theorem dX11_insert_38 : decode cX11_insert 38 = .ok (.new 105, 3) := by decide +kernel
theorem dX11_insert_41 : decode cX11_insert 41 = .ok (.dup, 1) := by decide +kernel
theorem dX11_insert_42 : decode cX11_insert 42 = .ok (.ldc 107, 2) := by decide +kernel
theorem dX11_insert_44 : decode cX11_insert 44 = .ok (.invokespecial 109, 3) := by decide +kernel
theorem dX11_insert_47 : decode cX11_insert 47 = .ok (.athrow, 1) := by decide +kernel
theorem dX11_insert_48 : decode cX11_insert 48 = .ok (.aload_n 0, 1) := by decide +kernel
theorem dX11_insert_49 : decode cX11_insert 49 = .ok (.iload_n 2, 1) := by decide +kernel
theorem dX11_insert_50 : decode cX11_insert 50 = .ok (.invokevirtual 62, 3) := by decide +kernel
theorem dX11_insert_53 : decode cX11_insert 53 = .ok (.aload_n 0, 1) := by decide +kernel
theorem dX11_insert_54 : decode cX11_insert 54 = .ok (.getfield 10, 3) := by decide +kernel
theorem dX11_insert_57 : decode cX11_insert 57 = .ok (.iload_n 1, 1) := by decide +kernel
theorem dX11_insert_58 : decode cX11_insert 58 = .ok (.iload_n 2, 1) := by decide +kernel
theorem dX11_insert_59 : decode cX11_insert 59 = .ok (.invokevirtual 110, 3) := by decide +kernel
theorem dX11_insert_62 : decode cX11_insert 62 = .ok (.astore 7, 2) := by decide +kernel
theorem dX11_insert_64 : decode cX11_insert 64 = .ok (.iload_n 3, 1) := by decide +kernel
theorem dX11_insert_65 : decode cX11_insert 65 = .ok (.aload 7, 2) := by decide +kernel
theorem dX11_insert_67 : decode cX11_insert 67 = .ok (.invokevirtual 114, 3) := by decide +kernel
theorem dX11_insert_70 : decode cX11_insert 70 = .ok (.iconst 1, 1) := by decide +kernel
theorem dX11_insert_71 : decode cX11_insert 71 = .ok (.iadd, 1) := by decide +kernel
theorem dX11_insert_72 : decode cX11_insert 72 = .ok (.invokestatic 119, 3) := by decide +kernel
theorem dX11_insert_75 : decode cX11_insert 75 = .ok (.aload_n 0, 1) := by decide +kernel
theorem dX11_insert_76 : decode cX11_insert 76 = .ok (.getfield 10, 3) := by decide +kernel
theorem dX11_insert_79 : decode cX11_insert 79 = .ok (.iload_n 1, 1) := by decide +kernel
theorem dX11_insert_80 : decode cX11_insert 80 = .ok (.iload_n 2, 1) := by decide +kernel
theorem dX11_insert_81 : decode cX11_insert 81 = .ok (.invokevirtual 122, 3) := by decide +kernel
theorem dX11_insert_84 : decode cX11_insert 84 = .ok (.iload 5, 2) := by decide +kernel
theorem dX11_insert_86 : decode cX11_insert 86 = .ok (.iload 6, 2) := by decide +kernel
theorem dX11_insert_88 : decode cX11_insert 88 = .ok (.invokestatic 125, 3) := by decide +kernel
theorem dX11_insert_91 : decode cX11_insert 91 = .ok (.isub, 1) := by decide +kernel
theorem dX11_insert_92 : decode cX11_insert 92 = .ok (.istore 8, 2) := by decide +kernel
theorem dX11_insert_94 : decode cX11_insert 94 = .ok (.aload 7, 2) := by decide +kernel
theorem dX11_insert_96 : decode cX11_insert 96 = .ok (.invokevirtual 114, 3) := by decide +kernel
theorem dX11_insert_99 : decode cX11_insert 99 = .ok (.bipush 16, 2) := by decide +kernel
theorem dX11_insert_101 : decode cX11_insert 101 = .ok (.if_icmp .ge 21, 3) := by decide +kernel
theorem dX11_insert_104 : decode cX11_insert 104 = .ok (.iload 8, 2) := by decide +kernel
theorem dX11_insert_106 : decode cX11_insert 106 = .ok (.ifCond .lt 16, 3) := by decide +kernel
theorem dX11_insert_109 : decode cX11_insert 109 = .ok (.aload_n 0, 1) := by decide +kernel
theorem dX11_insert_110 : decode cX11_insert 110 = .ok (.getfield 10, 3) := by decide +kernel
theorem dX11_insert_113 : decode cX11_insert 113 = .ok (.iload_n 1, 1) := by decide +kernel
theorem dX11_insert_114 : decode cX11_insert 114 = .ok (.iload 4, 2) := by decide +kernel
theorem dX11_insert_116 : decode cX11_insert 116 = .ok (.invokevirtual 128, 3) := by decide +kernel
theorem dX11_insert_119 : decode cX11_insert 119 = .ok (.ifCond .ne 13, 3) := by decide +kernel
theorem dX11_insert_122 : decode cX11_insert 122 = .ok (.new 37, 3) := by decide +kernel
theorem dX11_insert_125 : decode cX11_insert 125 = .ok (.dup, 1) := by decide +kernel
theorem dX11_insert_126 : decode cX11_insert 126 = .ok (.ldc 132, 2) := by decide +kernel
theorem dX11_insert_128 : decode cX11_insert 128 = .ok (.invokespecial 41, 3) := by decide +kernel
theorem dX11_insert_131 : decode cX11_insert 131 = .ok (.athrow, 1) := by decide +kernel
theorem dX11_insert_132 : decode cX11_insert 132 = .ok (.aload 7, 2) := by decide +kernel
theorem dX11_insert_134 : decode cX11_insert 134 = .ok (.iload_n 3, 1) := by decide +kernel
theorem dX11_insert_135 : decode cX11_insert 135 = .ok (.new 126, 3) := by decide +kernel
theorem dX11_insert_138 : decode cX11_insert 138 = .ok (.dup, 1) := by decide +kernel
theorem dX11_insert_139 : decode cX11_insert 139 = .ok (.iload 4, 2) := by decide +kernel
theorem dX11_insert_141 : decode cX11_insert 141 = .ok (.iload 5, 2) := by decide +kernel
theorem dX11_insert_143 : decode cX11_insert 143 = .ok (.iload 6, 2) := by decide +kernel
theorem dX11_insert_145 : decode cX11_insert 145 = .ok (.invokespecial 134, 3) := by decide +kernel
theorem dX11_insert_148 : decode cX11_insert 148 = .ok (.invokevirtual 136, 3) := by decide +kernel
theorem dX11_insert_151 : decode cX11_insert 151 = .ok (.aload_n 0, 1) := by decide +kernel
theorem dX11_insert_152 : decode cX11_insert 152 = .ok (.getfield 10, 3) := by decide +kernel
theorem dX11_insert_155 : decode cX11_insert 155 = .ok (.dup, 1) := by decide +kernel
theorem dX11_insert_156 : decode cX11_insert 156 = .ok (.getfield 58, 3) := by decide +kernel
theorem dX11_insert_159 : decode cX11_insert 159 = .ok (.iconst 1, 1) := by decide +kernel
theorem dX11_insert_160 : decode cX11_insert 160 = .ok (.iadd, 1) := by decide +kernel
theorem dX11_insert_161 : decode cX11_insert 161 = .ok (.putfield 58, 3) := by decide +kernel
theorem dX11_insert_164 : decode cX11_insert 164 = .ok (.iload 8, 2) := by decide +kernel
theorem dX11_insert_166 : decode cX11_insert 166 = .ok (.ireturn, 1) := by decide +kernel
theorem dX11_remove_0 : decode cX11_remove 0 = .ok (.aload_n 0, 1) := by decide +kernel
theorem dX11_remove_1 : decode cX11_remove 1 = .ok (.iload_n 1, 1) := by decide +kernel
theorem dX11_remove_2 : decode cX11_remove 2 = .ok (.iload_n 2, 1) := by decide +kernel
theorem dX11_remove_3 : decode cX11_remove 3 = .ok (.iload_n 3, 1) := by decide +kernel
theorem dX11_remove_4 : decode cX11_remove 4 = .ok (.invokevirtual 140, 3) := by decide +kernel
theorem dX11_remove_7 : decode cX11_remove 7 = .ok (.astore 4, 2) := by decide +kernel
theorem dX11_remove_9 : decode cX11_remove 9 = .ok (.aload_n 0, 1) := by decide +kernel
theorem dX11_remove_10 : decode cX11_remove 10 = .ok (.getfield 10, 3) := by decide +kernel
theorem dX11_remove_13 : decode cX11_remove 13 = .ok (.iload_n 1, 1) := by decide +kernel
theorem dX11_remove_14 : decode cX11_remove 14 = .ok (.iload_n 2, 1) := by decide +kernel
theorem dX11_remove_15 : decode cX11_remove 15 = .ok (.invokevirtual 110, 3) := by decide +kernel
theorem dX11_remove_18 : decode cX11_remove 18 = .ok (.iload_n 3, 1) := by decide +kernel
theorem dX11_remove_19 : decode cX11_remove 19 = .ok (.invokevirtual 144, 3) := by decide +kernel
theorem dX11_remove_22 : decode cX11_remove 22 = .ok (.aload_n 0, 1) := by decide +kernel
theorem dX11_remove_23 : decode cX11_remove 23 = .ok (.getfield 10, 3) := by decide +kernel
theorem dX11_remove_26 : decode cX11_remove 26 = .ok (.aload 4, 2) := by decide +kernel
theorem dX11_remove_28 : decode cX11_remove 28 = .ok (.invokevirtual 147, 3) := by decide +kernel
theorem dX11_remove_31 : decode cX11_remove 31 = .ok (.aload_n 0, 1) := by decide +kernel
theorem dX11_remove_32 : decode cX11_remove 32 = .ok (.getfield 10, 3) := by decide +kernel
theorem dX11_remove_35 : decode cX11_remove 35 = .ok (.dup, 1) := by decide +kernel
theorem dX11_remove_36 : decode cX11_remove 36 = .ok (.getfield 58, 3) := by decide +kernel
theorem dX11_remove_39 : decode cX11_remove 39 = .ok (.iconst 1, 1) := by decide +kernel
theorem dX11_remove_40 : decode cX11_remove 40 = .ok (.iadd, 1) := by decide +kernel
theorem dX11_remove_41 : decode cX11_remove 41 = .ok (.putfield 58, 3) := by decide +kernel
theorem dX11_remove_44 : decode cX11_remove 44 = .ok (.aload 4, 2) := by decide +kernel
theorem dX11_remove_46 : decode cX11_remove 46 = .ok (.getfield 151, 3) := by decide +kernel
theorem dX11_remove_49 : decode cX11_remove 49 = .ok (.ireturn, 1) := by decide +kernel
theorem dX11_setPitch_0 : decode cX11_setPitch 0 = .ok (.iload 4, 2) := by decide +kernel
theorem dX11_setPitch_2 : decode cX11_setPitch 2 = .ok (.iconst 0, 1) := by decide +kernel
theorem dX11_setPitch_3 : decode cX11_setPitch 3 = .ok (.bipush 127, 2) := by decide +kernel
theorem dX11_setPitch_5 : decode cX11_setPitch 5 = .ok (.invokestatic 88, 3) := by decide +kernel
theorem dX11_setPitch_8 : decode cX11_setPitch 8 = .ok (.aload_n 0, 1) := by decide +kernel
theorem dX11_setPitch_9 : decode cX11_setPitch 9 = .ok (.iload_n 1, 1) := by decide +kernel
theorem dX11_setPitch_10 : decode cX11_setPitch 10 = .ok (.iload_n 2, 1) := by decide +kernel
theorem dX11_setPitch_11 : decode cX11_setPitch 11 = .ok (.iload_n 3, 1) := by decide +kernel
theorem dX11_setPitch_12 : decode cX11_setPitch 12 = .ok (.invokevirtual 140, 3) := by decide +kernel
theorem dX11_setPitch_15 : decode cX11_setPitch 15 = .ok (.astore 5, 2) := by decide +kernel
theorem dX11_setPitch_17 : decode cX11_setPitch 17 = .ok (.aload_n 0, 1) := by decide +kernel
theorem dX11_setPitch_18 : decode cX11_setPitch 18 = .ok (.getfield 10, 3) := by decide +kernel
theorem dX11_setPitch_21 : decode cX11_setPitch 21 = .ok (.iload_n 1, 1) := by decide +kernel
theorem dX11_setPitch_22 : decode cX11_setPitch 22 = .ok (.iload 4, 2) := by decide +kernel
theorem dX11_setPitch_24 : decode cX11_setPitch 24 = .ok (.invokevirtual 128, 3) := by decide +kernel
theorem dX11_setPitch_27 : decode cX11_setPitch 27 = .ok (.ifCond .ne 13, 3) := by decide +kernel
theorem dX11_setPitch_30 : decode cX11_setPitch 30 = .ok (.new 37, 3) := by decide +kernel
theorem dX11_setPitch_33 : decode cX11_setPitch 33 = .ok (.dup, 1) := by decide +kernel
theorem dX11_setPitch_34 : decode cX11_setPitch 34 = .ok (.ldc 153, 2) := by decide +kernel
theorem dX11_setPitch_36 : decode cX11_setPitch 36 = .ok (.invokespecial 41, 3) := by decide +kernel
theorem dX11_setPitch_39 : decode cX11_setPitch 39 = .ok (.athrow, 1) := by decide +kernel
theorem dX11_setPitch_40 : decode cX11_setPitch 40 = .ok (.aload 5, 2) := by decide +kernel
theorem dX11_setPitch_42 : decode cX11_setPitch 42 = .ok (.getfield 155, 3) := by decide +kernel
theorem dX11_setPitch_45 : decode cX11_setPitch 45 = .ok (.istore 6, 2) := by decide +kernel
theorem dX11_setPitch_47 : decode cX11_setPitch 47 = .ok (.aload 5, 2) := by decide +kernel
theorem dX11_setPitch_49 : decode cX11_setPitch 49 = .ok (.iload 4, 2) := by decide +kernel
theorem dX11_setPitch_51 : decode cX11_setPitch 51 = .ok (.putfield 155, 3) := by decide +kernel
theorem dX11_setPitch_54 : decode cX11_setPitch 54 = .ok (.aload 5, 2) := by decide +kernel
theorem dX11_setPitch_56 : decode cX11_setPitch 56 = .ok (.aload 5, 2) := by decide +kernel
theorem dX11_setPitch_58 : decode cX11_setPitch 58 = .ok (.getfield 158, 3) := by decide +kernel
theorem dX11_setPitch_61 : decode cX11_setPitch 61 = .ok (.ifCond .eq 15, 3) := by decide +kernel
theorem dX11_setPitch_64 : decode cX11_setPitch 64 = .ok (.aload 5, 2) := by decide +kernel
theorem dX11_setPitch_66 : decode cX11_setPitch 66 = .ok (.invokevirtual 162, 3) := by decide +kernel
theorem dX11_setPitch_69 : decode cX11_setPitch 69 = .ok (.ifCond .eq 7, 3) := by decide +kernel
theorem dX11_setPitch_72 : decode cX11_setPitch 72 = .ok (.iconst 1, 1) := by decide +kernel
theorem dX11_setPitch_73 : decode cX11_setPitch 73 = .ok (.goto 4, 3) := by decide +kernel
theorem dX11_setPitch_76 : decode cX11_setPitch 76 = .ok (.iconst 0, 1) := by decide +kernel
theorem dX11_setPitch_77 : decode cX11_setPitch 77 = .ok (.putfield 158, 3) := by decide +kernel
theorem dX11_setPitch_80 : decode cX11_setPitch 80 = .ok (.aload_n 0, 1) := by decide +kernel
theorem dX11_setPitch_81 : decode cX11_setPitch 81 = .ok (.getfield 10, 3) := by decide +kernel
theorem dX11_setPitch_84 : decode cX11_setPitch 84 = .ok (.dup, 1) := by decide +kernel
theorem dX11_setPitch_85 : decode cX11_setPitch 85 = .ok (.getfield 58, 3) := by decide +kernel
theorem dX11_setPitch_88 : decode cX11_setPitch 88 = .ok (.iconst 1, 1) := by decide +kernel
theorem dX11_setPitch_89 : decode cX11_setPitch 89 = .ok (.iadd, 1) := by decide +kernel
theorem dX11_setPitch_90 : decode cX11_setPitch 90 = .ok (.putfield 58, 3) := by decide +kernel
theorem dX11_setPitch_93 : decode cX11_setPitch 93 = .ok (.iload 6, 2) := by decide +kernel
theorem dX11_setPitch_95 : decode cX11_setPitch 95 = .ok (.ireturn, 1) := by decide +kernel
theorem dX11_setTie_0 : decode cX11_setTie 0 = .ok (.aload_n 0, 1) := by decide +kernel
theorem dX11_setTie_1 : decode cX11_setTie 1 = .ok (.iload_n 1, 1) := by decide +kernel
theorem dX11_setTie_2 : decode cX11_setTie 2 = .ok (.iload_n 2, 1) := by decide +kernel
theorem dX11_setTie_3 : decode cX11_setTie 3 = .ok (.iload_n 3, 1) := by decide +kernel
theorem dX11_setTie_4 : decode cX11_setTie 4 = .ok (.invokevirtual 140, 3) := by decide +kernel
theorem dX11_setTie_7 : decode cX11_setTie 7 = .ok (.astore 5, 2) := by decide +kernel
theorem dX11_setTie_9 : decode cX11_setTie 9 = .ok (.aload 5, 2) := by decide +kernel
theorem dX11_setTie_11 : decode cX11_setTie 11 = .ok (.invokevirtual 162, 3) := by decide +kernel
theorem dX11_setTie_14 : decode cX11_setTie 14 = .ok (.ifCond .ne 13, 3) := by decide +kernel
theorem dX11_setTie_17 : decode cX11_setTie 17 = .ok (.new 37, 3) := by decide +kernel
theorem dX11_setTie_20 : decode cX11_setTie 20 = .ok (.dup, 1) := by decide +kernel
theorem dX11_setTie_21 : decode cX11_setTie 21 = .ok (.ldc 166, 2) := by decide +kernel
theorem dX11_setTie_23 : decode cX11_setTie 23 = .ok (.invokespecial 41, 3) := by decide +kernel
theorem dX11_setTie_26 : decode cX11_setTie 26 = .ok (.athrow, 1) := by decide +kernel
theorem dX11_setTie_27 : decode cX11_setTie 27 = .ok (.aload 5, 2) := by decide +kernel
theorem dX11_setTie_29 : decode cX11_setTie 29 = .ok (.getfield 158, 3) := by decide +kernel
theorem dX11_setTie_32 : decode cX11_setTie 32 = .ok (.istore 6, 2) := by decide +kernel
theorem dX11_setTie_34 : decode cX11_setTie 34 = .ok (.aload 5, 2) := by decide +kernel
theorem dX11_setTie_36 : decode cX11_setTie 36 = .ok (.iload 4, 2) := by decide +kernel
theorem dX11_setTie_38 : decode cX11_setTie 38 = .ok (.putfield 158, 3) := by decide +kernel
theorem dX11_setTie_41 : decode cX11_setTie 41 = .ok (.aload_n 0, 1) := by decide +kernel
theorem dX11_setTie_42 : decode cX11_setTie 42 = .ok (.getfield 10, 3) := by decide +kernel
theorem dX11_setTie_45 : decode cX11_setTie 45 = .ok (.dup, 1) := by decide +kernel
theorem dX11_setTie_46 : decode cX11_setTie 46 = .ok (.getfield 58, 3) := by decide +kernel
theorem dX11_setTie_49 : decode cX11_setTie 49 = .ok (.iconst 1, 1) := by decide +kernel
theorem dX11_setTie_50 : decode cX11_setTie 50 = .ok (.iadd, 1) := by decide +kernel
theorem dX11_setTie_51 : decode cX11_setTie 51 = .ok (.putfield 58, 3) := by decide +kernel
theorem dX11_setTie_54 : decode cX11_setTie 54 = .ok (.iload 6, 2) := by decide +kernel
theorem dX11_setTie_56 : decode cX11_setTie 56 = .ok (.ireturn, 1) := by decide +kernel
theorem dX11_setMark_0 : decode cX11_setMark 0 = .ok (.iload 4, 2) := by decide +kernel
theorem dX11_setMark_2 : decode cX11_setMark 2 = .ok (.iconst (-1), 1) := by decide +kernel
theorem dX11_setMark_3 : decode cX11_setMark 3 = .ok (.iconst 5, 1) := by decide +kernel
theorem dX11_setMark_4 : decode cX11_setMark 4 = .ok (.invokestatic 88, 3) := by decide +kernel
theorem dX11_setMark_7 : decode cX11_setMark 7 = .ok (.aload_n 0, 1) := by decide +kernel
theorem dX11_setMark_8 : decode cX11_setMark 8 = .ok (.iload_n 1, 1) := by decide +kernel
theorem dX11_setMark_9 : decode cX11_setMark 9 = .ok (.iload_n 2, 1) := by decide +kernel
theorem dX11_setMark_10 : decode cX11_setMark 10 = .ok (.iload_n 3, 1) := by decide +kernel
theorem dX11_setMark_11 : decode cX11_setMark 11 = .ok (.invokevirtual 140, 3) := by decide +kernel
theorem dX11_setMark_14 : decode cX11_setMark 14 = .ok (.astore 5, 2) := by decide +kernel
theorem dX11_setMark_16 : decode cX11_setMark 16 = .ok (.aload 5, 2) := by decide +kernel
theorem dX11_setMark_18 : decode cX11_setMark 18 = .ok (.getfield 168, 3) := by decide +kernel
theorem dX11_setMark_21 : decode cX11_setMark 21 = .ok (.istore 6, 2) := by decide +kernel
theorem dX11_setMark_23 : decode cX11_setMark 23 = .ok (.aload 5, 2) := by decide +kernel
theorem dX11_setMark_25 : decode cX11_setMark 25 = .ok (.iload 4, 2) := by decide +kernel
theorem dX11_setMark_27 : decode cX11_setMark 27 = .ok (.putfield 168, 3) := by decide +kernel
theorem dX11_setMark_30 : decode cX11_setMark 30 = .ok (.aload_n 0, 1) := by decide +kernel
theorem dX11_setMark_31 : decode cX11_setMark 31 = .ok (.getfield 10, 3) := by decide +kernel
theorem dX11_setMark_34 : decode cX11_setMark 34 = .ok (.dup, 1) := by decide +kernel
theorem dX11_setMark_35 : decode cX11_setMark 35 = .ok (.getfield 58, 3) := by decide +kernel
theorem dX11_setMark_38 : decode cX11_setMark 38 = .ok (.iconst 1, 1) := by decide +kernel
theorem dX11_setMark_39 : decode cX11_setMark 39 = .ok (.iadd, 1) := by decide +kernel
theorem dX11_setMark_40 : decode cX11_setMark 40 = .ok (.putfield 58, 3) := by decide +kernel
theorem dX11_setMark_43 : decode cX11_setMark 43 = .ok (.iload 6, 2) := by decide +kernel
theorem dX11_setMark_45 : decode cX11_setMark 45 = .ok (.ireturn, 1) := by decide +kernel
theorem dX11_transpose_0 : decode cX11_transpose 0 = .ok (.iload_n 1, 1) := by decide +kernel
theorem dX11_transpose_1 : decode cX11_transpose 1 = .ok (.invokestatic 102, 3) := by decide +kernel
theorem dX11_transpose_4 : decode cX11_transpose 4 = .ok (.iload_n 2, 1) := by decide +kernel
theorem dX11_transpose_5 : decode cX11_transpose 5 = .ok (.bipush (-12), 2) := by decide +kernel
theorem dX11_transpose_7 : decode cX11_transpose 7 = .ok (.bipush 12, 2) := by decide +kernel
theorem dX11_transpose_9 : decode cX11_transpose 9 = .ok (.invokestatic 88, 3) := by decide +kernel
theorem dX11_transpose_12 : decode cX11_transpose 12 = .ok (.aload_n 0, 1) := by decide +kernel
theorem dX11_transpose_13 : decode cX11_transpose 13 = .ok (.getfield 10, 3) := by decide +kernel
theorem dX11_transpose_16 : decode cX11_transpose 16 = .ok (.iload_n 1, 1) := by decide +kernel
theorem dX11_transpose_17 : decode cX11_transpose 17 = .ok (.iload_n 2, 1) := by decide +kernel
theorem dX11_transpose_18 : decode cX11_transpose 18 = .ok (.invokevirtual 171, 3) := by decide +kernel
theorem dX11_transpose_21 : decode cX11_transpose 21 = .ok (.ifCond .ne 13, 3) := by decide +kernel
theorem dX11_transpose_24 : decode cX11_transpose 24 = .ok (.new 37, 3) := by decide +kernel
theorem dX11_transpose_27 : decode cX11_transpose 27 = .ok (.dup, 1) := by decide +kernel
theorem dX11_transpose_28 : decode cX11_transpose 28 = .ok (.ldc 174, 2) := by decide +kernel
theorem dX11_transpose_30 : decode cX11_transpose 30 = .ok (.invokespecial 41, 3) := by decide +kernel
theorem dX11_transpose_33 : decode cX11_transpose 33 = .ok (.athrow, 1) := by decide +kernel
theorem dX11_transpose_34 : decode cX11_transpose 34 = .ok (.aload_n 0, 1) := by decide +kernel
theorem dX11_transpose_35 : decode cX11_transpose 35 = .ok (.getfield 10, 3) := by decide +kernel
theorem dX11_transpose_38 : decode cX11_transpose 38 = .ok (.getfield 176, 3) := by decide +kernel
theorem dX11_transpose_41 : decode cX11_transpose 41 = .ok (.iload_n 1, 1) := by decide +kernel
theorem dX11_transpose_42 : decode cX11_transpose 42 = .ok (.iaload, 1) := by decide +kernel
theorem dX11_transpose_43 : decode cX11_transpose 43 = .ok (.istore_n 3, 1) := by decide +kernel
theorem dX11_transpose_44 : decode cX11_transpose 44 = .ok (.aload_n 0, 1) := by decide +kernel
theorem dX11_transpose_45 : decode cX11_transpose 45 = .ok (.getfield 10, 3) := by decide +kernel
theorem dX11_transpose_48 : decode cX11_transpose 48 = .ok (.getfield 176, 3) := by decide +kernel
theorem dX11_transpose_51 : decode cX11_transpose 51 = .ok (.iload_n 1, 1) := by decide +kernel
theorem dX11_transpose_52 : decode cX11_transpose 52 = .ok (.iload_n 2, 1) := by decide +kernel
theorem dX11_transpose_53 : decode cX11_transpose 53 = .ok (.iastore, 1) := by decide +kernel
theorem dX11_transpose_54 : decode cX11_transpose 54 = .ok (.aload_n 0, 1) := by decide +kernel
theorem dX11_transpose_55 : decode cX11_transpose 55 = .ok (.getfield 10, 3) := by decide +kernel
theorem dX11_transpose_58 : decode cX11_transpose 58 = .ok (.dup, 1) := by decide +kernel
theorem dX11_transpose_59 : decode cX11_transpose 59 = .ok (.getfield 58, 3) := by decide +kernel
theorem dX11_transpose_62 : decode cX11_transpose 62 = .ok (.iconst 1, 1) := by decide +kernel
theorem dX11_transpose_63 : decode cX11_transpose 63 = .ok (.iadd, 1) := by decide +kernel
theorem dX11_transpose_64 : decode cX11_transpose 64 = .ok (.putfield 58, 3) := by decide +kernel
theorem dX11_transpose_67 : decode cX11_transpose 67 = .ok (.iload_n 3, 1) := by decide +kernel
theorem dX11_transpose_68 : decode cX11_transpose 68 = .ok (.ireturn, 1) := by decide +kernel
theorem dX11_events_0 : decode cX11_events 0 = .ok (.iload_n 1, 1) := by decide +kernel
theorem dX11_events_1 : decode cX11_events 1 = .ok (.invokestatic 102, 3) := by decide +kernel
theorem dX11_events_4 : decode cX11_events 4 = .ok (.aload_n 0, 1) := by decide +kernel
theorem dX11_events_5 : decode cX11_events 5 = .ok (.iload_n 2, 1) := by decide +kernel
theorem dX11_events_6 : decode cX11_events 6 = .ok (.invokevirtual 62, 3) := by decide +kernel
theorem dX11_events_9 : decode cX11_events 9 = .ok (.aload_n 0, 1) := by decide +kernel
theorem dX11_events_10 : decode cX11_events 10 = .ok (.getfield 10, 3) := by decide +kernel
theorem dX11_events_13 : decode cX11_events 13 = .ok (.iload_n 1, 1) := by decide +kernel
theorem dX11_events_14 : decode cX11_events 14 = .ok (.iload_n 2, 1) := by decide +kernel
theorem dX11_events_15 : decode cX11_events 15 = .ok (.invokevirtual 110, 3) := by decide +kernel
theorem dX11_events_18 : decode cX11_events 18 = .ok (.invokevirtual 114, 3) := by decide +kernel
theorem dX11_events_21 : decode cX11_events 21 = .ok (.ireturn, 1) := by decide +kernel
theorem dX11_left_0 : decode cX11_left 0 = .ok (.iload_n 1, 1) := by decide +kernel
theorem dX11_left_1 : decode cX11_left 1 = .ok (.invokestatic 102, 3) := by decide +kernel
theorem dX11_left_4 : decode cX11_left 4 = .ok (.aload_n 0, 1) := by decide +kernel
theorem dX11_left_5 : decode cX11_left 5 = .ok (.iload_n 2, 1) := by decide +kernel
theorem dX11_left_6 : decode cX11_left 6 = .ok (.invokevirtual 62, 3) := by decide +kernel
theorem dX11_left_9 : decode cX11_left 9 = .ok (.aload_n 0, 1) := by decide +kernel
theorem dX11_left_10 : decode cX11_left 10 = .ok (.getfield 10, 3) := by decide +kernel
theorem dX11_left_13 : decode cX11_left 13 = .ok (.iload_n 1, 1) := by decide +kernel
theorem dX11_left_14 : decode cX11_left 14 = .ok (.iload_n 2, 1) := by decide +kernel
theorem dX11_left_15 : decode cX11_left 15 = .ok (.invokevirtual 122, 3) := by decide +kernel
theorem dX11_left_18 : decode cX11_left 18 = .ok (.ireturn, 1) := by decide +kernel
theorem dX11_isRight_0 : decode cX11_isRight 0 = .ok (.iload_n 1, 1) := by decide +kernel
theorem dX11_isRight_1 : decode cX11_isRight 1 = .ok (.invokestatic 102, 3) := by decide +kernel
theorem dX11_isRight_4 : decode cX11_isRight 4 = .ok (.aload_n 0, 1) := by decide +kernel
theorem dX11_isRight_5 : decode cX11_isRight 5 = .ok (.iload_n 2, 1) := by decide +kernel
theorem dX11_isRight_6 : decode cX11_isRight 6 = .ok (.invokevirtual 62, 3) := by decide +kernel
theorem dX11_isRight_9 : decode cX11_isRight 9 = .ok (.aload_n 0, 1) := by decide +kernel
theorem dX11_isRight_10 : decode cX11_isRight 10 = .ok (.getfield 10, 3) := by decide +kernel
theorem dX11_isRight_13 : decode cX11_isRight 13 = .ok (.iload_n 1, 1) := by decide +kernel
theorem dX11_isRight_14 : decode cX11_isRight 14 = .ok (.iload_n 2, 1) := by decide +kernel
theorem dX11_isRight_15 : decode cX11_isRight 15 = .ok (.invokevirtual 180, 3) := by decide +kernel
theorem dX11_isRight_18 : decode cX11_isRight 18 = .ok (.ireturn, 1) := by decide +kernel
theorem dX11_written_0 : decode cX11_written 0 = .ok (.aload_n 0, 1) := by decide +kernel
theorem dX11_written_1 : decode cX11_written 1 = .ok (.iload_n 1, 1) := by decide +kernel
theorem dX11_written_2 : decode cX11_written 2 = .ok (.iload_n 2, 1) := by decide +kernel
theorem dX11_written_3 : decode cX11_written 3 = .ok (.iload_n 3, 1) := by decide +kernel
theorem dX11_written_4 : decode cX11_written 4 = .ok (.invokevirtual 140, 3) := by decide +kernel
theorem dX11_written_7 : decode cX11_written 7 = .ok (.astore 4, 2) := by decide +kernel
theorem dX11_written_9 : decode cX11_written 9 = .ok (.aload 4, 2) := by decide +kernel
theorem dX11_written_11 : decode cX11_written 11 = .ok (.invokevirtual 162, 3) := by decide +kernel
theorem dX11_written_14 : decode cX11_written 14 = .ok (.ifCond .eq 21, 3) := by decide +kernel
theorem dX11_written_17 : decode cX11_written 17 = .ok (.aload 4, 2) := by decide +kernel
theorem dX11_written_19 : decode cX11_written 19 = .ok (.getfield 155, 3) := by decide +kernel
theorem dX11_written_22 : decode cX11_written 22 = .ok (.aload_n 0, 1) := by decide +kernel
theorem dX11_written_23 : decode cX11_written 23 = .ok (.getfield 10, 3) := by decide +kernel
theorem dX11_written_26 : decode cX11_written 26 = .ok (.getfield 176, 3) := by decide +kernel
theorem dX11_written_29 : decode cX11_written 29 = .ok (.iload_n 1, 1) := by decide +kernel
theorem dX11_written_30 : decode cX11_written 30 = .ok (.iaload, 1) := by decide +kernel
theorem dX11_written_31 : decode cX11_written 31 = .ok (.iadd, 1) := by decide +kernel
theorem dX11_written_32 : decode cX11_written 32 = .ok (.goto 4, 3) := by decide +kernel
theorem dX11_written_35 : decode cX11_written 35 = .ok (.iconst (-1), 1) := by decide +kernel
theorem dX11_written_36 : decode cX11_written 36 = .ok (.ireturn, 1) := by decide +kernel
theorem dX11_addPhrase_0 : decode cX11_addPhrase 0 = .ok (.aload_n 0, 1) := by decide +kernel
theorem dX11_addPhrase_1 : decode cX11_addPhrase 1 = .ok (.iload_n 1, 1) := by decide +kernel
theorem dX11_addPhrase_2 : decode cX11_addPhrase 2 = .ok (.iload_n 2, 1) := by decide +kernel
theorem dX11_addPhrase_3 : decode cX11_addPhrase 3 = .ok (.iload_n 3, 1) := by decide +kernel
theorem dX11_addPhrase_4 : decode cX11_addPhrase 4 = .ok (.invokevirtual 140, 3) := by decide +kernel
theorem dX11_addPhrase_7 : decode cX11_addPhrase 7 = .ok (.astore 6, 2) := by decide +kernel
theorem dX11_addPhrase_9 : decode cX11_addPhrase 9 = .ok (.aload_n 0, 1) := by decide +kernel
theorem dX11_addPhrase_10 : decode cX11_addPhrase 10 = .ok (.iload_n 1, 1) := by decide +kernel
theorem dX11_addPhrase_11 : decode cX11_addPhrase 11 = .ok (.iload 4, 2) := by decide +kernel
theorem dX11_addPhrase_13 : decode cX11_addPhrase 13 = .ok (.iload 5, 2) := by decide +kernel
theorem dX11_addPhrase_15 : decode cX11_addPhrase 15 = .ok (.invokevirtual 140, 3) := by decide +kernel
theorem dX11_addPhrase_18 : decode cX11_addPhrase 18 = .ok (.astore 7, 2) := by decide +kernel
theorem dX11_addPhrase_20 : decode cX11_addPhrase 20 = .ok (.iload 4, 2) := by decide +kernel
theorem dX11_addPhrase_22 : decode cX11_addPhrase 22 = .ok (.iload_n 2, 1) := by decide +kernel
theorem dX11_addPhrase_23 : decode cX11_addPhrase 23 = .ok (.if_icmp .gt 15, 3) := by decide +kernel
theorem dX11_addPhrase_26 : decode cX11_addPhrase 26 = .ok (.iload 4, 2) := by decide +kernel
theorem dX11_addPhrase_28 : decode cX11_addPhrase 28 = .ok (.iload_n 2, 1) := by decide +kernel
theorem dX11_addPhrase_29 : decode cX11_addPhrase 29 = .ok (.if_icmp .ne 13, 3) := by decide +kernel
theorem dX11_addPhrase_32 : decode cX11_addPhrase 32 = .ok (.iload 5, 2) := by decide +kernel
theorem dX11_addPhrase_34 : decode cX11_addPhrase 34 = .ok (.iload_n 3, 1) := by decide +kernel
theorem dX11_addPhrase_35 : decode cX11_addPhrase 35 = .ok (.if_icmp .le 7, 3) := by decide +kernel
theorem dX11_addPhrase_38 : decode cX11_addPhrase 38 = .ok (.iconst 1, 1) := by decide +kernel
theorem dX11_addPhrase_39 : decode cX11_addPhrase 39 = .ok (.goto 4, 3) := by decide +kernel
theorem dX11_addPhrase_42 : decode cX11_addPhrase 42 = .ok (.iconst 0, 1) := by decide +kernel
theorem dX11_addPhrase_43 : decode cX11_addPhrase 43 = .ok (.istore 8, 2) := by decide +kernel
theorem dX11_addPhrase_45 : decode cX11_addPhrase 45 = .ok (.iload 8, 2) := by decide +kernel
theorem dX11_addPhrase_47 : decode cX11_addPhrase 47 = .ok (.ifCond .eq 18, 3) := by decide +kernel
theorem dX11_addPhrase_50 : decode cX11_addPhrase 50 = .ok (.aload_n 0, 1) := by decide +kernel
theorem dX11_addPhrase_51 : decode cX11_addPhrase 51 = .ok (.getfield 10, 3) := by decide +kernel
theorem dX11_addPhrase_54 : decode cX11_addPhrase 54 = .ok (.getfield 183, 3) := by decide +kernel
theorem dX11_addPhrase_57 : decode cX11_addPhrase 57 = .ok (.invokevirtual 186, 3) := by decide +kernel
theorem dX11_addPhrase_60 : decode cX11_addPhrase 60 = .ok (.bipush 20, 2) := by decide +kernel
theorem dX11_addPhrase_62 : decode cX11_addPhrase 62 = .ok (.if_icmp .lt 13, 3) := by decide +kernel
theorem dX11_addPhrase_65 : decode cX11_addPhrase 65 = .ok (.new 37, 3) := by decide +kernel
theorem dX11_addPhrase_68 : decode cX11_addPhrase 68 = .ok (.dup, 1) := by decide +kernel
theorem dX11_addPhrase_69 : decode cX11_addPhrase 69 = .ok (.ldc 187, 2) := by decide +kernel
theorem dX11_addPhrase_71 : decode cX11_addPhrase 71 = .ok (.invokespecial 41, 3) := by decide +kernel
theorem dX11_addPhrase_74 : decode cX11_addPhrase 74 = .ok (.athrow, 1) := by decide +kernel
theorem dX11_addPhrase_75 : decode cX11_addPhrase 75 = .ok (.aload_n 0, 1) := by decide +kernel
theorem dX11_addPhrase_76 : decode cX11_addPhrase 76 = .ok (.getfield 10, 3) := by decide +kernel
theorem dX11_addPhrase_79 : decode cX11_addPhrase 79 = .ok (.getfield 183, 3) := by decide +kernel
theorem dX11_addPhrase_82 : decode cX11_addPhrase 82 = .ok (.new 189, 3) := by decide +kernel
theorem dX11_addPhrase_85 : decode cX11_addPhrase 85 = .ok (.dup, 1) := by decide +kernel
theorem dX11_addPhrase_86 : decode cX11_addPhrase 86 = .ok (.iload_n 1, 1) := by decide +kernel
theorem dX11_addPhrase_87 : decode cX11_addPhrase 87 = .ok (.iload_n 2, 1) := by decide +kernel
theorem dX11_addPhrase_88 : decode cX11_addPhrase 88 = .ok (.aload 6, 2) := by decide +kernel
theorem dX11_addPhrase_90 : decode cX11_addPhrase 90 = .ok (.iload 4, 2) := by decide +kernel
theorem dX11_addPhrase_92 : decode cX11_addPhrase 92 = .ok (.aload 7, 2) := by decide +kernel
theorem dX11_addPhrase_94 : decode cX11_addPhrase 94 = .ok (.invokespecial 191, 3) := by decide +kernel
theorem dX11_addPhrase_97 : decode cX11_addPhrase 97 = .ok (.invokevirtual 52, 3) := by decide +kernel
theorem dX11_addPhrase_100 : decode cX11_addPhrase 100 = .ok (.pop, 1) := by decide +kernel
theorem dX11_addPhrase_101 : decode cX11_addPhrase 101 = .ok (.aload_n 0, 1) := by decide +kernel
theorem dX11_addPhrase_102 : decode cX11_addPhrase 102 = .ok (.getfield 10, 3) := by decide +kernel
theorem dX11_addPhrase_105 : decode cX11_addPhrase 105 = .ok (.dup, 1) := by decide +kernel
theorem dX11_addPhrase_106 : decode cX11_addPhrase 106 = .ok (.getfield 58, 3) := by decide +kernel
theorem dX11_addPhrase_109 : decode cX11_addPhrase 109 = .ok (.iconst 1, 1) := by decide +kernel
theorem dX11_addPhrase_110 : decode cX11_addPhrase 110 = .ok (.iadd, 1) := by decide +kernel
theorem dX11_addPhrase_111 : decode cX11_addPhrase 111 = .ok (.putfield 58, 3) := by decide +kernel
theorem dX11_addPhrase_114 : decode cX11_addPhrase 114 = .ok (.aload_n 0, 1) := by decide +kernel
theorem dX11_addPhrase_115 : decode cX11_addPhrase 115 = .ok (.getfield 10, 3) := by decide +kernel
theorem dX11_addPhrase_118 : decode cX11_addPhrase 118 = .ok (.getfield 183, 3) := by decide +kernel
theorem dX11_addPhrase_121 : decode cX11_addPhrase 121 = .ok (.invokevirtual 186, 3) := by decide +kernel
theorem dX11_addPhrase_124 : decode cX11_addPhrase 124 = .ok (.iconst 1, 1) := by decide +kernel
theorem dX11_addPhrase_125 : decode cX11_addPhrase 125 = .ok (.isub, 1) := by decide +kernel
theorem dX11_addPhrase_126 : decode cX11_addPhrase 126 = .ok (.ireturn, 1) := by decide +kernel
theorem dX11_dropPhrase_0 : decode cX11_dropPhrase 0 = .ok (.iload_n 1, 1) := by decide +kernel
theorem dX11_dropPhrase_1 : decode cX11_dropPhrase 1 = .ok (.aload_n 0, 1) := by decide +kernel
theorem dX11_dropPhrase_2 : decode cX11_dropPhrase 2 = .ok (.getfield 10, 3) := by decide +kernel
theorem dX11_dropPhrase_5 : decode cX11_dropPhrase 5 = .ok (.getfield 183, 3) := by decide +kernel
theorem dX11_dropPhrase_8 : decode cX11_dropPhrase 8 = .ok (.invokevirtual 186, 3) := by decide +kernel
theorem dX11_dropPhrase_11 : decode cX11_dropPhrase 11 = .ok (.invokestatic 119, 3) := by decide +kernel
theorem dX11_dropPhrase_14 : decode cX11_dropPhrase 14 = .ok (.aload_n 0, 1) := by decide +kernel
theorem dX11_dropPhrase_15 : decode cX11_dropPhrase 15 = .ok (.getfield 10, 3) := by decide +kernel
theorem dX11_dropPhrase_18 : decode cX11_dropPhrase 18 = .ok (.getfield 183, 3) := by decide +kernel
theorem dX11_dropPhrase_21 : decode cX11_dropPhrase 21 = .ok (.iload_n 1, 1) := by decide +kernel
theorem dX11_dropPhrase_22 : decode cX11_dropPhrase 22 = .ok (.invokevirtual 194, 3) := by decide +kernel
theorem dX11_dropPhrase_25 : decode cX11_dropPhrase 25 = .ok (.checkcast 189, 3) := by decide +kernel
theorem dX11_dropPhrase_28 : decode cX11_dropPhrase 28 = .ok (.astore_n 2, 1) := by decide +kernel
theorem dX11_dropPhrase_29 : decode cX11_dropPhrase 29 = .ok (.aload_n 2, 1) := by decide +kernel
theorem dX11_dropPhrase_30 : decode cX11_dropPhrase 30 = .ok (.getfield 198, 3) := by decide +kernel
theorem dX11_dropPhrase_33 : decode cX11_dropPhrase 33 = .ok (.ifCond .ne 7, 3) := by decide +kernel
theorem dX11_dropPhrase_36 : decode cX11_dropPhrase 36 = .ok (.iconst 1, 1) := by decide +kernel
theorem dX11_dropPhrase_37 : decode cX11_dropPhrase 37 = .ok (.goto 4, 3) := by decide +kernel
theorem dX11_dropPhrase_40 : decode cX11_dropPhrase 40 = .ok (.iconst 0, 1) := by decide +kernel
theorem dX11_dropPhrase_41 : decode cX11_dropPhrase 41 = .ok (.istore_n 3, 1) := by decide +kernel
theorem dX11_dropPhrase_42 : decode cX11_dropPhrase 42 = .ok (.aload_n 2, 1) := by decide +kernel
theorem dX11_dropPhrase_43 : decode cX11_dropPhrase 43 = .ok (.iconst 1, 1) := by decide +kernel
theorem dX11_dropPhrase_44 : decode cX11_dropPhrase 44 = .ok (.putfield 198, 3) := by decide +kernel
theorem dX11_dropPhrase_47 : decode cX11_dropPhrase 47 = .ok (.aload_n 0, 1) := by decide +kernel
theorem dX11_dropPhrase_48 : decode cX11_dropPhrase 48 = .ok (.getfield 10, 3) := by decide +kernel
theorem dX11_dropPhrase_51 : decode cX11_dropPhrase 51 = .ok (.dup, 1) := by decide +kernel
theorem dX11_dropPhrase_52 : decode cX11_dropPhrase 52 = .ok (.getfield 58, 3) := by decide +kernel
theorem dX11_dropPhrase_55 : decode cX11_dropPhrase 55 = .ok (.iconst 1, 1) := by decide +kernel
theorem dX11_dropPhrase_56 : decode cX11_dropPhrase 56 = .ok (.iadd, 1) := by decide +kernel
theorem dX11_dropPhrase_57 : decode cX11_dropPhrase 57 = .ok (.putfield 58, 3) := by decide +kernel
theorem dX11_dropPhrase_60 : decode cX11_dropPhrase 60 = .ok (.iload_n 3, 1) := by decide +kernel
theorem dX11_dropPhrase_61 : decode cX11_dropPhrase 61 = .ok (.ireturn, 1) := by decide +kernel
theorem dX11_phrases_0 : decode cX11_phrases 0 = .ok (.aload_n 0, 1) := by decide +kernel
theorem dX11_phrases_1 : decode cX11_phrases 1 = .ok (.getfield 10, 3) := by decide +kernel
theorem dX11_phrases_4 : decode cX11_phrases 4 = .ok (.invokevirtual 201, 3) := by decide +kernel
theorem dX11_phrases_7 : decode cX11_phrases 7 = .ok (.ireturn, 1) := by decide +kernel
theorem dX11_allowTurn_0 : decode cX11_allowTurn 0 = .ok (.iload_n 1, 1) := by decide +kernel
theorem dX11_allowTurn_1 : decode cX11_allowTurn 1 = .ok (.invokestatic 102, 3) := by decide +kernel
theorem dX11_allowTurn_4 : decode cX11_allowTurn 4 = .ok (.aload_n 0, 1) := by decide +kernel
theorem dX11_allowTurn_5 : decode cX11_allowTurn 5 = .ok (.iload_n 2, 1) := by decide +kernel
theorem dX11_allowTurn_6 : decode cX11_allowTurn 6 = .ok (.invokevirtual 62, 3) := by decide +kernel
theorem dX11_allowTurn_9 : decode cX11_allowTurn 9 = .ok (.aload_n 0, 1) := by decide +kernel
theorem dX11_allowTurn_10 : decode cX11_allowTurn 10 = .ok (.getfield 10, 3) := by decide +kernel
theorem dX11_allowTurn_13 : decode cX11_allowTurn 13 = .ok (.iload_n 1, 1) := by decide +kernel
theorem dX11_allowTurn_14 : decode cX11_allowTurn 14 = .ok (.iload_n 2, 1) := by decide +kernel
theorem dX11_allowTurn_15 : decode cX11_allowTurn 15 = .ok (.invokevirtual 110, 3) := by decide +kernel
theorem dX11_allowTurn_18 : decode cX11_allowTurn 18 = .ok (.astore 4, 2) := by decide +kernel
theorem dX11_allowTurn_20 : decode cX11_allowTurn 20 = .ok (.aload 4, 2) := by decide +kernel
theorem dX11_allowTurn_22 : decode cX11_allowTurn 22 = .ok (.getfield 204, 3) := by decide +kernel
theorem dX11_allowTurn_25 : decode cX11_allowTurn 25 = .ok (.istore 5, 2) := by decide +kernel
theorem dX11_allowTurn_27 : decode cX11_allowTurn 27 = .ok (.aload 4, 2) := by decide +kernel
theorem dX11_allowTurn_29 : decode cX11_allowTurn 29 = .ok (.iload_n 3, 1) := by decide +kernel
theorem dX11_allowTurn_30 : decode cX11_allowTurn 30 = .ok (.putfield 204, 3) := by decide +kernel
theorem dX11_allowTurn_33 : decode cX11_allowTurn 33 = .ok (.aload_n 0, 1) := by decide +kernel
theorem dX11_allowTurn_34 : decode cX11_allowTurn 34 = .ok (.getfield 10, 3) := by decide +kernel
theorem dX11_allowTurn_37 : decode cX11_allowTurn 37 = .ok (.dup, 1) := by decide +kernel
theorem dX11_allowTurn_38 : decode cX11_allowTurn 38 = .ok (.getfield 58, 3) := by decide +kernel
theorem dX11_allowTurn_41 : decode cX11_allowTurn 41 = .ok (.iconst 1, 1) := by decide +kernel
theorem dX11_allowTurn_42 : decode cX11_allowTurn 42 = .ok (.iadd, 1) := by decide +kernel
theorem dX11_allowTurn_43 : decode cX11_allowTurn 43 = .ok (.putfield 58, 3) := by decide +kernel
theorem dX11_allowTurn_46 : decode cX11_allowTurn 46 = .ok (.iload 5, 2) := by decide +kernel
theorem dX11_allowTurn_48 : decode cX11_allowTurn 48 = .ok (.ireturn, 1) := by decide +kernel
theorem dX11_addRepeat_0 : decode cX11_addRepeat 0 = .ok (.aload_n 0, 1) := by decide +kernel
theorem dX11_addRepeat_1 : decode cX11_addRepeat 1 = .ok (.iload_n 1, 1) := by decide +kernel
theorem dX11_addRepeat_2 : decode cX11_addRepeat 2 = .ok (.invokevirtual 62, 3) := by decide +kernel
theorem dX11_addRepeat_5 : decode cX11_addRepeat 5 = .ok (.aload_n 0, 1) := by decide +kernel
theorem dX11_addRepeat_6 : decode cX11_addRepeat 6 = .ok (.iload_n 2, 1) := by decide +kernel
theorem dX11_addRepeat_7 : decode cX11_addRepeat 7 = .ok (.invokevirtual 62, 3) := by decide +kernel
theorem dX11_addRepeat_10 : decode cX11_addRepeat 10 = .ok (.iload_n 2, 1) := by decide +kernel
theorem dX11_addRepeat_11 : decode cX11_addRepeat 11 = .ok (.iload_n 1, 1) := by decide +kernel
theorem dX11_addRepeat_12 : decode cX11_addRepeat 12 = .ok (.if_icmp .ge 13, 3) := by decide +kernel
theorem dX11_addRepeat_15 : decode cX11_addRepeat 15 = .ok (.new 105, 3) := by decide +kernel
theorem dX11_addRepeat_18 : decode cX11_addRepeat 18 = .ok (.dup, 1) := by decide +kernel
theorem dX11_addRepeat_19 : decode cX11_addRepeat 19 = .ok (.ldc 207, 2) := by decide +kernel
theorem dX11_addRepeat_21 : decode cX11_addRepeat 21 = .ok (.invokespecial 109, 3) := by decide +kernel
theorem dX11_addRepeat_24 : decode cX11_addRepeat 24 = .ok (.athrow, 1) := by decide +kernel
theorem dX11_addRepeat_25 : decode cX11_addRepeat 25 = .ok (.iload_n 3, 1) := by decide +kernel
theorem dX11_addRepeat_26 : decode cX11_addRepeat 26 = .ok (.iconst 0, 1) := by decide +kernel
theorem dX11_addRepeat_27 : decode cX11_addRepeat 27 = .ok (.iload_n 2, 1) := by decide +kernel
theorem dX11_addRepeat_28 : decode cX11_addRepeat 28 = .ok (.iload_n 1, 1) := by decide +kernel
theorem dX11_addRepeat_29 : decode cX11_addRepeat 29 = .ok (.isub, 1) := by decide +kernel
theorem dX11_addRepeat_30 : decode cX11_addRepeat 30 = .ok (.invokestatic 88, 3) := by decide +kernel
theorem dX11_addRepeat_33 : decode cX11_addRepeat 33 = .ok (.aload_n 0, 1) := by decide +kernel
theorem dX11_addRepeat_34 : decode cX11_addRepeat 34 = .ok (.getfield 10, 3) := by decide +kernel
theorem dX11_addRepeat_37 : decode cX11_addRepeat 37 = .ok (.iload_n 1, 1) := by decide +kernel
theorem dX11_addRepeat_38 : decode cX11_addRepeat 38 = .ok (.iload_n 2, 1) := by decide +kernel
theorem dX11_addRepeat_39 : decode cX11_addRepeat 39 = .ok (.invokevirtual 209, 3) := by decide +kernel
theorem dX11_addRepeat_42 : decode cX11_addRepeat 42 = .ok (.ifCond .eq 13, 3) := by decide +kernel
theorem dX11_addRepeat_45 : decode cX11_addRepeat 45 = .ok (.new 37, 3) := by decide +kernel
theorem dX11_addRepeat_48 : decode cX11_addRepeat 48 = .ok (.dup, 1) := by decide +kernel
theorem dX11_addRepeat_49 : decode cX11_addRepeat 49 = .ok (.ldc 212, 2) := by decide +kernel
theorem dX11_addRepeat_51 : decode cX11_addRepeat 51 = .ok (.invokespecial 41, 3) := by decide +kernel
theorem dX11_addRepeat_54 : decode cX11_addRepeat 54 = .ok (.athrow, 1) := by decide +kernel
theorem dX11_addRepeat_55 : decode cX11_addRepeat 55 = .ok (.aload_n 0, 1) := by decide +kernel
theorem dX11_addRepeat_56 : decode cX11_addRepeat 56 = .ok (.getfield 10, 3) := by decide +kernel
theorem dX11_addRepeat_59 : decode cX11_addRepeat 59 = .ok (.getfield 214, 3) := by decide +kernel
theorem dX11_addRepeat_62 : decode cX11_addRepeat 62 = .ok (.new 217, 3) := by decide +kernel
theorem dX11_addRepeat_65 : decode cX11_addRepeat 65 = .ok (.dup, 1) := by decide +kernel
theorem dX11_addRepeat_66 : decode cX11_addRepeat 66 = .ok (.iload_n 1, 1) := by decide +kernel
theorem dX11_addRepeat_67 : decode cX11_addRepeat 67 = .ok (.iload_n 2, 1) := by decide +kernel
theorem dX11_addRepeat_68 : decode cX11_addRepeat 68 = .ok (.iload_n 3, 1) := by decide +kernel
theorem dX11_addRepeat_69 : decode cX11_addRepeat 69 = .ok (.invokespecial 219, 3) := by decide +kernel
theorem dX11_addRepeat_72 : decode cX11_addRepeat 72 = .ok (.invokevirtual 52, 3) := by decide +kernel
theorem dX11_addRepeat_75 : decode cX11_addRepeat 75 = .ok (.pop, 1) := by decide +kernel
theorem dX11_addRepeat_76 : decode cX11_addRepeat 76 = .ok (.aload_n 0, 1) := by decide +kernel
theorem dX11_addRepeat_77 : decode cX11_addRepeat 77 = .ok (.getfield 10, 3) := by decide +kernel
theorem dX11_addRepeat_80 : decode cX11_addRepeat 80 = .ok (.dup, 1) := by decide +kernel
theorem dX11_addRepeat_81 : decode cX11_addRepeat 81 = .ok (.getfield 58, 3) := by decide +kernel
theorem dX11_addRepeat_84 : decode cX11_addRepeat 84 = .ok (.iconst 1, 1) := by decide +kernel
theorem dX11_addRepeat_85 : decode cX11_addRepeat 85 = .ok (.iadd, 1) := by decide +kernel
theorem dX11_addRepeat_86 : decode cX11_addRepeat 86 = .ok (.putfield 58, 3) := by decide +kernel
theorem dX11_addRepeat_89 : decode cX11_addRepeat 89 = .ok (.aload_n 0, 1) := by decide +kernel
theorem dX11_addRepeat_90 : decode cX11_addRepeat 90 = .ok (.getfield 10, 3) := by decide +kernel
theorem dX11_addRepeat_93 : decode cX11_addRepeat 93 = .ok (.getfield 214, 3) := by decide +kernel
theorem dX11_addRepeat_96 : decode cX11_addRepeat 96 = .ok (.invokevirtual 186, 3) := by decide +kernel
theorem dX11_addRepeat_99 : decode cX11_addRepeat 99 = .ok (.ireturn, 1) := by decide +kernel
theorem dX11_dropRepeat_0 : decode cX11_dropRepeat 0 = .ok (.aload_n 0, 1) := by decide +kernel
theorem dX11_dropRepeat_1 : decode cX11_dropRepeat 1 = .ok (.iload_n 1, 1) := by decide +kernel
theorem dX11_dropRepeat_2 : decode cX11_dropRepeat 2 = .ok (.invokevirtual 62, 3) := by decide +kernel
theorem dX11_dropRepeat_5 : decode cX11_dropRepeat 5 = .ok (.aload_n 0, 1) := by decide +kernel
theorem dX11_dropRepeat_6 : decode cX11_dropRepeat 6 = .ok (.getfield 10, 3) := by decide +kernel
theorem dX11_dropRepeat_9 : decode cX11_dropRepeat 9 = .ok (.iload_n 1, 1) := by decide +kernel
theorem dX11_dropRepeat_10 : decode cX11_dropRepeat 10 = .ok (.invokevirtual 220, 3) := by decide +kernel
theorem dX11_dropRepeat_13 : decode cX11_dropRepeat 13 = .ok (.istore_n 2, 1) := by decide +kernel
theorem dX11_dropRepeat_14 : decode cX11_dropRepeat 14 = .ok (.iload_n 2, 1) := by decide +kernel
theorem dX11_dropRepeat_15 : decode cX11_dropRepeat 15 = .ok (.iconst (-1), 1) := by decide +kernel
theorem dX11_dropRepeat_16 : decode cX11_dropRepeat 16 = .ok (.if_icmp .ne 13, 3) := by decide +kernel
theorem dX11_dropRepeat_19 : decode cX11_dropRepeat 19 = .ok (.new 37, 3) := by decide +kernel
theorem dX11_dropRepeat_22 : decode cX11_dropRepeat 22 = .ok (.dup, 1) := by decide +kernel
theorem dX11_dropRepeat_23 : decode cX11_dropRepeat 23 = .ok (.ldc 223, 2) := by decide +kernel
theorem dX11_dropRepeat_25 : decode cX11_dropRepeat 25 = .ok (.invokespecial 41, 3) := by decide +kernel
theorem dX11_dropRepeat_28 : decode cX11_dropRepeat 28 = .ok (.athrow, 1) := by decide +kernel
theorem dX11_dropRepeat_29 : decode cX11_dropRepeat 29 = .ok (.aload_n 0, 1) := by decide +kernel
theorem dX11_dropRepeat_30 : decode cX11_dropRepeat 30 = .ok (.getfield 10, 3) := by decide +kernel
theorem dX11_dropRepeat_33 : decode cX11_dropRepeat 33 = .ok (.getfield 214, 3) := by decide +kernel
theorem dX11_dropRepeat_36 : decode cX11_dropRepeat 36 = .ok (.iload_n 2, 1) := by decide +kernel
theorem dX11_dropRepeat_37 : decode cX11_dropRepeat 37 = .ok (.invokevirtual 194, 3) := by decide +kernel
theorem dX11_dropRepeat_40 : decode cX11_dropRepeat 40 = .ok (.checkcast 217, 3) := by decide +kernel
theorem dX11_dropRepeat_43 : decode cX11_dropRepeat 43 = .ok (.getfield 225, 3) := by decide +kernel
theorem dX11_dropRepeat_46 : decode cX11_dropRepeat 46 = .ok (.istore_n 3, 1) := by decide +kernel
theorem dX11_dropRepeat_47 : decode cX11_dropRepeat 47 = .ok (.aload_n 0, 1) := by decide +kernel
theorem dX11_dropRepeat_48 : decode cX11_dropRepeat 48 = .ok (.getfield 10, 3) := by decide +kernel
theorem dX11_dropRepeat_51 : decode cX11_dropRepeat 51 = .ok (.getfield 214, 3) := by decide +kernel
theorem dX11_dropRepeat_54 : decode cX11_dropRepeat 54 = .ok (.iload_n 2, 1) := by decide +kernel
theorem dX11_dropRepeat_55 : decode cX11_dropRepeat 55 = .ok (.invokevirtual 228, 3) := by decide +kernel
theorem dX11_dropRepeat_58 : decode cX11_dropRepeat 58 = .ok (.pop, 1) := by decide +kernel
theorem dX11_dropRepeat_59 : decode cX11_dropRepeat 59 = .ok (.aload_n 0, 1) := by decide +kernel
theorem dX11_dropRepeat_60 : decode cX11_dropRepeat 60 = .ok (.getfield 10, 3) := by decide +kernel
theorem dX11_dropRepeat_63 : decode cX11_dropRepeat 63 = .ok (.dup, 1) := by decide +kernel
theorem dX11_dropRepeat_64 : decode cX11_dropRepeat 64 = .ok (.getfield 58, 3) := by decide +kernel
theorem dX11_dropRepeat_67 : decode cX11_dropRepeat 67 = .ok (.iconst 1, 1) := by decide +kernel
theorem dX11_dropRepeat_68 : decode cX11_dropRepeat 68 = .ok (.iadd, 1) := by decide +kernel
theorem dX11_dropRepeat_69 : decode cX11_dropRepeat 69 = .ok (.putfield 58, 3) := by decide +kernel
theorem dX11_dropRepeat_72 : decode cX11_dropRepeat 72 = .ok (.iload_n 3, 1) := by decide +kernel
theorem dX11_dropRepeat_73 : decode cX11_dropRepeat 73 = .ok (.ireturn, 1) := by decide +kernel
theorem dX11_places_0 : decode cX11_places 0 = .ok (.aload_n 0, 1) := by decide +kernel
theorem dX11_places_1 : decode cX11_places 1 = .ok (.invokevirtual 231, 3) := by decide +kernel
theorem dX11_places_4 : decode cX11_places 4 = .ok (.getfield 235, 3) := by decide +kernel
theorem dX11_places_7 : decode cX11_places 7 = .ok (.ireturn, 1) := by decide +kernel
theorem dX11_barAt_0 : decode cX11_barAt 0 = .ok (.iload_n 1, 1) := by decide +kernel
theorem dX11_barAt_1 : decode cX11_barAt 1 = .ok (.aload_n 0, 1) := by decide +kernel
theorem dX11_barAt_2 : decode cX11_barAt 2 = .ok (.invokevirtual 231, 3) := by decide +kernel
theorem dX11_barAt_5 : decode cX11_barAt 5 = .ok (.getfield 235, 3) := by decide +kernel
theorem dX11_barAt_8 : decode cX11_barAt 8 = .ok (.invokestatic 119, 3) := by decide +kernel
theorem dX11_barAt_11 : decode cX11_barAt 11 = .ok (.aload_n 0, 1) := by decide +kernel
theorem dX11_barAt_12 : decode cX11_barAt 12 = .ok (.getfield 19, 3) := by decide +kernel
theorem dX11_barAt_15 : decode cX11_barAt 15 = .ok (.getfield 238, 3) := by decide +kernel
theorem dX11_barAt_18 : decode cX11_barAt 18 = .ok (.iload_n 1, 1) := by decide +kernel
theorem dX11_barAt_19 : decode cX11_barAt 19 = .ok (.iaload, 1) := by decide +kernel
theorem dX11_barAt_20 : decode cX11_barAt 20 = .ok (.ireturn, 1) := by decide +kernel
theorem dX11_startOf_0 : decode cX11_startOf 0 = .ok (.iload_n 1, 1) := by decide +kernel
theorem dX11_startOf_1 : decode cX11_startOf 1 = .ok (.aload_n 0, 1) := by decide +kernel
theorem dX11_startOf_2 : decode cX11_startOf 2 = .ok (.invokevirtual 231, 3) := by decide +kernel
theorem dX11_startOf_5 : decode cX11_startOf 5 = .ok (.getfield 235, 3) := by decide +kernel
theorem dX11_startOf_8 : decode cX11_startOf 8 = .ok (.invokestatic 119, 3) := by decide +kernel
theorem dX11_startOf_11 : decode cX11_startOf 11 = .ok (.aload_n 0, 1) := by decide +kernel
theorem dX11_startOf_12 : decode cX11_startOf 12 = .ok (.getfield 19, 3) := by decide +kernel
theorem dX11_startOf_15 : decode cX11_startOf 15 = .ok (.getfield 241, 3) := by decide +kernel
theorem dX11_startOf_18 : decode cX11_startOf 18 = .ok (.iload_n 1, 1) := by decide +kernel
theorem dX11_startOf_19 : decode cX11_startOf 19 = .ok (.iaload, 1) := by decide +kernel
theorem dX11_startOf_20 : decode cX11_startOf 20 = .ok (.ireturn, 1) := by decide +kernel
theorem dX11_playingTime_0 : decode cX11_playingTime 0 = .ok (.aload_n 0, 1) := by decide +kernel
theorem dX11_playingTime_1 : decode cX11_playingTime 1 = .ok (.invokevirtual 231, 3) := by decide +kernel
theorem dX11_playingTime_4 : decode cX11_playingTime 4 = .ok (.getfield 244, 3) := by decide +kernel
theorem dX11_playingTime_7 : decode cX11_playingTime 7 = .ok (.ireturn, 1) := by decide +kernel
theorem dX11_timeByEvents_0 : decode cX11_timeByEvents 0 = .ok (.iload_n 1, 1) := by decide +kernel
theorem dX11_timeByEvents_1 : decode cX11_timeByEvents 1 = .ok (.invokestatic 102, 3) := by decide +kernel
theorem dX11_timeByEvents_4 : decode cX11_timeByEvents 4 = .ok (.aload_n 0, 1) := by decide +kernel
theorem dX11_timeByEvents_5 : decode cX11_timeByEvents 5 = .ok (.invokevirtual 231, 3) := by decide +kernel
theorem dX11_timeByEvents_8 : decode cX11_timeByEvents 8 = .ok (.aload_n 0, 1) := by decide +kernel
theorem dX11_timeByEvents_9 : decode cX11_timeByEvents 9 = .ok (.getfield 10, 3) := by decide +kernel
theorem dX11_timeByEvents_12 : decode cX11_timeByEvents 12 = .ok (.iload_n 1, 1) := by decide +kernel
theorem dX11_timeByEvents_13 : decode cX11_timeByEvents 13 = .ok (.invokevirtual 247, 3) := by decide +kernel
theorem dX11_timeByEvents_16 : decode cX11_timeByEvents 16 = .ok (.ireturn, 1) := by decide +kernel
theorem dX11_sounds_0 : decode cX11_sounds 0 = .ok (.aload_n 0, 1) := by decide +kernel
theorem dX11_sounds_1 : decode cX11_sounds 1 = .ok (.invokevirtual 231, 3) := by decide +kernel
theorem dX11_sounds_4 : decode cX11_sounds 4 = .ok (.getfield 251, 3) := by decide +kernel
theorem dX11_sounds_7 : decode cX11_sounds 7 = .ok (.ireturn, 1) := by decide +kernel
theorem dX11_soundVoice_0 : decode cX11_soundVoice 0 = .ok (.aload_n 0, 1) := by decide +kernel
theorem dX11_soundVoice_1 : decode cX11_soundVoice 1 = .ok (.iload_n 1, 1) := by decide +kernel
theorem dX11_soundVoice_2 : decode cX11_soundVoice 2 = .ok (.invokevirtual 254, 3) := by decide +kernel
theorem dX11_soundVoice_5 : decode cX11_soundVoice 5 = .ok (.getfield 258, 3) := by decide +kernel
theorem dX11_soundVoice_8 : decode cX11_soundVoice 8 = .ok (.ireturn, 1) := by decide +kernel
theorem dX11_soundStart_0 : decode cX11_soundStart 0 = .ok (.aload_n 0, 1) := by decide +kernel
theorem dX11_soundStart_1 : decode cX11_soundStart 1 = .ok (.iload_n 1, 1) := by decide +kernel
theorem dX11_soundStart_2 : decode cX11_soundStart 2 = .ok (.invokevirtual 254, 3) := by decide +kernel
theorem dX11_soundStart_5 : decode cX11_soundStart 5 = .ok (.getfield 263, 3) := by decide +kernel
theorem dX11_soundStart_8 : decode cX11_soundStart 8 = .ok (.ireturn, 1) := by decide +kernel
theorem dX11_soundTime_0 : decode cX11_soundTime 0 = .ok (.aload_n 0, 1) := by decide +kernel
theorem dX11_soundTime_1 : decode cX11_soundTime 1 = .ok (.iload_n 1, 1) := by decide +kernel
theorem dX11_soundTime_2 : decode cX11_soundTime 2 = .ok (.invokevirtual 254, 3) := by decide +kernel
theorem dX11_soundTime_5 : decode cX11_soundTime 5 = .ok (.astore_n 2, 1) := by decide +kernel
theorem dX11_soundTime_6 : decode cX11_soundTime 6 = .ok (.aload_n 2, 1) := by decide +kernel
theorem dX11_soundTime_7 : decode cX11_soundTime 7 = .ok (.getfield 266, 3) := by decide +kernel
theorem dX11_soundTime_10 : decode cX11_soundTime 10 = .ok (.aload_n 2, 1) := by decide +kernel
theorem dX11_soundTime_11 : decode cX11_soundTime 11 = .ok (.getfield 263, 3) := by decide +kernel
theorem dX11_soundTime_14 : decode cX11_soundTime 14 = .ok (.isub, 1) := by decide +kernel
theorem dX11_soundTime_15 : decode cX11_soundTime 15 = .ok (.ireturn, 1) := by decide +kernel
theorem dX11_soundPitch_0 : decode cX11_soundPitch 0 = .ok (.aload_n 0, 1) := by decide +kernel
theorem dX11_soundPitch_1 : decode cX11_soundPitch 1 = .ok (.iload_n 1, 1) := by decide +kernel
theorem dX11_soundPitch_2 : decode cX11_soundPitch 2 = .ok (.invokevirtual 254, 3) := by decide +kernel
theorem dX11_soundPitch_5 : decode cX11_soundPitch 5 = .ok (.getfield 267, 3) := by decide +kernel
theorem dX11_soundPitch_8 : decode cX11_soundPitch 8 = .ok (.ireturn, 1) := by decide +kernel
theorem dX11_loudness_0 : decode cX11_loudness 0 = .ok (.aload_n 0, 1) := by decide +kernel
theorem dX11_loudness_1 : decode cX11_loudness 1 = .ok (.iload_n 1, 1) := by decide +kernel
theorem dX11_loudness_2 : decode cX11_loudness 2 = .ok (.invokevirtual 254, 3) := by decide +kernel
theorem dX11_loudness_5 : decode cX11_loudness 5 = .ok (.getfield 268, 3) := by decide +kernel
theorem dX11_loudness_8 : decode cX11_loudness 8 = .ok (.ireturn, 1) := by decide +kernel
theorem dX11_setPaper_0 : decode cX11_setPaper 0 = .ok (.iload_n 1, 1) := by decide +kernel
theorem dX11_setPaper_1 : decode cX11_setPaper 1 = .ok (.bipush 40, 2) := by decide +kernel
theorem dX11_setPaper_3 : decode cX11_setPaper 3 = .ok (.sipush 400, 3) := by decide +kernel
theorem dX11_setPaper_6 : decode cX11_setPaper 6 = .ok (.invokestatic 88, 3) := by decide +kernel
theorem dX11_setPaper_9 : decode cX11_setPaper 9 = .ok (.iload_n 2, 1) := by decide +kernel
theorem dX11_setPaper_10 : decode cX11_setPaper 10 = .ok (.iconst 1, 1) := by decide +kernel
theorem dX11_setPaper_11 : decode cX11_setPaper 11 = .ok (.bipush 6, 2) := by decide +kernel
theorem dX11_setPaper_13 : decode cX11_setPaper 13 = .ok (.invokestatic 88, 3) := by decide +kernel
theorem dX11_setPaper_16 : decode cX11_setPaper 16 = .ok (.iload_n 3, 1) := by decide +kernel
theorem dX11_setPaper_17 : decode cX11_setPaper 17 = .ok (.iconst 0, 1) := by decide +kernel
theorem dX11_setPaper_18 : decode cX11_setPaper 18 = .ok (.sipush 20000, 3) := by decide +kernel
theorem dX11_setPaper_21 : decode cX11_setPaper 21 = .ok (.invokestatic 88, 3) := by decide +kernel
theorem dX11_setPaper_24 : decode cX11_setPaper 24 = .ok (.aload_n 0, 1) := by decide +kernel
theorem dX11_setPaper_25 : decode cX11_setPaper 25 = .ok (.getfield 10, 3) := by decide +kernel
theorem dX11_setPaper_28 : decode cX11_setPaper 28 = .ok (.iload_n 1, 1) := by decide +kernel
theorem dX11_setPaper_29 : decode cX11_setPaper 29 = .ok (.putfield 271, 3) := by decide +kernel
theorem dX11_setPaper_32 : decode cX11_setPaper 32 = .ok (.aload_n 0, 1) := by decide +kernel
theorem dX11_setPaper_33 : decode cX11_setPaper 33 = .ok (.getfield 10, 3) := by decide +kernel
theorem dX11_setPaper_36 : decode cX11_setPaper 36 = .ok (.iload_n 2, 1) := by decide +kernel
theorem dX11_setPaper_37 : decode cX11_setPaper 37 = .ok (.putfield 274, 3) := by decide +kernel
theorem dX11_setPaper_40 : decode cX11_setPaper 40 = .ok (.aload_n 0, 1) := by decide +kernel
theorem dX11_setPaper_41 : decode cX11_setPaper 41 = .ok (.getfield 10, 3) := by decide +kernel
theorem dX11_setPaper_44 : decode cX11_setPaper 44 = .ok (.iload_n 3, 1) := by decide +kernel
theorem dX11_setPaper_45 : decode cX11_setPaper 45 = .ok (.putfield 277, 3) := by decide +kernel
theorem dX11_setPaper_48 : decode cX11_setPaper 48 = .ok (.aload_n 0, 1) := by decide +kernel
theorem dX11_setPaper_49 : decode cX11_setPaper 49 = .ok (.getfield 10, 3) := by decide +kernel
theorem dX11_setPaper_52 : decode cX11_setPaper 52 = .ok (.dup, 1) := by decide +kernel
theorem dX11_setPaper_53 : decode cX11_setPaper 53 = .ok (.getfield 58, 3) := by decide +kernel
theorem dX11_setPaper_56 : decode cX11_setPaper 56 = .ok (.iconst 1, 1) := by decide +kernel
theorem dX11_setPaper_57 : decode cX11_setPaper 57 = .ok (.iadd, 1) := by decide +kernel
theorem dX11_setPaper_58 : decode cX11_setPaper 58 = .ok (.putfield 58, 3) := by decide +kernel
theorem dX11_setPaper_61 : decode cX11_setPaper 61 = .ok (.return_, 1) := by decide +kernel
theorem dX11_items_0 : decode cX11_items 0 = .ok (.aload_n 0, 1) := by decide +kernel
theorem dX11_items_1 : decode cX11_items 1 = .ok (.iload_n 1, 1) := by decide +kernel
theorem dX11_items_2 : decode cX11_items 2 = .ok (.invokevirtual 280, 3) := by decide +kernel
theorem dX11_items_5 : decode cX11_items 5 = .ok (.getfield 284, 3) := by decide +kernel
theorem dX11_items_8 : decode cX11_items 8 = .ok (.ireturn, 1) := by decide +kernel
theorem dX11_itemKind_0 : decode cX11_itemKind 0 = .ok (.aload_n 0, 1) := by decide +kernel
theorem dX11_itemKind_1 : decode cX11_itemKind 1 = .ok (.iload_n 1, 1) := by decide +kernel
theorem dX11_itemKind_2 : decode cX11_itemKind 2 = .ok (.invokevirtual 280, 3) := by decide +kernel
theorem dX11_itemKind_5 : decode cX11_itemKind 5 = .ok (.astore_n 3, 1) := by decide +kernel
theorem dX11_itemKind_6 : decode cX11_itemKind 6 = .ok (.iload_n 2, 1) := by decide +kernel
theorem dX11_itemKind_7 : decode cX11_itemKind 7 = .ok (.aload_n 3, 1) := by decide +kernel
theorem dX11_itemKind_8 : decode cX11_itemKind 8 = .ok (.getfield 284, 3) := by decide +kernel
theorem dX11_itemKind_11 : decode cX11_itemKind 11 = .ok (.invokestatic 119, 3) := by decide +kernel
theorem dX11_itemKind_14 : decode cX11_itemKind 14 = .ok (.aload_n 3, 1) := by decide +kernel
theorem dX11_itemKind_15 : decode cX11_itemKind 15 = .ok (.getfield 287, 3) := by decide +kernel
theorem dX11_itemKind_18 : decode cX11_itemKind 18 = .ok (.iload_n 2, 1) := by decide +kernel
theorem dX11_itemKind_19 : decode cX11_itemKind 19 = .ok (.iaload, 1) := by decide +kernel
theorem dX11_itemKind_20 : decode cX11_itemKind 20 = .ok (.ireturn, 1) := by decide +kernel
theorem dX11_itemBar_0 : decode cX11_itemBar 0 = .ok (.aload_n 0, 1) := by decide +kernel
theorem dX11_itemBar_1 : decode cX11_itemBar 1 = .ok (.iload_n 1, 1) := by decide +kernel
theorem dX11_itemBar_2 : decode cX11_itemBar 2 = .ok (.invokevirtual 280, 3) := by decide +kernel
theorem dX11_itemBar_5 : decode cX11_itemBar 5 = .ok (.astore_n 3, 1) := by decide +kernel
theorem dX11_itemBar_6 : decode cX11_itemBar 6 = .ok (.iload_n 2, 1) := by decide +kernel
theorem dX11_itemBar_7 : decode cX11_itemBar 7 = .ok (.aload_n 3, 1) := by decide +kernel
theorem dX11_itemBar_8 : decode cX11_itemBar 8 = .ok (.getfield 284, 3) := by decide +kernel
theorem dX11_itemBar_11 : decode cX11_itemBar 11 = .ok (.invokestatic 119, 3) := by decide +kernel
theorem dX11_itemBar_14 : decode cX11_itemBar 14 = .ok (.aload_n 3, 1) := by decide +kernel
theorem dX11_itemBar_15 : decode cX11_itemBar 15 = .ok (.getfield 290, 3) := by decide +kernel
theorem dX11_itemBar_18 : decode cX11_itemBar 18 = .ok (.iload_n 2, 1) := by decide +kernel
theorem dX11_itemBar_19 : decode cX11_itemBar 19 = .ok (.iaload, 1) := by decide +kernel
theorem dX11_itemBar_20 : decode cX11_itemBar 20 = .ok (.ireturn, 1) := by decide +kernel
theorem dX11_itemBars_0 : decode cX11_itemBars 0 = .ok (.aload_n 0, 1) := by decide +kernel
theorem dX11_itemBars_1 : decode cX11_itemBars 1 = .ok (.iload_n 1, 1) := by decide +kernel
theorem dX11_itemBars_2 : decode cX11_itemBars 2 = .ok (.invokevirtual 280, 3) := by decide +kernel
theorem dX11_itemBars_5 : decode cX11_itemBars 5 = .ok (.astore_n 3, 1) := by decide +kernel
theorem dX11_itemBars_6 : decode cX11_itemBars 6 = .ok (.iload_n 2, 1) := by decide +kernel
theorem dX11_itemBars_7 : decode cX11_itemBars 7 = .ok (.aload_n 3, 1) := by decide +kernel
theorem dX11_itemBars_8 : decode cX11_itemBars 8 = .ok (.getfield 284, 3) := by decide +kernel
theorem dX11_itemBars_11 : decode cX11_itemBars 11 = .ok (.invokestatic 119, 3) := by decide +kernel
theorem dX11_itemBars_14 : decode cX11_itemBars 14 = .ok (.aload_n 3, 1) := by decide +kernel
theorem dX11_itemBars_15 : decode cX11_itemBars 15 = .ok (.getfield 293, 3) := by decide +kernel
theorem dX11_itemBars_18 : decode cX11_itemBars 18 = .ok (.iload_n 2, 1) := by decide +kernel
theorem dX11_itemBars_19 : decode cX11_itemBars 19 = .ok (.iaload, 1) := by decide +kernel
theorem dX11_itemBars_20 : decode cX11_itemBars 20 = .ok (.ireturn, 1) := by decide +kernel
theorem dX11_cue_0 : decode cX11_cue 0 = .ok (.aload_n 0, 1) := by decide +kernel
theorem dX11_cue_1 : decode cX11_cue 1 = .ok (.iload_n 1, 1) := by decide +kernel
theorem dX11_cue_2 : decode cX11_cue 2 = .ok (.invokevirtual 280, 3) := by decide +kernel
theorem dX11_cue_5 : decode cX11_cue 5 = .ok (.astore_n 3, 1) := by decide +kernel
theorem dX11_cue_6 : decode cX11_cue 6 = .ok (.iload_n 2, 1) := by decide +kernel
theorem dX11_cue_7 : decode cX11_cue 7 = .ok (.aload_n 3, 1) := by decide +kernel
theorem dX11_cue_8 : decode cX11_cue 8 = .ok (.getfield 284, 3) := by decide +kernel
theorem dX11_cue_11 : decode cX11_cue 11 = .ok (.invokestatic 119, 3) := by decide +kernel
theorem dX11_cue_14 : decode cX11_cue 14 = .ok (.aload_n 3, 1) := by decide +kernel
theorem dX11_cue_15 : decode cX11_cue 15 = .ok (.getfield 296, 3) := by decide +kernel
theorem dX11_cue_18 : decode cX11_cue 18 = .ok (.iload_n 2, 1) := by decide +kernel
theorem dX11_cue_19 : decode cX11_cue 19 = .ok (.iaload, 1) := by decide +kernel
theorem dX11_cue_20 : decode cX11_cue 20 = .ok (.ireturn, 1) := by decide +kernel
theorem dX11_itemWidth_0 : decode cX11_itemWidth 0 = .ok (.aload_n 0, 1) := by decide +kernel
theorem dX11_itemWidth_1 : decode cX11_itemWidth 1 = .ok (.iload_n 1, 1) := by decide +kernel
theorem dX11_itemWidth_2 : decode cX11_itemWidth 2 = .ok (.invokevirtual 280, 3) := by decide +kernel
theorem dX11_itemWidth_5 : decode cX11_itemWidth 5 = .ok (.astore_n 3, 1) := by decide +kernel
theorem dX11_itemWidth_6 : decode cX11_itemWidth 6 = .ok (.iload_n 2, 1) := by decide +kernel
theorem dX11_itemWidth_7 : decode cX11_itemWidth 7 = .ok (.aload_n 3, 1) := by decide +kernel
theorem dX11_itemWidth_8 : decode cX11_itemWidth 8 = .ok (.getfield 284, 3) := by decide +kernel
theorem dX11_itemWidth_11 : decode cX11_itemWidth 11 = .ok (.invokestatic 119, 3) := by decide +kernel
theorem dX11_itemWidth_14 : decode cX11_itemWidth 14 = .ok (.aload_n 3, 1) := by decide +kernel
theorem dX11_itemWidth_15 : decode cX11_itemWidth 15 = .ok (.getfield 299, 3) := by decide +kernel
theorem dX11_itemWidth_18 : decode cX11_itemWidth 18 = .ok (.iload_n 2, 1) := by decide +kernel
theorem dX11_itemWidth_19 : decode cX11_itemWidth 19 = .ok (.iaload, 1) := by decide +kernel
theorem dX11_itemWidth_20 : decode cX11_itemWidth 20 = .ok (.ireturn, 1) := by decide +kernel
theorem dX11_lines_0 : decode cX11_lines 0 = .ok (.aload_n 0, 1) := by decide +kernel
theorem dX11_lines_1 : decode cX11_lines 1 = .ok (.iload_n 1, 1) := by decide +kernel
theorem dX11_lines_2 : decode cX11_lines 2 = .ok (.invokevirtual 280, 3) := by decide +kernel
theorem dX11_lines_5 : decode cX11_lines 5 = .ok (.getfield 302, 3) := by decide +kernel
theorem dX11_lines_8 : decode cX11_lines 8 = .ok (.getfield 306, 3) := by decide +kernel
theorem dX11_lines_11 : decode cX11_lines 11 = .ok (.ireturn, 1) := by decide +kernel
theorem dX11_firstItem_0 : decode cX11_firstItem 0 = .ok (.aload_n 0, 1) := by decide +kernel
theorem dX11_firstItem_1 : decode cX11_firstItem 1 = .ok (.iload_n 1, 1) := by decide +kernel
theorem dX11_firstItem_2 : decode cX11_firstItem 2 = .ok (.invokevirtual 280, 3) := by decide +kernel
theorem dX11_firstItem_5 : decode cX11_firstItem 5 = .ok (.getfield 302, 3) := by decide +kernel
theorem dX11_firstItem_8 : decode cX11_firstItem 8 = .ok (.astore_n 3, 1) := by decide +kernel
theorem dX11_firstItem_9 : decode cX11_firstItem 9 = .ok (.iload_n 2, 1) := by decide +kernel
theorem dX11_firstItem_10 : decode cX11_firstItem 10 = .ok (.aload_n 3, 1) := by decide +kernel
theorem dX11_firstItem_11 : decode cX11_firstItem 11 = .ok (.getfield 306, 3) := by decide +kernel
theorem dX11_firstItem_14 : decode cX11_firstItem 14 = .ok (.invokestatic 119, 3) := by decide +kernel
theorem dX11_firstItem_17 : decode cX11_firstItem 17 = .ok (.aload_n 3, 1) := by decide +kernel
theorem dX11_firstItem_18 : decode cX11_firstItem 18 = .ok (.getfield 311, 3) := by decide +kernel
theorem dX11_firstItem_21 : decode cX11_firstItem 21 = .ok (.iload_n 2, 1) := by decide +kernel
theorem dX11_firstItem_22 : decode cX11_firstItem 22 = .ok (.iaload, 1) := by decide +kernel
theorem dX11_firstItem_23 : decode cX11_firstItem 23 = .ok (.ireturn, 1) := by decide +kernel
theorem dX11_badness_0 : decode cX11_badness 0 = .ok (.aload_n 0, 1) := by decide +kernel
theorem dX11_badness_1 : decode cX11_badness 1 = .ok (.iload_n 1, 1) := by decide +kernel
theorem dX11_badness_2 : decode cX11_badness 2 = .ok (.invokevirtual 280, 3) := by decide +kernel
theorem dX11_badness_5 : decode cX11_badness 5 = .ok (.getfield 302, 3) := by decide +kernel
theorem dX11_badness_8 : decode cX11_badness 8 = .ok (.getfield 314, 3) := by decide +kernel
theorem dX11_badness_11 : decode cX11_badness 11 = .ok (.iconst 0, 1) := by decide +kernel
theorem dX11_badness_12 : decode cX11_badness 12 = .ok (.iaload, 1) := by decide +kernel
theorem dX11_badness_13 : decode cX11_badness 13 = .ok (.ireturn, 1) := by decide +kernel
theorem dX11_pages_0 : decode cX11_pages 0 = .ok (.aload_n 0, 1) := by decide +kernel
theorem dX11_pages_1 : decode cX11_pages 1 = .ok (.iload_n 1, 1) := by decide +kernel
theorem dX11_pages_2 : decode cX11_pages 2 = .ok (.invokevirtual 280, 3) := by decide +kernel
theorem dX11_pages_5 : decode cX11_pages 5 = .ok (.getfield 317, 3) := by decide +kernel
theorem dX11_pages_8 : decode cX11_pages 8 = .ok (.getfield 321, 3) := by decide +kernel
theorem dX11_pages_11 : decode cX11_pages 11 = .ok (.ireturn, 1) := by decide +kernel
theorem dX11_pageLines_0 : decode cX11_pageLines 0 = .ok (.aload_n 0, 1) := by decide +kernel
theorem dX11_pageLines_1 : decode cX11_pageLines 1 = .ok (.iload_n 1, 1) := by decide +kernel
theorem dX11_pageLines_2 : decode cX11_pageLines 2 = .ok (.invokevirtual 280, 3) := by decide +kernel
theorem dX11_pageLines_5 : decode cX11_pageLines 5 = .ok (.getfield 317, 3) := by decide +kernel
theorem dX11_pageLines_8 : decode cX11_pageLines 8 = .ok (.astore_n 3, 1) := by decide +kernel
theorem dX11_pageLines_9 : decode cX11_pageLines 9 = .ok (.iload_n 2, 1) := by decide +kernel
theorem dX11_pageLines_10 : decode cX11_pageLines 10 = .ok (.aload_n 3, 1) := by decide +kernel
theorem dX11_pageLines_11 : decode cX11_pageLines 11 = .ok (.getfield 321, 3) := by decide +kernel
theorem dX11_pageLines_14 : decode cX11_pageLines 14 = .ok (.invokestatic 119, 3) := by decide +kernel
theorem dX11_pageLines_17 : decode cX11_pageLines 17 = .ok (.aload_n 3, 1) := by decide +kernel
theorem dX11_pageLines_18 : decode cX11_pageLines 18 = .ok (.getfield 326, 3) := by decide +kernel
theorem dX11_pageLines_21 : decode cX11_pageLines 21 = .ok (.iload_n 2, 1) := by decide +kernel
theorem dX11_pageLines_22 : decode cX11_pageLines 22 = .ok (.iaload, 1) := by decide +kernel
theorem dX11_pageLines_23 : decode cX11_pageLines 23 = .ok (.ireturn, 1) := by decide +kernel
theorem dX11_pageOf_0 : decode cX11_pageOf 0 = .ok (.aload_n 0, 1) := by decide +kernel
theorem dX11_pageOf_1 : decode cX11_pageOf 1 = .ok (.iload_n 1, 1) := by decide +kernel
theorem dX11_pageOf_2 : decode cX11_pageOf 2 = .ok (.invokevirtual 280, 3) := by decide +kernel
theorem dX11_pageOf_5 : decode cX11_pageOf 5 = .ok (.astore_n 3, 1) := by decide +kernel
theorem dX11_pageOf_6 : decode cX11_pageOf 6 = .ok (.aload_n 0, 1) := by decide +kernel
theorem dX11_pageOf_7 : decode cX11_pageOf 7 = .ok (.iload_n 2, 1) := by decide +kernel
theorem dX11_pageOf_8 : decode cX11_pageOf 8 = .ok (.invokevirtual 62, 3) := by decide +kernel
theorem dX11_pageOf_11 : decode cX11_pageOf 11 = .ok (.aload_n 3, 1) := by decide +kernel
theorem dX11_pageOf_12 : decode cX11_pageOf 12 = .ok (.getfield 317, 3) := by decide +kernel
theorem dX11_pageOf_15 : decode cX11_pageOf 15 = .ok (.aload_n 3, 1) := by decide +kernel
theorem dX11_pageOf_16 : decode cX11_pageOf 16 = .ok (.iload_n 2, 1) := by decide +kernel
theorem dX11_pageOf_17 : decode cX11_pageOf 17 = .ok (.invokevirtual 329, 3) := by decide +kernel
theorem dX11_pageOf_20 : decode cX11_pageOf 20 = .ok (.invokevirtual 332, 3) := by decide +kernel
theorem dX11_pageOf_23 : decode cX11_pageOf 23 = .ok (.ireturn, 1) := by decide +kernel
theorem dX11_pageTurns_0 : decode cX11_pageTurns 0 = .ok (.aload_n 0, 1) := by decide +kernel
theorem dX11_pageTurns_1 : decode cX11_pageTurns 1 = .ok (.iload_n 1, 1) := by decide +kernel
theorem dX11_pageTurns_2 : decode cX11_pageTurns 2 = .ok (.invokevirtual 280, 3) := by decide +kernel
theorem dX11_pageTurns_5 : decode cX11_pageTurns 5 = .ok (.getfield 317, 3) := by decide +kernel
theorem dX11_pageTurns_8 : decode cX11_pageTurns 8 = .ok (.getfield 335, 3) := by decide +kernel
theorem dX11_pageTurns_11 : decode cX11_pageTurns 11 = .ok (.ireturn, 1) := by decide +kernel
theorem dX11_turnBar_0 : decode cX11_turnBar 0 = .ok (.aload_n 0, 1) := by decide +kernel
theorem dX11_turnBar_1 : decode cX11_turnBar 1 = .ok (.iload_n 1, 1) := by decide +kernel
theorem dX11_turnBar_2 : decode cX11_turnBar 2 = .ok (.invokevirtual 280, 3) := by decide +kernel
theorem dX11_turnBar_5 : decode cX11_turnBar 5 = .ok (.getfield 317, 3) := by decide +kernel
theorem dX11_turnBar_8 : decode cX11_turnBar 8 = .ok (.astore_n 3, 1) := by decide +kernel
theorem dX11_turnBar_9 : decode cX11_turnBar 9 = .ok (.iload_n 2, 1) := by decide +kernel
theorem dX11_turnBar_10 : decode cX11_turnBar 10 = .ok (.aload_n 3, 1) := by decide +kernel
theorem dX11_turnBar_11 : decode cX11_turnBar 11 = .ok (.getfield 335, 3) := by decide +kernel
theorem dX11_turnBar_14 : decode cX11_turnBar 14 = .ok (.invokestatic 119, 3) := by decide +kernel
theorem dX11_turnBar_17 : decode cX11_turnBar 17 = .ok (.aload_n 3, 1) := by decide +kernel
theorem dX11_turnBar_18 : decode cX11_turnBar 18 = .ok (.getfield 338, 3) := by decide +kernel
theorem dX11_turnBar_21 : decode cX11_turnBar 21 = .ok (.aload_n 3, 1) := by decide +kernel
theorem dX11_turnBar_22 : decode cX11_turnBar 22 = .ok (.getfield 341, 3) := by decide +kernel
theorem dX11_turnBar_25 : decode cX11_turnBar 25 = .ok (.iload_n 2, 1) := by decide +kernel
theorem dX11_turnBar_26 : decode cX11_turnBar 26 = .ok (.iaload, 1) := by decide +kernel
theorem dX11_turnBar_27 : decode cX11_turnBar 27 = .ok (.iaload, 1) := by decide +kernel
theorem dX11_turnBar_28 : decode cX11_turnBar 28 = .ok (.ireturn, 1) := by decide +kernel
theorem dX11_turnTime_0 : decode cX11_turnTime 0 = .ok (.aload_n 0, 1) := by decide +kernel
theorem dX11_turnTime_1 : decode cX11_turnTime 1 = .ok (.iload_n 1, 1) := by decide +kernel
theorem dX11_turnTime_2 : decode cX11_turnTime 2 = .ok (.invokevirtual 280, 3) := by decide +kernel
theorem dX11_turnTime_5 : decode cX11_turnTime 5 = .ok (.getfield 317, 3) := by decide +kernel
theorem dX11_turnTime_8 : decode cX11_turnTime 8 = .ok (.astore_n 3, 1) := by decide +kernel
theorem dX11_turnTime_9 : decode cX11_turnTime 9 = .ok (.iload_n 2, 1) := by decide +kernel
theorem dX11_turnTime_10 : decode cX11_turnTime 10 = .ok (.aload_n 3, 1) := by decide +kernel
theorem dX11_turnTime_11 : decode cX11_turnTime 11 = .ok (.getfield 335, 3) := by decide +kernel
theorem dX11_turnTime_14 : decode cX11_turnTime 14 = .ok (.invokestatic 119, 3) := by decide +kernel
theorem dX11_turnTime_17 : decode cX11_turnTime 17 = .ok (.aload_n 3, 1) := by decide +kernel
theorem dX11_turnTime_18 : decode cX11_turnTime 18 = .ok (.getfield 344, 3) := by decide +kernel
theorem dX11_turnTime_21 : decode cX11_turnTime 21 = .ok (.aload_n 3, 1) := by decide +kernel
theorem dX11_turnTime_22 : decode cX11_turnTime 22 = .ok (.getfield 341, 3) := by decide +kernel
theorem dX11_turnTime_25 : decode cX11_turnTime 25 = .ok (.iload_n 2, 1) := by decide +kernel
theorem dX11_turnTime_26 : decode cX11_turnTime 26 = .ok (.iaload, 1) := by decide +kernel
theorem dX11_turnTime_27 : decode cX11_turnTime 27 = .ok (.iaload, 1) := by decide +kernel
theorem dX11_turnTime_28 : decode cX11_turnTime 28 = .ok (.ireturn, 1) := by decide +kernel
theorem dX11_turnRest_0 : decode cX11_turnRest 0 = .ok (.aload_n 0, 1) := by decide +kernel
theorem dX11_turnRest_1 : decode cX11_turnRest 1 = .ok (.iload_n 1, 1) := by decide +kernel
theorem dX11_turnRest_2 : decode cX11_turnRest 2 = .ok (.invokevirtual 280, 3) := by decide +kernel
theorem dX11_turnRest_5 : decode cX11_turnRest 5 = .ok (.getfield 317, 3) := by decide +kernel
theorem dX11_turnRest_8 : decode cX11_turnRest 8 = .ok (.astore_n 3, 1) := by decide +kernel
theorem dX11_turnRest_9 : decode cX11_turnRest 9 = .ok (.iload_n 2, 1) := by decide +kernel
theorem dX11_turnRest_10 : decode cX11_turnRest 10 = .ok (.aload_n 3, 1) := by decide +kernel
theorem dX11_turnRest_11 : decode cX11_turnRest 11 = .ok (.getfield 335, 3) := by decide +kernel
theorem dX11_turnRest_14 : decode cX11_turnRest 14 = .ok (.invokestatic 119, 3) := by decide +kernel
theorem dX11_turnRest_17 : decode cX11_turnRest 17 = .ok (.aload_n 3, 1) := by decide +kernel
theorem dX11_turnRest_18 : decode cX11_turnRest 18 = .ok (.getfield 347, 3) := by decide +kernel
theorem dX11_turnRest_21 : decode cX11_turnRest 21 = .ok (.aload_n 3, 1) := by decide +kernel
theorem dX11_turnRest_22 : decode cX11_turnRest 22 = .ok (.getfield 341, 3) := by decide +kernel
theorem dX11_turnRest_25 : decode cX11_turnRest 25 = .ok (.iload_n 2, 1) := by decide +kernel
theorem dX11_turnRest_26 : decode cX11_turnRest 26 = .ok (.iaload, 1) := by decide +kernel
theorem dX11_turnRest_27 : decode cX11_turnRest 27 = .ok (.iaload, 1) := by decide +kernel
theorem dX11_turnRest_28 : decode cX11_turnRest 28 = .ok (.ireturn, 1) := by decide +kernel
theorem dX11_badTurns_0 : decode cX11_badTurns 0 = .ok (.aload_n 0, 1) := by decide +kernel
theorem dX11_badTurns_1 : decode cX11_badTurns 1 = .ok (.iload_n 1, 1) := by decide +kernel
theorem dX11_badTurns_2 : decode cX11_badTurns 2 = .ok (.invokevirtual 280, 3) := by decide +kernel
theorem dX11_badTurns_5 : decode cX11_badTurns 5 = .ok (.getfield 317, 3) := by decide +kernel
theorem dX11_badTurns_8 : decode cX11_badTurns 8 = .ok (.invokevirtual 350, 3) := by decide +kernel
theorem dX11_badTurns_11 : decode cX11_badTurns 11 = .ok (.ireturn, 1) := by decide +kernel
theorem dX11_sheets_0 : decode cX11_sheets 0 = .ok (.aload_n 0, 1) := by decide +kernel
theorem dX11_sheets_1 : decode cX11_sheets 1 = .ok (.iload_n 1, 1) := by decide +kernel
theorem dX11_sheets_2 : decode cX11_sheets 2 = .ok (.invokevirtual 280, 3) := by decide +kernel
theorem dX11_sheets_5 : decode cX11_sheets 5 = .ok (.getfield 317, 3) := by decide +kernel
theorem dX11_sheets_8 : decode cX11_sheets 8 = .ok (.getfield 321, 3) := by decide +kernel
theorem dX11_sheets_11 : decode cX11_sheets 11 = .ok (.invokestatic 353, 3) := by decide +kernel
theorem dX11_sheets_14 : decode cX11_sheets 14 = .ok (.ireturn, 1) := by decide +kernel
theorem dX11_sheetPage_0 : decode cX11_sheetPage 0 = .ok (.aload_n 0, 1) := by decide +kernel
theorem dX11_sheetPage_1 : decode cX11_sheetPage 1 = .ok (.iload_n 1, 1) := by decide +kernel
theorem dX11_sheetPage_2 : decode cX11_sheetPage 2 = .ok (.invokevirtual 280, 3) := by decide +kernel
theorem dX11_sheetPage_5 : decode cX11_sheetPage 5 = .ok (.getfield 317, 3) := by decide +kernel
theorem dX11_sheetPage_8 : decode cX11_sheetPage 8 = .ok (.getfield 321, 3) := by decide +kernel
theorem dX11_sheetPage_11 : decode cX11_sheetPage 11 = .ok (.invokestatic 353, 3) := by decide +kernel
theorem dX11_sheetPage_14 : decode cX11_sheetPage 14 = .ok (.istore 5, 2) := by decide +kernel
theorem dX11_sheetPage_16 : decode cX11_sheetPage 16 = .ok (.iload_n 2, 1) := by decide +kernel
theorem dX11_sheetPage_17 : decode cX11_sheetPage 17 = .ok (.iload 5, 2) := by decide +kernel
theorem dX11_sheetPage_19 : decode cX11_sheetPage 19 = .ok (.invokestatic 119, 3) := by decide +kernel
theorem dX11_sheetPage_22 : decode cX11_sheetPage 22 = .ok (.iconst 2, 1) := by decide +kernel
theorem dX11_sheetPage_23 : decode cX11_sheetPage 23 = .ok (.iload_n 2, 1) := by decide +kernel
theorem dX11_sheetPage_24 : decode cX11_sheetPage 24 = .ok (.imul, 1) := by decide +kernel
theorem dX11_sheetPage_25 : decode cX11_sheetPage 25 = .ok (.iload_n 3, 1) := by decide +kernel
theorem dX11_sheetPage_26 : decode cX11_sheetPage 26 = .ok (.ifCond .eq 7, 3) := by decide +kernel
theorem dX11_sheetPage_29 : decode cX11_sheetPage 29 = .ok (.iconst 0, 1) := by decide +kernel
theorem dX11_sheetPage_30 : decode cX11_sheetPage 30 = .ok (.goto 4, 3) := by decide +kernel
theorem dX11_sheetPage_33 : decode cX11_sheetPage 33 = .ok (.iconst 1, 1) := by decide +kernel
theorem dX11_sheetPage_34 : decode cX11_sheetPage 34 = .ok (.iadd, 1) := by decide +kernel
theorem dX11_sheetPage_35 : decode cX11_sheetPage 35 = .ok (.istore 6, 2) := by decide +kernel
theorem dX11_sheetPage_37 : decode cX11_sheetPage 37 = .ok (.iload_n 3, 1) := by decide +kernel
theorem dX11_sheetPage_38 : decode cX11_sheetPage 38 = .ok (.iload 4, 2) := by decide +kernel
theorem dX11_sheetPage_40 : decode cX11_sheetPage 40 = .ok (.if_icmp .ne 15, 3) := by decide +kernel
theorem dX11_sheetPage_43 : decode cX11_sheetPage 43 = .ok (.iconst 4, 1) := by decide +kernel
theorem dX11_sheetPage_44 : decode cX11_sheetPage 44 = .ok (.iload 5, 2) := by decide +kernel
theorem dX11_sheetPage_46 : decode cX11_sheetPage 46 = .ok (.imul, 1) := by decide +kernel
theorem dX11_sheetPage_47 : decode cX11_sheetPage 47 = .ok (.iconst 1, 1) := by decide +kernel
theorem dX11_sheetPage_48 : decode cX11_sheetPage 48 = .ok (.isub, 1) := by decide +kernel
theorem dX11_sheetPage_49 : decode cX11_sheetPage 49 = .ok (.iload 6, 2) := by decide +kernel
theorem dX11_sheetPage_51 : decode cX11_sheetPage 51 = .ok (.isub, 1) := by decide +kernel
theorem dX11_sheetPage_52 : decode cX11_sheetPage 52 = .ok (.goto 5, 3) := by decide +kernel
theorem dX11_sheetPage_55 : decode cX11_sheetPage 55 = .ok (.iload 6, 2) := by decide +kernel
theorem dX11_sheetPage_57 : decode cX11_sheetPage 57 = .ok (.ireturn, 1) := by decide +kernel
theorem dX11_sheetsFor_0 : decode cX11_sheetsFor 0 = .ok (.iload_n 0, 1) := by decide +kernel
theorem dX11_sheetsFor_1 : decode cX11_sheetsFor 1 = .ok (.iconst 4, 1) := by decide +kernel
theorem dX11_sheetsFor_2 : decode cX11_sheetsFor 2 = .ok (.iadd, 1) := by decide +kernel
theorem dX11_sheetsFor_3 : decode cX11_sheetsFor 3 = .ok (.iconst 1, 1) := by decide +kernel
theorem dX11_sheetsFor_4 : decode cX11_sheetsFor 4 = .ok (.isub, 1) := by decide +kernel
theorem dX11_sheetsFor_5 : decode cX11_sheetsFor 5 = .ok (.iconst 4, 1) := by decide +kernel
theorem dX11_sheetsFor_6 : decode cX11_sheetsFor 6 = .ok (.idiv, 1) := by decide +kernel
theorem dX11_sheetsFor_7 : decode cX11_sheetsFor 7 = .ok (.ireturn, 1) := by decide +kernel
theorem dX11_requireRange_0 : decode cX11_requireRange 0 = .ok (.iload_n 0, 1) := by decide +kernel
theorem dX11_requireRange_1 : decode cX11_requireRange 1 = .ok (.iload_n 1, 1) := by decide +kernel
theorem dX11_requireRange_2 : decode cX11_requireRange 2 = .ok (.if_icmp .lt 8, 3) := by decide +kernel
theorem dX11_requireRange_5 : decode cX11_requireRange 5 = .ok (.iload_n 0, 1) := by decide +kernel
theorem dX11_requireRange_6 : decode cX11_requireRange 6 = .ok (.iload_n 2, 1) := by decide +kernel
theorem dX11_requireRange_7 : decode cX11_requireRange 7 = .ok (.if_icmp .le 14, 3) := by decide +kernel
theorem dX11_requireRange_10 : decode cX11_requireRange 10 = .ok (.new 105, 3) := by decide +kernel
theorem dX11_requireRange_13 : decode cX11_requireRange 13 = .ok (.dup, 1) := by decide +kernel
theorem dX11_requireRange_14 : decode cX11_requireRange 14 = .ok (.ldc_w 356, 3) := by decide +kernel
theorem dX11_requireRange_17 : decode cX11_requireRange 17 = .ok (.invokespecial 109, 3) := by decide +kernel
theorem dX11_requireRange_20 : decode cX11_requireRange 20 = .ok (.athrow, 1) := by decide +kernel
theorem dX11_requireRange_21 : decode cX11_requireRange 21 = .ok (.return_, 1) := by decide +kernel
theorem dX11_requireIndex_0 : decode cX11_requireIndex 0 = .ok (.iload_n 0, 1) := by decide +kernel
theorem dX11_requireIndex_1 : decode cX11_requireIndex 1 = .ok (.ifCond .lt 8, 3) := by decide +kernel
theorem dX11_requireIndex_4 : decode cX11_requireIndex 4 = .ok (.iload_n 0, 1) := by decide +kernel
theorem dX11_requireIndex_5 : decode cX11_requireIndex 5 = .ok (.iload_n 1, 1) := by decide +kernel
theorem dX11_requireIndex_6 : decode cX11_requireIndex 6 = .ok (.if_icmp .lt 14, 3) := by decide +kernel
theorem dX11_requireIndex_9 : decode cX11_requireIndex 9 = .ok (.new 358, 3) := by decide +kernel
theorem dX11_requireIndex_12 : decode cX11_requireIndex 12 = .ok (.dup, 1) := by decide +kernel
theorem dX11_requireIndex_13 : decode cX11_requireIndex 13 = .ok (.ldc_w 360, 3) := by decide +kernel
theorem dX11_requireIndex_16 : decode cX11_requireIndex 16 = .ok (.invokespecial 362, 3) := by decide +kernel
theorem dX11_requireIndex_19 : decode cX11_requireIndex 19 = .ok (.athrow, 1) := by decide +kernel
theorem dX11_requireIndex_20 : decode cX11_requireIndex 20 = .ok (.return_, 1) := by decide +kernel
theorem dX11_requireVoice_0 : decode cX11_requireVoice 0 = .ok (.iload_n 0, 1) := by decide +kernel
theorem dX11_requireVoice_1 : decode cX11_requireVoice 1 = .ok (.iconst 0, 1) := by decide +kernel
theorem dX11_requireVoice_2 : decode cX11_requireVoice 2 = .ok (.iconst 3, 1) := by decide +kernel
theorem dX11_requireVoice_3 : decode cX11_requireVoice 3 = .ok (.invokestatic 88, 3) := by decide +kernel
theorem dX11_requireVoice_6 : decode cX11_requireVoice 6 = .ok (.return_, 1) := by decide +kernel
theorem dX11_requireMetre_0 : decode cX11_requireMetre 0 = .ok (.iload_n 0, 1) := by decide +kernel
theorem dX11_requireMetre_1 : decode cX11_requireMetre 1 = .ok (.iconst 1, 1) := by decide +kernel
theorem dX11_requireMetre_2 : decode cX11_requireMetre 2 = .ok (.bipush 9, 2) := by decide +kernel
theorem dX11_requireMetre_4 : decode cX11_requireMetre 4 = .ok (.invokestatic 88, 3) := by decide +kernel
theorem dX11_requireMetre_7 : decode cX11_requireMetre 7 = .ok (.iload_n 1, 1) := by decide +kernel
theorem dX11_requireMetre_8 : decode cX11_requireMetre 8 = .ok (.iconst 2, 1) := by decide +kernel
theorem dX11_requireMetre_9 : decode cX11_requireMetre 9 = .ok (.if_icmp .eq 25, 3) := by decide +kernel
theorem dX11_requireMetre_12 : decode cX11_requireMetre 12 = .ok (.iload_n 1, 1) := by decide +kernel
theorem dX11_requireMetre_13 : decode cX11_requireMetre 13 = .ok (.iconst 4, 1) := by decide +kernel
theorem dX11_requireMetre_14 : decode cX11_requireMetre 14 = .ok (.if_icmp .eq 20, 3) := by decide +kernel
theorem dX11_requireMetre_17 : decode cX11_requireMetre 17 = .ok (.iload_n 1, 1) := by decide +kernel
theorem dX11_requireMetre_18 : decode cX11_requireMetre 18 = .ok (.bipush 8, 2) := by decide +kernel
theorem dX11_requireMetre_20 : decode cX11_requireMetre 20 = .ok (.if_icmp .eq 14, 3) := by decide +kernel
theorem dX11_requireMetre_23 : decode cX11_requireMetre 23 = .ok (.new 105, 3) := by decide +kernel
theorem dX11_requireMetre_26 : decode cX11_requireMetre 26 = .ok (.dup, 1) := by decide +kernel
theorem dX11_requireMetre_27 : decode cX11_requireMetre 27 = .ok (.ldc_w 363, 3) := by decide +kernel
theorem dX11_requireMetre_30 : decode cX11_requireMetre 30 = .ok (.invokespecial 109, 3) := by decide +kernel
theorem dX11_requireMetre_33 : decode cX11_requireMetre 33 = .ok (.athrow, 1) := by decide +kernel
theorem dX11_requireMetre_34 : decode cX11_requireMetre 34 = .ok (.return_, 1) := by decide +kernel
theorem dX11_requireBar_0 : decode cX11_requireBar 0 = .ok (.iload_n 1, 1) := by decide +kernel
theorem dX11_requireBar_1 : decode cX11_requireBar 1 = .ok (.aload_n 0, 1) := by decide +kernel
theorem dX11_requireBar_2 : decode cX11_requireBar 2 = .ok (.getfield 10, 3) := by decide +kernel
theorem dX11_requireBar_5 : decode cX11_requireBar 5 = .ok (.invokevirtual 33, 3) := by decide +kernel
theorem dX11_requireBar_8 : decode cX11_requireBar 8 = .ok (.invokestatic 119, 3) := by decide +kernel
theorem dX11_requireBar_11 : decode cX11_requireBar 11 = .ok (.return_, 1) := by decide +kernel
theorem dX11_requiredEvent_0 : decode cX11_requiredEvent 0 = .ok (.iload_n 1, 1) := by decide +kernel
theorem dX11_requiredEvent_1 : decode cX11_requiredEvent 1 = .ok (.invokestatic 102, 3) := by decide +kernel
theorem dX11_requiredEvent_4 : decode cX11_requiredEvent 4 = .ok (.aload_n 0, 1) := by decide +kernel
theorem dX11_requiredEvent_5 : decode cX11_requiredEvent 5 = .ok (.iload_n 2, 1) := by decide +kernel
theorem dX11_requiredEvent_6 : decode cX11_requiredEvent 6 = .ok (.invokevirtual 62, 3) := by decide +kernel
theorem dX11_requiredEvent_9 : decode cX11_requiredEvent 9 = .ok (.aload_n 0, 1) := by decide +kernel
theorem dX11_requiredEvent_10 : decode cX11_requiredEvent 10 = .ok (.getfield 10, 3) := by decide +kernel
theorem dX11_requiredEvent_13 : decode cX11_requiredEvent 13 = .ok (.iload_n 1, 1) := by decide +kernel
theorem dX11_requiredEvent_14 : decode cX11_requiredEvent 14 = .ok (.iload_n 2, 1) := by decide +kernel
theorem dX11_requiredEvent_15 : decode cX11_requiredEvent 15 = .ok (.invokevirtual 110, 3) := by decide +kernel
theorem dX11_requiredEvent_18 : decode cX11_requiredEvent 18 = .ok (.astore 4, 2) := by decide +kernel
theorem dX11_requiredEvent_20 : decode cX11_requiredEvent 20 = .ok (.iload_n 3, 1) := by decide +kernel
theorem dX11_requiredEvent_21 : decode cX11_requiredEvent 21 = .ok (.aload 4, 2) := by decide +kernel
theorem dX11_requiredEvent_23 : decode cX11_requiredEvent 23 = .ok (.invokevirtual 114, 3) := by decide +kernel
theorem dX11_requiredEvent_26 : decode cX11_requiredEvent 26 = .ok (.invokestatic 119, 3) := by decide +kernel
theorem dX11_requiredEvent_29 : decode cX11_requiredEvent 29 = .ok (.aload 4, 2) := by decide +kernel
theorem dX11_requiredEvent_31 : decode cX11_requiredEvent 31 = .ok (.iload_n 3, 1) := by decide +kernel
theorem dX11_requiredEvent_32 : decode cX11_requiredEvent 32 = .ok (.invokevirtual 365, 3) := by decide +kernel
theorem dX11_requiredEvent_35 : decode cX11_requiredEvent 35 = .ok (.areturn, 1) := by decide +kernel
theorem dX11_requiredSound_0 : decode cX11_requiredSound 0 = .ok (.aload_n 0, 1) := by decide +kernel
theorem dX11_requiredSound_1 : decode cX11_requiredSound 1 = .ok (.getfield 19, 3) := by decide +kernel
theorem dX11_requiredSound_4 : decode cX11_requiredSound 4 = .ok (.aload_n 0, 1) := by decide +kernel
theorem dX11_requiredSound_5 : decode cX11_requiredSound 5 = .ok (.getfield 10, 3) := by decide +kernel
theorem dX11_requiredSound_8 : decode cX11_requiredSound 8 = .ok (.invokevirtual 368, 3) := by decide +kernel
theorem dX11_requiredSound_11 : decode cX11_requiredSound 11 = .ok (.iload_n 1, 1) := by decide +kernel
theorem dX11_requiredSound_12 : decode cX11_requiredSound 12 = .ok (.aload_n 0, 1) := by decide +kernel
theorem dX11_requiredSound_13 : decode cX11_requiredSound 13 = .ok (.getfield 19, 3) := by decide +kernel
theorem dX11_requiredSound_16 : decode cX11_requiredSound 16 = .ok (.getfield 251, 3) := by decide +kernel
theorem dX11_requiredSound_19 : decode cX11_requiredSound 19 = .ok (.invokestatic 119, 3) := by decide +kernel
theorem dX11_requiredSound_22 : decode cX11_requiredSound 22 = .ok (.aload_n 0, 1) := by decide +kernel
theorem dX11_requiredSound_23 : decode cX11_requiredSound 23 = .ok (.getfield 19, 3) := by decide +kernel
theorem dX11_requiredSound_26 : decode cX11_requiredSound 26 = .ok (.getfield 372, 3) := by decide +kernel
theorem dX11_requiredSound_29 : decode cX11_requiredSound 29 = .ok (.iload_n 1, 1) := by decide +kernel
theorem dX11_requiredSound_30 : decode cX11_requiredSound 30 = .ok (.invokevirtual 194, 3) := by decide +kernel
theorem dX11_requiredSound_33 : decode cX11_requiredSound 33 = .ok (.checkcast 259, 3) := by decide +kernel
theorem dX11_requiredSound_36 : decode cX11_requiredSound 36 = .ok (.areturn, 1) := by decide +kernel
theorem dX11_played_0 : decode cX11_played 0 = .ok (.aload_n 0, 1) := by decide +kernel
theorem dX11_played_1 : decode cX11_played 1 = .ok (.getfield 19, 3) := by decide +kernel
theorem dX11_played_4 : decode cX11_played 4 = .ok (.aload_n 0, 1) := by decide +kernel
theorem dX11_played_5 : decode cX11_played 5 = .ok (.getfield 10, 3) := by decide +kernel
theorem dX11_played_8 : decode cX11_played 8 = .ok (.invokevirtual 368, 3) := by decide +kernel
theorem dX11_played_11 : decode cX11_played 11 = .ok (.aload_n 0, 1) := by decide +kernel
theorem dX11_played_12 : decode cX11_played 12 = .ok (.getfield 19, 3) := by decide +kernel
theorem dX11_played_15 : decode cX11_played 15 = .ok (.areturn, 1) := by decide +kernel
theorem dX11_drawnPart_0 : decode cX11_drawnPart 0 = .ok (.iload_n 1, 1) := by decide +kernel
theorem dX11_drawnPart_1 : decode cX11_drawnPart 1 = .ok (.invokestatic 102, 3) := by decide +kernel
theorem dX11_drawnPart_4 : decode cX11_drawnPart 4 = .ok (.aload_n 0, 1) := by decide +kernel
theorem dX11_drawnPart_5 : decode cX11_drawnPart 5 = .ok (.getfield 10, 3) := by decide +kernel
theorem dX11_drawnPart_8 : decode cX11_drawnPart 8 = .ok (.iload_n 1, 1) := by decide +kernel
theorem dX11_drawnPart_9 : decode cX11_drawnPart 9 = .ok (.invokevirtual 375, 3) := by decide +kernel
theorem dX11_drawnPart_12 : decode cX11_drawnPart 12 = .ok (.ifCond .ne 14, 3) := by decide +kernel
theorem dX11_drawnPart_15 : decode cX11_drawnPart 15 = .ok (.new 37, 3) := by decide +kernel
theorem dX11_drawnPart_18 : decode cX11_drawnPart 18 = .ok (.dup, 1) := by decide +kernel
theorem dX11_drawnPart_19 : decode cX11_drawnPart 19 = .ok (.ldc_w 379, 3) := by decide +kernel
theorem dX11_drawnPart_22 : decode cX11_drawnPart 22 = .ok (.invokespecial 41, 3) := by decide +kernel
theorem dX11_drawnPart_25 : decode cX11_drawnPart 25 = .ok (.athrow, 1) := by decide +kernel
theorem dX11_drawnPart_26 : decode cX11_drawnPart 26 = .ok (.aload_n 0, 1) := by decide +kernel
theorem dX11_drawnPart_27 : decode cX11_drawnPart 27 = .ok (.getfield 25, 3) := by decide +kernel
theorem dX11_drawnPart_30 : decode cX11_drawnPart 30 = .ok (.iload_n 1, 1) := by decide +kernel
theorem dX11_drawnPart_31 : decode cX11_drawnPart 31 = .ok (.aaload, 1) := by decide +kernel
theorem dX11_drawnPart_32 : decode cX11_drawnPart 32 = .ok (.ifnonnull 17, 3) := by decide +kernel
theorem dX11_drawnPart_35 : decode cX11_drawnPart 35 = .ok (.aload_n 0, 1) := by decide +kernel
theorem dX11_drawnPart_36 : decode cX11_drawnPart 36 = .ok (.getfield 25, 3) := by decide +kernel
theorem dX11_drawnPart_39 : decode cX11_drawnPart 39 = .ok (.iload_n 1, 1) := by decide +kernel
theorem dX11_drawnPart_40 : decode cX11_drawnPart 40 = .ok (.new 23, 3) := by decide +kernel
theorem dX11_drawnPart_43 : decode cX11_drawnPart 43 = .ok (.dup, 1) := by decide +kernel
theorem dX11_drawnPart_44 : decode cX11_drawnPart 44 = .ok (.iload_n 1, 1) := by decide +kernel
theorem dX11_drawnPart_45 : decode cX11_drawnPart 45 = .ok (.invokespecial 381, 3) := by decide +kernel
theorem dX11_drawnPart_48 : decode cX11_drawnPart 48 = .ok (.aastore, 1) := by decide +kernel
theorem dX11_drawnPart_49 : decode cX11_drawnPart 49 = .ok (.aload_n 0, 1) := by decide +kernel
theorem dX11_drawnPart_50 : decode cX11_drawnPart 50 = .ok (.getfield 25, 3) := by decide +kernel
theorem dX11_drawnPart_53 : decode cX11_drawnPart 53 = .ok (.iload_n 1, 1) := by decide +kernel
theorem dX11_drawnPart_54 : decode cX11_drawnPart 54 = .ok (.aaload, 1) := by decide +kernel
theorem dX11_drawnPart_55 : decode cX11_drawnPart 55 = .ok (.astore_n 2, 1) := by decide +kernel
theorem dX11_drawnPart_56 : decode cX11_drawnPart 56 = .ok (.aload_n 2, 1) := by decide +kernel
theorem dX11_drawnPart_57 : decode cX11_drawnPart 57 = .ok (.getfield 383, 3) := by decide +kernel
theorem dX11_drawnPart_60 : decode cX11_drawnPart 60 = .ok (.aload_n 0, 1) := by decide +kernel
theorem dX11_drawnPart_61 : decode cX11_drawnPart 61 = .ok (.getfield 10, 3) := by decide +kernel
theorem dX11_drawnPart_64 : decode cX11_drawnPart 64 = .ok (.getfield 58, 3) := by decide +kernel
theorem dX11_drawnPart_67 : decode cX11_drawnPart 67 = .ok (.if_icmp .eq 88, 3) := by decide +kernel
theorem dX11_drawnPart_70 : decode cX11_drawnPart 70 = .ok (.aload_n 2, 1) := by decide +kernel
theorem dX11_drawnPart_71 : decode cX11_drawnPart 71 = .ok (.aload_n 0, 1) := by decide +kernel
theorem dX11_drawnPart_72 : decode cX11_drawnPart 72 = .ok (.getfield 10, 3) := by decide +kernel
theorem dX11_drawnPart_75 : decode cX11_drawnPart 75 = .ok (.getfield 58, 3) := by decide +kernel
theorem dX11_drawnPart_78 : decode cX11_drawnPart 78 = .ok (.putfield 383, 3) := by decide +kernel
theorem dX11_drawnPart_81 : decode cX11_drawnPart 81 = .ok (.aload_n 0, 1) := by decide +kernel
theorem dX11_drawnPart_82 : decode cX11_drawnPart 82 = .ok (.getfield 19, 3) := by decide +kernel
theorem dX11_drawnPart_85 : decode cX11_drawnPart 85 = .ok (.aload_n 0, 1) := by decide +kernel
theorem dX11_drawnPart_86 : decode cX11_drawnPart 86 = .ok (.getfield 10, 3) := by decide +kernel
theorem dX11_drawnPart_89 : decode cX11_drawnPart 89 = .ok (.invokevirtual 368, 3) := by decide +kernel
theorem dX11_drawnPart_92 : decode cX11_drawnPart 92 = .ok (.aload_n 2, 1) := by decide +kernel
theorem dX11_drawnPart_93 : decode cX11_drawnPart 93 = .ok (.aload_n 0, 1) := by decide +kernel
theorem dX11_drawnPart_94 : decode cX11_drawnPart 94 = .ok (.getfield 10, 3) := by decide +kernel
theorem dX11_drawnPart_97 : decode cX11_drawnPart 97 = .ok (.invokevirtual 384, 3) := by decide +kernel
theorem dX11_drawnPart_100 : decode cX11_drawnPart 100 = .ok (.aload_n 2, 1) := by decide +kernel
theorem dX11_drawnPart_101 : decode cX11_drawnPart 101 = .ok (.getfield 302, 3) := by decide +kernel
theorem dX11_drawnPart_104 : decode cX11_drawnPart 104 = .ok (.aload_n 2, 1) := by decide +kernel
theorem dX11_drawnPart_105 : decode cX11_drawnPart 105 = .ok (.getfield 299, 3) := by decide +kernel
theorem dX11_drawnPart_108 : decode cX11_drawnPart 108 = .ok (.aload_n 2, 1) := by decide +kernel
theorem dX11_drawnPart_109 : decode cX11_drawnPart 109 = .ok (.getfield 284, 3) := by decide +kernel
theorem dX11_drawnPart_112 : decode cX11_drawnPart 112 = .ok (.aload_n 0, 1) := by decide +kernel
theorem dX11_drawnPart_113 : decode cX11_drawnPart 113 = .ok (.getfield 10, 3) := by decide +kernel
theorem dX11_drawnPart_116 : decode cX11_drawnPart 116 = .ok (.getfield 271, 3) := by decide +kernel
theorem dX11_drawnPart_119 : decode cX11_drawnPart 119 = .ok (.invokevirtual 387, 3) := by decide +kernel
theorem dX11_drawnPart_122 : decode cX11_drawnPart 122 = .ok (.aload_n 2, 1) := by decide +kernel
theorem dX11_drawnPart_123 : decode cX11_drawnPart 123 = .ok (.aload_n 0, 1) := by decide +kernel
theorem dX11_drawnPart_124 : decode cX11_drawnPart 124 = .ok (.getfield 10, 3) := by decide +kernel
theorem dX11_drawnPart_127 : decode cX11_drawnPart 127 = .ok (.aload_n 0, 1) := by decide +kernel
theorem dX11_drawnPart_128 : decode cX11_drawnPart 128 = .ok (.getfield 19, 3) := by decide +kernel
theorem dX11_drawnPart_131 : decode cX11_drawnPart 131 = .ok (.invokevirtual 391, 3) := by decide +kernel
theorem dX11_drawnPart_134 : decode cX11_drawnPart 134 = .ok (.aload_n 2, 1) := by decide +kernel
theorem dX11_drawnPart_135 : decode cX11_drawnPart 135 = .ok (.getfield 317, 3) := by decide +kernel
theorem dX11_drawnPart_138 : decode cX11_drawnPart 138 = .ok (.aload_n 2, 1) := by decide +kernel
theorem dX11_drawnPart_139 : decode cX11_drawnPart 139 = .ok (.getfield 302, 3) := by decide +kernel
theorem dX11_drawnPart_142 : decode cX11_drawnPart 142 = .ok (.getfield 306, 3) := by decide +kernel
theorem dX11_drawnPart_145 : decode cX11_drawnPart 145 = .ok (.aload_n 0, 1) := by decide +kernel
theorem dX11_drawnPart_146 : decode cX11_drawnPart 146 = .ok (.getfield 10, 3) := by decide +kernel
theorem dX11_drawnPart_149 : decode cX11_drawnPart 149 = .ok (.getfield 274, 3) := by decide +kernel
theorem dX11_drawnPart_152 : decode cX11_drawnPart 152 = .ok (.invokevirtual 395, 3) := by decide +kernel
theorem dX11_drawnPart_155 : decode cX11_drawnPart 155 = .ok (.aload_n 2, 1) := by decide +kernel
theorem dX11_drawnPart_156 : decode cX11_drawnPart 156 = .ok (.areturn, 1) := by decide +kernel
