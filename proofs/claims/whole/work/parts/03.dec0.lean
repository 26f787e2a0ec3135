theorem dX0_init_0 : decode cX0_init 0 = .ok (.aload_n 0, 1) := by decide +kernel
theorem dX0_init_1 : decode cX0_init 1 = .ok (.invokespecial 3, 3) := by decide +kernel
theorem dX0_init_4 : decode cX0_init 4 = .ok (.aload_n 0, 1) := by decide +kernel
theorem dX0_init_5 : decode cX0_init 5 = .ok (.new 9, 3) := by decide +kernel
theorem dX0_init_8 : decode cX0_init 8 = .ok (.dup, 1) := by decide +kernel
theorem dX0_init_9 : decode cX0_init 9 = .ok (.invokespecial 11, 3) := by decide +kernel
theorem dX0_init_12 : decode cX0_init 12 = .ok (.putfield 12, 3) := by decide +kernel
theorem dX0_init_15 : decode cX0_init 15 = .ok (.aload_n 0, 1) := by decide +kernel
theorem dX0_init_16 : decode cX0_init 16 = .ok (.aload_n 1, 1) := by decide +kernel
theorem dX0_init_17 : decode cX0_init 17 = .ok (.putfield 18, 3) := by decide +kernel
theorem dX0_init_20 : decode cX0_init 20 = .ok (.return_, 1) := by decide +kernel
theorem dX0_startWithAll_0 : decode cX0_startWithAll 0 = .ok (.aload_n 0, 1) := by decide +kernel
theorem dX0_startWithAll_1 : decode cX0_startWithAll 1 = .ok (.getfield 12, 3) := by decide +kernel
theorem dX0_startWithAll_4 : decode cX0_startWithAll 4 = .ok (.iconst 0, 1) := by decide +kernel
theorem dX0_startWithAll_5 : decode cX0_startWithAll 5 = .ok (.putfield 22, 3) := by decide +kernel
theorem dX0_startWithAll_8 : decode cX0_startWithAll 8 = .ok (.iconst 0, 1) := by decide +kernel
theorem dX0_startWithAll_9 : decode cX0_startWithAll 9 = .ok (.istore_n 1, 1) := by decide +kernel
theorem dX0_startWithAll_10 : decode cX0_startWithAll 10 = .ok (.iload_n 1, 1) := by decide +kernel
theorem dX0_startWithAll_11 : decode cX0_startWithAll 11 = .ok (.aload_n 0, 1) := by decide +kernel
theorem dX0_startWithAll_12 : decode cX0_startWithAll 12 = .ok (.getfield 18, 3) := by decide +kernel
theorem dX0_startWithAll_15 : decode cX0_startWithAll 15 = .ok (.getfield 26, 3) := by decide +kernel
theorem dX0_startWithAll_18 : decode cX0_startWithAll 18 = .ok (.if_icmp .ge 17, 3) := by decide +kernel
theorem dX0_startWithAll_21 : decode cX0_startWithAll 21 = .ok (.aload_n 0, 1) := by decide +kernel
theorem dX0_startWithAll_22 : decode cX0_startWithAll 22 = .ok (.getfield 12, 3) := by decide +kernel
theorem dX0_startWithAll_25 : decode cX0_startWithAll 25 = .ok (.iload_n 1, 1) := by decide +kernel
theorem dX0_startWithAll_26 : decode cX0_startWithAll 26 = .ok (.invokevirtual 29, 3) := by decide +kernel
theorem dX0_startWithAll_29 : decode cX0_startWithAll 29 = .ok (.iinc 1 1, 3) := by decide +kernel
theorem dX0_startWithAll_32 : decode cX0_startWithAll 32 = .ok (.goto (-22), 3) := by decide +kernel
theorem dX0_startWithAll_35 : decode cX0_startWithAll 35 = .ok (.return_, 1) := by decide +kernel
theorem dX0_sides_0 : decode cX0_sides 0 = .ok (.aload_n 0, 1) := by decide +kernel
theorem dX0_sides_1 : decode cX0_sides 1 = .ok (.getfield 12, 3) := by decide +kernel
theorem dX0_sides_4 : decode cX0_sides 4 = .ok (.getfield 33, 3) := by decide +kernel
theorem dX0_sides_7 : decode cX0_sides 7 = .ok (.iload_n 1, 1) := by decide +kernel
theorem dX0_sides_8 : decode cX0_sides 8 = .ok (.iaload, 1) := by decide +kernel
theorem dX0_sides_9 : decode cX0_sides 9 = .ok (.istore_n 3, 1) := by decide +kernel
theorem dX0_sides_10 : decode cX0_sides 10 = .ok (.aload_n 0, 1) := by decide +kernel
theorem dX0_sides_11 : decode cX0_sides 11 = .ok (.getfield 18, 3) := by decide +kernel
theorem dX0_sides_14 : decode cX0_sides 14 = .ok (.iload_n 2, 1) := by decide +kernel
theorem dX0_sides_15 : decode cX0_sides 15 = .ok (.aload_n 0, 1) := by decide +kernel
theorem dX0_sides_16 : decode cX0_sides 16 = .ok (.getfield 18, 3) := by decide +kernel
theorem dX0_sides_19 : decode cX0_sides 19 = .ok (.getfield 37, 3) := by decide +kernel
theorem dX0_sides_22 : decode cX0_sides 22 = .ok (.iload_n 3, 1) := by decide +kernel
theorem dX0_sides_23 : decode cX0_sides 23 = .ok (.iaload, 1) := by decide +kernel
theorem dX0_sides_24 : decode cX0_sides 24 = .ok (.aload_n 0, 1) := by decide +kernel
theorem dX0_sides_25 : decode cX0_sides 25 = .ok (.getfield 18, 3) := by decide +kernel
theorem dX0_sides_28 : decode cX0_sides 28 = .ok (.getfield 40, 3) := by decide +kernel
theorem dX0_sides_31 : decode cX0_sides 31 = .ok (.iload_n 3, 1) := by decide +kernel
theorem dX0_sides_32 : decode cX0_sides 32 = .ok (.iaload, 1) := by decide +kernel
theorem dX0_sides_33 : decode cX0_sides 33 = .ok (.invokevirtual 43, 3) := by decide +kernel
theorem dX0_sides_36 : decode cX0_sides 36 = .ok (.istore 4, 2) := by decide +kernel
theorem dX0_sides_38 : decode cX0_sides 38 = .ok (.aload_n 0, 1) := by decide +kernel
theorem dX0_sides_39 : decode cX0_sides 39 = .ok (.getfield 18, 3) := by decide +kernel
theorem dX0_sides_42 : decode cX0_sides 42 = .ok (.iload_n 2, 1) := by decide +kernel
theorem dX0_sides_43 : decode cX0_sides 43 = .ok (.aload_n 0, 1) := by decide +kernel
theorem dX0_sides_44 : decode cX0_sides 44 = .ok (.getfield 18, 3) := by decide +kernel
theorem dX0_sides_47 : decode cX0_sides 47 = .ok (.getfield 47, 3) := by decide +kernel
theorem dX0_sides_50 : decode cX0_sides 50 = .ok (.iload_n 3, 1) := by decide +kernel
theorem dX0_sides_51 : decode cX0_sides 51 = .ok (.iaload, 1) := by decide +kernel
theorem dX0_sides_52 : decode cX0_sides 52 = .ok (.aload_n 0, 1) := by decide +kernel
theorem dX0_sides_53 : decode cX0_sides 53 = .ok (.getfield 18, 3) := by decide +kernel
theorem dX0_sides_56 : decode cX0_sides 56 = .ok (.getfield 50, 3) := by decide +kernel
theorem dX0_sides_59 : decode cX0_sides 59 = .ok (.iload_n 3, 1) := by decide +kernel
theorem dX0_sides_60 : decode cX0_sides 60 = .ok (.iaload, 1) := by decide +kernel
theorem dX0_sides_61 : decode cX0_sides 61 = .ok (.invokevirtual 43, 3) := by decide +kernel
theorem dX0_sides_64 : decode cX0_sides 64 = .ok (.istore 5, 2) := by decide +kernel
theorem dX0_sides_66 : decode cX0_sides 66 = .ok (.iload 4, 2) := by decide +kernel
theorem dX0_sides_68 : decode cX0_sides 68 = .ok (.iload 5, 2) := by decide +kernel
theorem dX0_sides_70 : decode cX0_sides 70 = .ok (.aload_n 0, 1) := by decide +kernel
theorem dX0_sides_71 : decode cX0_sides 71 = .ok (.getfield 12, 3) := by decide +kernel
theorem dX0_sides_74 : decode cX0_sides 74 = .ok (.getfield 53, 3) := by decide +kernel
theorem dX0_sides_77 : decode cX0_sides 77 = .ok (.iload_n 1, 1) := by decide +kernel
theorem dX0_sides_78 : decode cX0_sides 78 = .ok (.iaload, 1) := by decide +kernel
theorem dX0_sides_79 : decode cX0_sides 79 = .ok (.aload_n 0, 1) := by decide +kernel
theorem dX0_sides_80 : decode cX0_sides 80 = .ok (.getfield 12, 3) := by decide +kernel
theorem dX0_sides_83 : decode cX0_sides 83 = .ok (.getfield 56, 3) := by decide +kernel
theorem dX0_sides_86 : decode cX0_sides 86 = .ok (.iload_n 1, 1) := by decide +kernel
theorem dX0_sides_87 : decode cX0_sides 87 = .ok (.iaload, 1) := by decide +kernel
theorem dX0_sides_88 : decode cX0_sides 88 = .ok (.invokestatic 59, 3) := by decide +kernel
theorem dX0_sides_91 : decode cX0_sides 91 = .ok (.iload 4, 2) := by decide +kernel
theorem dX0_sides_93 : decode cX0_sides 93 = .ok (.iload 5, 2) := by decide +kernel
theorem dX0_sides_95 : decode cX0_sides 95 = .ok (.aload_n 0, 1) := by decide +kernel
theorem dX0_sides_96 : decode cX0_sides 96 = .ok (.getfield 12, 3) := by decide +kernel
theorem dX0_sides_99 : decode cX0_sides 99 = .ok (.getfield 63, 3) := by decide +kernel
theorem dX0_sides_102 : decode cX0_sides 102 = .ok (.iload_n 1, 1) := by decide +kernel
theorem dX0_sides_103 : decode cX0_sides 103 = .ok (.iaload, 1) := by decide +kernel
theorem dX0_sides_104 : decode cX0_sides 104 = .ok (.aload_n 0, 1) := by decide +kernel
theorem dX0_sides_105 : decode cX0_sides 105 = .ok (.getfield 12, 3) := by decide +kernel
theorem dX0_sides_108 : decode cX0_sides 108 = .ok (.getfield 66, 3) := by decide +kernel
theorem dX0_sides_111 : decode cX0_sides 111 = .ok (.iload_n 1, 1) := by decide +kernel
theorem dX0_sides_112 : decode cX0_sides 112 = .ok (.iaload, 1) := by decide +kernel
theorem dX0_sides_113 : decode cX0_sides 113 = .ok (.invokestatic 59, 3) := by decide +kernel
theorem dX0_sides_116 : decode cX0_sides 116 = .ok (.ior, 1) := by decide +kernel
theorem dX0_sides_117 : decode cX0_sides 117 = .ok (.ireturn, 1) := by decide +kernel
theorem dX0_sideBetween_0 : decode cX0_sideBetween 0 = .ok (.iload_n 0, 1) := by decide +kernel
theorem dX0_sideBetween_1 : decode cX0_sideBetween 1 = .ok (.i2l, 1) := by decide +kernel
theorem dX0_sideBetween_2 : decode cX0_sideBetween 2 = .ok (.iload_n 3, 1) := by decide +kernel
theorem dX0_sideBetween_3 : decode cX0_sideBetween 3 = .ok (.iload_n 2, 1) := by decide +kernel
theorem dX0_sideBetween_4 : decode cX0_sideBetween 4 = .ok (.isub, 1) := by decide +kernel
theorem dX0_sideBetween_5 : decode cX0_sideBetween 5 = .ok (.i2l, 1) := by decide +kernel
theorem dX0_sideBetween_6 : decode cX0_sideBetween 6 = .ok (.lmul, 1) := by decide +kernel
theorem dX0_sideBetween_7 : decode cX0_sideBetween 7 = .ok (.iload_n 1, 1) := by decide +kernel
theorem dX0_sideBetween_8 : decode cX0_sideBetween 8 = .ok (.i2l, 1) := by decide +kernel
theorem dX0_sideBetween_9 : decode cX0_sideBetween 9 = .ok (.iload_n 2, 1) := by decide +kernel
theorem dX0_sideBetween_10 : decode cX0_sideBetween 10 = .ok (.i2l, 1) := by decide +kernel
theorem dX0_sideBetween_11 : decode cX0_sideBetween 11 = .ok (.lmul, 1) := by decide +kernel
theorem dX0_sideBetween_12 : decode cX0_sideBetween 12 = .ok (.ladd, 1) := by decide +kernel
theorem dX0_sideBetween_13 : decode cX0_sideBetween 13 = .ok (.lstore 4, 2) := by decide +kernel
theorem dX0_sideBetween_15 : decode cX0_sideBetween 15 = .ok (.lload 4, 2) := by decide +kernel
theorem dX0_sideBetween_17 : decode cX0_sideBetween 17 = .ok (.lconst 0, 1) := by decide +kernel
theorem dX0_sideBetween_18 : decode cX0_sideBetween 18 = .ok (.lcmp, 1) := by decide +kernel
theorem dX0_sideBetween_19 : decode cX0_sideBetween 19 = .ok (.ifCond .le 7, 3) := by decide +kernel
theorem dX0_sideBetween_22 : decode cX0_sideBetween 22 = .ok (.iconst 1, 1) := by decide +kernel
theorem dX0_sideBetween_23 : decode cX0_sideBetween 23 = .ok (.goto 15, 3) := by decide +kernel
theorem dX0_sideBetween_26 : decode cX0_sideBetween 26 = .ok (.lload 4, 2) := by decide +kernel
theorem dX0_sideBetween_28 : decode cX0_sideBetween 28 = .ok (.lconst 0, 1) := by decide +kernel
theorem dX0_sideBetween_29 : decode cX0_sideBetween 29 = .ok (.lcmp, 1) := by decide +kernel
theorem dX0_sideBetween_30 : decode cX0_sideBetween 30 = .ok (.ifCond .ge 7, 3) := by decide +kernel
theorem dX0_sideBetween_33 : decode cX0_sideBetween 33 = .ok (.iconst 2, 1) := by decide +kernel
theorem dX0_sideBetween_34 : decode cX0_sideBetween 34 = .ok (.goto 4, 3) := by decide +kernel
theorem dX0_sideBetween_37 : decode cX0_sideBetween 37 = .ok (.iconst 0, 1) := by decide +kernel
theorem dX0_sideBetween_38 : decode cX0_sideBetween 38 = .ok (.ireturn, 1) := by decide +kernel
theorem dX0_addSideRow_0 : decode cX0_addSideRow 0 = .ok (.iload_n 1, 1) := by decide +kernel
theorem dX0_addSideRow_1 : decode cX0_addSideRow 1 = .ok (.istore 5, 2) := by decide +kernel
theorem dX0_addSideRow_3 : decode cX0_addSideRow 3 = .ok (.iload 5, 2) := by decide +kernel
theorem dX0_addSideRow_5 : decode cX0_addSideRow 5 = .ok (.iload_n 2, 1) := by decide +kernel
theorem dX0_addSideRow_6 : decode cX0_addSideRow 6 = .ok (.if_icmp .ge 56, 3) := by decide +kernel
theorem dX0_addSideRow_9 : decode cX0_addSideRow 9 = .ok (.aload_n 0, 1) := by decide +kernel
theorem dX0_addSideRow_10 : decode cX0_addSideRow 10 = .ok (.iload 5, 2) := by decide +kernel
theorem dX0_addSideRow_12 : decode cX0_addSideRow 12 = .ok (.iload_n 3, 1) := by decide +kernel
theorem dX0_addSideRow_13 : decode cX0_addSideRow 13 = .ok (.invokevirtual 69, 3) := by decide +kernel
theorem dX0_addSideRow_16 : decode cX0_addSideRow 16 = .ok (.istore 6, 2) := by decide +kernel
theorem dX0_addSideRow_18 : decode cX0_addSideRow 18 = .ok (.iload 6, 2) := by decide +kernel
theorem dX0_addSideRow_20 : decode cX0_addSideRow 20 = .ok (.iconst 3, 1) := by decide +kernel
theorem dX0_addSideRow_21 : decode cX0_addSideRow 21 = .ok (.if_icmp .ne 15, 3) := by decide +kernel
theorem dX0_addSideRow_24 : decode cX0_addSideRow 24 = .ok (.aload_n 0, 1) := by decide +kernel
theorem dX0_addSideRow_25 : decode cX0_addSideRow 25 = .ok (.iload 5, 2) := by decide +kernel
theorem dX0_addSideRow_27 : decode cX0_addSideRow 27 = .ok (.iload_n 3, 1) := by decide +kernel
theorem dX0_addSideRow_28 : decode cX0_addSideRow 28 = .ok (.iload 4, 2) := by decide +kernel
theorem dX0_addSideRow_30 : decode cX0_addSideRow 30 = .ok (.invokevirtual 73, 3) := by decide +kernel
theorem dX0_addSideRow_33 : decode cX0_addSideRow 33 = .ok (.goto 23, 3) := by decide +kernel
theorem dX0_addSideRow_36 : decode cX0_addSideRow 36 = .ok (.iload 6, 2) := by decide +kernel
theorem dX0_addSideRow_38 : decode cX0_addSideRow 38 = .ok (.iload 4, 2) := by decide +kernel
theorem dX0_addSideRow_40 : decode cX0_addSideRow 40 = .ok (.if_icmp .ne 16, 3) := by decide +kernel
theorem dX0_addSideRow_43 : decode cX0_addSideRow 43 = .ok (.aload_n 0, 1) := by decide +kernel
theorem dX0_addSideRow_44 : decode cX0_addSideRow 44 = .ok (.getfield 12, 3) := by decide +kernel
theorem dX0_addSideRow_47 : decode cX0_addSideRow 47 = .ok (.aload_n 0, 1) := by decide +kernel
theorem dX0_addSideRow_48 : decode cX0_addSideRow 48 = .ok (.getfield 12, 3) := by decide +kernel
theorem dX0_addSideRow_51 : decode cX0_addSideRow 51 = .ok (.iload 5, 2) := by decide +kernel
theorem dX0_addSideRow_53 : decode cX0_addSideRow 53 = .ok (.invokevirtual 77, 3) := by decide +kernel
theorem dX0_addSideRow_56 : decode cX0_addSideRow 56 = .ok (.iinc 5 1, 3) := by decide +kernel
theorem dX0_addSideRow_59 : decode cX0_addSideRow 59 = .ok (.goto (-56), 3) := by decide +kernel
theorem dX0_addSideRow_62 : decode cX0_addSideRow 62 = .ok (.return_, 1) := by decide +kernel
theorem dX0_addHalf_0 : decode cX0_addHalf 0 = .ok (.aload_n 0, 1) := by decide +kernel
theorem dX0_addHalf_1 : decode cX0_addHalf 1 = .ok (.getfield 12, 3) := by decide +kernel
theorem dX0_addHalf_4 : decode cX0_addHalf 4 = .ok (.getfield 33, 3) := by decide +kernel
theorem dX0_addHalf_7 : decode cX0_addHalf 7 = .ok (.iload_n 1, 1) := by decide +kernel
theorem dX0_addHalf_8 : decode cX0_addHalf 8 = .ok (.iaload, 1) := by decide +kernel
theorem dX0_addHalf_9 : decode cX0_addHalf 9 = .ok (.istore 4, 2) := by decide +kernel
theorem dX0_addHalf_11 : decode cX0_addHalf 11 = .ok (.aload_n 0, 1) := by decide +kernel
theorem dX0_addHalf_12 : decode cX0_addHalf 12 = .ok (.getfield 18, 3) := by decide +kernel
theorem dX0_addHalf_15 : decode cX0_addHalf 15 = .ok (.iload_n 2, 1) := by decide +kernel
theorem dX0_addHalf_16 : decode cX0_addHalf 16 = .ok (.aload_n 0, 1) := by decide +kernel
theorem dX0_addHalf_17 : decode cX0_addHalf 17 = .ok (.getfield 18, 3) := by decide +kernel
theorem dX0_addHalf_20 : decode cX0_addHalf 20 = .ok (.getfield 37, 3) := by decide +kernel
theorem dX0_addHalf_23 : decode cX0_addHalf 23 = .ok (.iload 4, 2) := by decide +kernel
theorem dX0_addHalf_25 : decode cX0_addHalf 25 = .ok (.iaload, 1) := by decide +kernel
theorem dX0_addHalf_26 : decode cX0_addHalf 26 = .ok (.aload_n 0, 1) := by decide +kernel
theorem dX0_addHalf_27 : decode cX0_addHalf 27 = .ok (.getfield 18, 3) := by decide +kernel
theorem dX0_addHalf_30 : decode cX0_addHalf 30 = .ok (.getfield 40, 3) := by decide +kernel
theorem dX0_addHalf_33 : decode cX0_addHalf 33 = .ok (.iload 4, 2) := by decide +kernel
theorem dX0_addHalf_35 : decode cX0_addHalf 35 = .ok (.iaload, 1) := by decide +kernel
theorem dX0_addHalf_36 : decode cX0_addHalf 36 = .ok (.invokevirtual 43, 3) := by decide +kernel
theorem dX0_addHalf_39 : decode cX0_addHalf 39 = .ok (.istore 5, 2) := by decide +kernel
theorem dX0_addHalf_41 : decode cX0_addHalf 41 = .ok (.aload_n 0, 1) := by decide +kernel
theorem dX0_addHalf_42 : decode cX0_addHalf 42 = .ok (.getfield 18, 3) := by decide +kernel
theorem dX0_addHalf_45 : decode cX0_addHalf 45 = .ok (.iload_n 2, 1) := by decide +kernel
theorem dX0_addHalf_46 : decode cX0_addHalf 46 = .ok (.aload_n 0, 1) := by decide +kernel
theorem dX0_addHalf_47 : decode cX0_addHalf 47 = .ok (.getfield 18, 3) := by decide +kernel
theorem dX0_addHalf_50 : decode cX0_addHalf 50 = .ok (.getfield 47, 3) := by decide +kernel
theorem dX0_addHalf_53 : decode cX0_addHalf 53 = .ok (.iload 4, 2) := by decide +kernel
theorem dX0_addHalf_55 : decode cX0_addHalf 55 = .ok (.iaload, 1) := by decide +kernel
theorem dX0_addHalf_56 : decode cX0_addHalf 56 = .ok (.aload_n 0, 1) := by decide +kernel
theorem dX0_addHalf_57 : decode cX0_addHalf 57 = .ok (.getfield 18, 3) := by decide +kernel
theorem dX0_addHalf_60 : decode cX0_addHalf 60 = .ok (.getfield 50, 3) := by decide +kernel
theorem dX0_addHalf_63 : decode cX0_addHalf 63 = .ok (.iload 4, 2) := by decide +kernel
theorem dX0_addHalf_65 : decode cX0_addHalf 65 = .ok (.iaload, 1) := by decide +kernel
theorem dX0_addHalf_66 : decode cX0_addHalf 66 = .ok (.invokevirtual 43, 3) := by decide +kernel
theorem dX0_addHalf_69 : decode cX0_addHalf 69 = .ok (.istore 6, 2) := by decide +kernel
theorem dX0_addHalf_71 : decode cX0_addHalf 71 = .ok (.iload 5, 2) := by decide +kernel
theorem dX0_addHalf_73 : decode cX0_addHalf 73 = .ok (.invokestatic 81, 3) := by decide +kernel
theorem dX0_addHalf_76 : decode cX0_addHalf 76 = .ok (.istore 7, 2) := by decide +kernel
theorem dX0_addHalf_78 : decode cX0_addHalf 78 = .ok (.iload 7, 2) := by decide +kernel
theorem dX0_addHalf_80 : decode cX0_addHalf 80 = .ok (.iload 6, 2) := by decide +kernel
theorem dX0_addHalf_82 : decode cX0_addHalf 82 = .ok (.invokestatic 81, 3) := by decide +kernel
theorem dX0_addHalf_85 : decode cX0_addHalf 85 = .ok (.iadd, 1) := by decide +kernel
theorem dX0_addHalf_86 : decode cX0_addHalf 86 = .ok (.istore 8, 2) := by decide +kernel
theorem dX0_addHalf_88 : decode cX0_addHalf 88 = .ok (.iload 5, 2) := by decide +kernel
theorem dX0_addHalf_90 : decode cX0_addHalf 90 = .ok (.ifCond .le 7, 3) := by decide +kernel
theorem dX0_addHalf_93 : decode cX0_addHalf 93 = .ok (.iconst 1, 1) := by decide +kernel
theorem dX0_addHalf_94 : decode cX0_addHalf 94 = .ok (.goto 4, 3) := by decide +kernel
theorem dX0_addHalf_97 : decode cX0_addHalf 97 = .ok (.iconst 0, 1) := by decide +kernel
theorem dX0_addHalf_98 : decode cX0_addHalf 98 = .ok (.istore 9, 2) := by decide +kernel
theorem dX0_addHalf_100 : decode cX0_addHalf 100 = .ok (.iload 9, 2) := by decide +kernel
theorem dX0_addHalf_102 : decode cX0_addHalf 102 = .ok (.iload_n 3, 1) := by decide +kernel
theorem dX0_addHalf_103 : decode cX0_addHalf 103 = .ok (.iconst 1, 1) := by decide +kernel
theorem dX0_addHalf_104 : decode cX0_addHalf 104 = .ok (.if_icmp .ne 7, 3) := by decide +kernel
theorem dX0_addHalf_107 : decode cX0_addHalf 107 = .ok (.iconst 1, 1) := by decide +kernel
theorem dX0_addHalf_108 : decode cX0_addHalf 108 = .ok (.goto 4, 3) := by decide +kernel
theorem dX0_addHalf_111 : decode cX0_addHalf 111 = .ok (.iconst 0, 1) := by decide +kernel
theorem dX0_addHalf_112 : decode cX0_addHalf 112 = .ok (.if_icmp .ne 37, 3) := by decide +kernel
theorem dX0_addHalf_115 : decode cX0_addHalf 115 = .ok (.aload_n 0, 1) := by decide +kernel
theorem dX0_addHalf_116 : decode cX0_addHalf 116 = .ok (.getfield 12, 3) := by decide +kernel
theorem dX0_addHalf_119 : decode cX0_addHalf 119 = .ok (.iload 4, 2) := by decide +kernel
theorem dX0_addHalf_121 : decode cX0_addHalf 121 = .ok (.aload_n 0, 1) := by decide +kernel
theorem dX0_addHalf_122 : decode cX0_addHalf 122 = .ok (.getfield 12, 3) := by decide +kernel
theorem dX0_addHalf_125 : decode cX0_addHalf 125 = .ok (.getfield 53, 3) := by decide +kernel
theorem dX0_addHalf_128 : decode cX0_addHalf 128 = .ok (.iload_n 1, 1) := by decide +kernel
theorem dX0_addHalf_129 : decode cX0_addHalf 129 = .ok (.iaload, 1) := by decide +kernel
theorem dX0_addHalf_130 : decode cX0_addHalf 130 = .ok (.aload_n 0, 1) := by decide +kernel
theorem dX0_addHalf_131 : decode cX0_addHalf 131 = .ok (.getfield 12, 3) := by decide +kernel
theorem dX0_addHalf_134 : decode cX0_addHalf 134 = .ok (.getfield 56, 3) := by decide +kernel
theorem dX0_addHalf_137 : decode cX0_addHalf 137 = .ok (.iload_n 1, 1) := by decide +kernel
theorem dX0_addHalf_138 : decode cX0_addHalf 138 = .ok (.iaload, 1) := by decide +kernel
theorem dX0_addHalf_139 : decode cX0_addHalf 139 = .ok (.iload 7, 2) := by decide +kernel
theorem dX0_addHalf_141 : decode cX0_addHalf 141 = .ok (.iload 8, 2) := by decide +kernel
theorem dX0_addHalf_143 : decode cX0_addHalf 143 = .ok (.invokevirtual 87, 3) := by decide +kernel
theorem dX0_addHalf_146 : decode cX0_addHalf 146 = .ok (.goto 34, 3) := by decide +kernel
theorem dX0_addHalf_149 : decode cX0_addHalf 149 = .ok (.aload_n 0, 1) := by decide +kernel
theorem dX0_addHalf_150 : decode cX0_addHalf 150 = .ok (.getfield 12, 3) := by decide +kernel
theorem dX0_addHalf_153 : decode cX0_addHalf 153 = .ok (.iload 4, 2) := by decide +kernel
theorem dX0_addHalf_155 : decode cX0_addHalf 155 = .ok (.iload 7, 2) := by decide +kernel
theorem dX0_addHalf_157 : decode cX0_addHalf 157 = .ok (.iload 8, 2) := by decide +kernel
theorem dX0_addHalf_159 : decode cX0_addHalf 159 = .ok (.aload_n 0, 1) := by decide +kernel
theorem dX0_addHalf_160 : decode cX0_addHalf 160 = .ok (.getfield 12, 3) := by decide +kernel
theorem dX0_addHalf_163 : decode cX0_addHalf 163 = .ok (.getfield 63, 3) := by decide +kernel
theorem dX0_addHalf_166 : decode cX0_addHalf 166 = .ok (.iload_n 1, 1) := by decide +kernel
theorem dX0_addHalf_167 : decode cX0_addHalf 167 = .ok (.iaload, 1) := by decide +kernel
theorem dX0_addHalf_168 : decode cX0_addHalf 168 = .ok (.aload_n 0, 1) := by decide +kernel
theorem dX0_addHalf_169 : decode cX0_addHalf 169 = .ok (.getfield 12, 3) := by decide +kernel
theorem dX0_addHalf_172 : decode cX0_addHalf 172 = .ok (.getfield 66, 3) := by decide +kernel
theorem dX0_addHalf_175 : decode cX0_addHalf 175 = .ok (.iload_n 1, 1) := by decide +kernel
theorem dX0_addHalf_176 : decode cX0_addHalf 176 = .ok (.iaload, 1) := by decide +kernel
theorem dX0_addHalf_177 : decode cX0_addHalf 177 = .ok (.invokevirtual 87, 3) := by decide +kernel
theorem dX0_addHalf_180 : decode cX0_addHalf 180 = .ok (.return_, 1) := by decide +kernel
theorem dX1_init_0 : decode cX1_init 0 = .ok (.aload_n 0, 1) := by decide +kernel
theorem dX1_init_1 : decode cX1_init 1 = .ok (.invokespecial 3, 3) := by decide +kernel
theorem dX1_init_4 : decode cX1_init 4 = .ok (.aload_n 0, 1) := by decide +kernel
theorem dX1_init_5 : decode cX1_init 5 = .ok (.bipush 24, 2) := by decide +kernel
theorem dX1_init_7 : decode cX1_init 7 = .ok (.newarray .int, 2) := by decide +kernel
theorem dX1_init_9 : decode cX1_init 9 = .ok (.putfield 9, 3) := by decide +kernel
theorem dX1_init_12 : decode cX1_init 12 = .ok (.aload_n 0, 1) := by decide +kernel
theorem dX1_init_13 : decode cX1_init 13 = .ok (.bipush 24, 2) := by decide +kernel
theorem dX1_init_15 : decode cX1_init 15 = .ok (.newarray .int, 2) := by decide +kernel
theorem dX1_init_17 : decode cX1_init 17 = .ok (.putfield 15, 3) := by decide +kernel
theorem dX1_init_20 : decode cX1_init 20 = .ok (.aload_n 0, 1) := by decide +kernel
theorem dX1_init_21 : decode cX1_init 21 = .ok (.bipush 24, 2) := by decide +kernel
theorem dX1_init_23 : decode cX1_init 23 = .ok (.newarray .int, 2) := by decide +kernel
theorem dX1_init_25 : decode cX1_init 25 = .ok (.putfield 18, 3) := by decide +kernel
theorem dX1_init_28 : decode cX1_init 28 = .ok (.aload_n 0, 1) := by decide +kernel
theorem dX1_init_29 : decode cX1_init 29 = .ok (.aload_n 1, 1) := by decide +kernel
theorem dX1_init_30 : decode cX1_init 30 = .ok (.putfield 21, 3) := by decide +kernel
theorem dX1_init_33 : decode cX1_init 33 = .ok (.return_, 1) := by decide +kernel
theorem dX1_meetAll_0 : decode cX1_meetAll 0 = .ok (.aload_n 0, 1) := by decide +kernel
theorem dX1_meetAll_1 : decode cX1_meetAll 1 = .ok (.iconst 0, 1) := by decide +kernel
theorem dX1_meetAll_2 : decode cX1_meetAll 2 = .ok (.putfield 25, 3) := by decide +kernel
theorem dX1_meetAll_5 : decode cX1_meetAll 5 = .ok (.iconst 0, 1) := by decide +kernel
theorem dX1_meetAll_6 : decode cX1_meetAll 6 = .ok (.istore 5, 2) := by decide +kernel
theorem dX1_meetAll_8 : decode cX1_meetAll 8 = .ok (.iload 5, 2) := by decide +kernel
theorem dX1_meetAll_10 : decode cX1_meetAll 10 = .ok (.aload_n 0, 1) := by decide +kernel
theorem dX1_meetAll_11 : decode cX1_meetAll 11 = .ok (.getfield 21, 3) := by decide +kernel
theorem dX1_meetAll_14 : decode cX1_meetAll 14 = .ok (.getfield 29, 3) := by decide +kernel
theorem dX1_meetAll_17 : decode cX1_meetAll 17 = .ok (.if_icmp .ge 20, 3) := by decide +kernel
theorem dX1_meetAll_20 : decode cX1_meetAll 20 = .ok (.aload_n 0, 1) := by decide +kernel
theorem dX1_meetAll_21 : decode cX1_meetAll 21 = .ok (.iload 5, 2) := by decide +kernel
theorem dX1_meetAll_23 : decode cX1_meetAll 23 = .ok (.iload_n 1, 1) := by decide +kernel
theorem dX1_meetAll_24 : decode cX1_meetAll 24 = .ok (.iload_n 2, 1) := by decide +kernel
theorem dX1_meetAll_25 : decode cX1_meetAll 25 = .ok (.iload_n 3, 1) := by decide +kernel
theorem dX1_meetAll_26 : decode cX1_meetAll 26 = .ok (.iload 4, 2) := by decide +kernel
theorem dX1_meetAll_28 : decode cX1_meetAll 28 = .ok (.invokevirtual 32, 3) := by decide +kernel
theorem dX1_meetAll_31 : decode cX1_meetAll 31 = .ok (.iinc 5 1, 3) := by decide +kernel
theorem dX1_meetAll_34 : decode cX1_meetAll 34 = .ok (.goto (-26), 3) := by decide +kernel
theorem dX1_meetAll_37 : decode cX1_meetAll 37 = .ok (.return_, 1) := by decide +kernel
theorem dX1_meetOne_0 : decode cX1_meetOne 0 = .ok (.aload_n 0, 1) := by decide +kernel
theorem dX1_meetOne_1 : decode cX1_meetOne 1 = .ok (.getfield 21, 3) := by decide +kernel
theorem dX1_meetOne_4 : decode cX1_meetOne 4 = .ok (.getfield 36, 3) := by decide +kernel
theorem dX1_meetOne_7 : decode cX1_meetOne 7 = .ok (.iload_n 1, 1) := by decide +kernel
theorem dX1_meetOne_8 : decode cX1_meetOne 8 = .ok (.iaload, 1) := by decide +kernel
theorem dX1_meetOne_9 : decode cX1_meetOne 9 = .ok (.aload_n 0, 1) := by decide +kernel
theorem dX1_meetOne_10 : decode cX1_meetOne 10 = .ok (.getfield 21, 3) := by decide +kernel
theorem dX1_meetOne_13 : decode cX1_meetOne 13 = .ok (.getfield 39, 3) := by decide +kernel
theorem dX1_meetOne_16 : decode cX1_meetOne 16 = .ok (.iload_n 1, 1) := by decide +kernel
theorem dX1_meetOne_17 : decode cX1_meetOne 17 = .ok (.iaload, 1) := by decide +kernel
theorem dX1_meetOne_18 : decode cX1_meetOne 18 = .ok (.isub, 1) := by decide +kernel
theorem dX1_meetOne_19 : decode cX1_meetOne 19 = .ok (.istore 6, 2) := by decide +kernel
theorem dX1_meetOne_21 : decode cX1_meetOne 21 = .ok (.aload_n 0, 1) := by decide +kernel
theorem dX1_meetOne_22 : decode cX1_meetOne 22 = .ok (.getfield 21, 3) := by decide +kernel
theorem dX1_meetOne_25 : decode cX1_meetOne 25 = .ok (.getfield 42, 3) := by decide +kernel
theorem dX1_meetOne_28 : decode cX1_meetOne 28 = .ok (.iload_n 1, 1) := by decide +kernel
theorem dX1_meetOne_29 : decode cX1_meetOne 29 = .ok (.iaload, 1) := by decide +kernel
theorem dX1_meetOne_30 : decode cX1_meetOne 30 = .ok (.aload_n 0, 1) := by decide +kernel
theorem dX1_meetOne_31 : decode cX1_meetOne 31 = .ok (.getfield 21, 3) := by decide +kernel
theorem dX1_meetOne_34 : decode cX1_meetOne 34 = .ok (.getfield 45, 3) := by decide +kernel
theorem dX1_meetOne_37 : decode cX1_meetOne 37 = .ok (.iload_n 1, 1) := by decide +kernel
theorem dX1_meetOne_38 : decode cX1_meetOne 38 = .ok (.iaload, 1) := by decide +kernel
theorem dX1_meetOne_39 : decode cX1_meetOne 39 = .ok (.isub, 1) := by decide +kernel
theorem dX1_meetOne_40 : decode cX1_meetOne 40 = .ok (.istore 7, 2) := by decide +kernel
theorem dX1_meetOne_42 : decode cX1_meetOne 42 = .ok (.aload_n 0, 1) := by decide +kernel
theorem dX1_meetOne_43 : decode cX1_meetOne 43 = .ok (.getfield 21, 3) := by decide +kernel
theorem dX1_meetOne_46 : decode cX1_meetOne 46 = .ok (.getfield 39, 3) := by decide +kernel
theorem dX1_meetOne_49 : decode cX1_meetOne 49 = .ok (.iload_n 1, 1) := by decide +kernel
theorem dX1_meetOne_50 : decode cX1_meetOne 50 = .ok (.iaload, 1) := by decide +kernel
theorem dX1_meetOne_51 : decode cX1_meetOne 51 = .ok (.iload_n 2, 1) := by decide +kernel
theorem dX1_meetOne_52 : decode cX1_meetOne 52 = .ok (.isub, 1) := by decide +kernel
theorem dX1_meetOne_53 : decode cX1_meetOne 53 = .ok (.istore 8, 2) := by decide +kernel
theorem dX1_meetOne_55 : decode cX1_meetOne 55 = .ok (.aload_n 0, 1) := by decide +kernel
theorem dX1_meetOne_56 : decode cX1_meetOne 56 = .ok (.getfield 21, 3) := by decide +kernel
theorem dX1_meetOne_59 : decode cX1_meetOne 59 = .ok (.getfield 45, 3) := by decide +kernel
theorem dX1_meetOne_62 : decode cX1_meetOne 62 = .ok (.iload_n 1, 1) := by decide +kernel
theorem dX1_meetOne_63 : decode cX1_meetOne 63 = .ok (.iaload, 1) := by decide +kernel
theorem dX1_meetOne_64 : decode cX1_meetOne 64 = .ok (.iload_n 3, 1) := by decide +kernel
theorem dX1_meetOne_65 : decode cX1_meetOne 65 = .ok (.isub, 1) := by decide +kernel
theorem dX1_meetOne_66 : decode cX1_meetOne 66 = .ok (.istore 9, 2) := by decide +kernel
theorem dX1_meetOne_68 : decode cX1_meetOne 68 = .ok (.iload 4, 2) := by decide +kernel
theorem dX1_meetOne_70 : decode cX1_meetOne 70 = .ok (.iload 5, 2) := by decide +kernel
theorem dX1_meetOne_72 : decode cX1_meetOne 72 = .ok (.iload 6, 2) := by decide +kernel
theorem dX1_meetOne_74 : decode cX1_meetOne 74 = .ok (.iload 7, 2) := by decide +kernel
theorem dX1_meetOne_76 : decode cX1_meetOne 76 = .ok (.invokestatic 48, 3) := by decide +kernel
theorem dX1_meetOne_79 : decode cX1_meetOne 79 = .ok (.istore 10, 2) := by decide +kernel
theorem dX1_meetOne_81 : decode cX1_meetOne 81 = .ok (.iload 8, 2) := by decide +kernel
theorem dX1_meetOne_83 : decode cX1_meetOne 83 = .ok (.iload 9, 2) := by decide +kernel
theorem dX1_meetOne_85 : decode cX1_meetOne 85 = .ok (.iload 4, 2) := by decide +kernel
theorem dX1_meetOne_87 : decode cX1_meetOne 87 = .ok (.iload 5, 2) := by decide +kernel
theorem dX1_meetOne_89 : decode cX1_meetOne 89 = .ok (.invokestatic 48, 3) := by decide +kernel
theorem dX1_meetOne_92 : decode cX1_meetOne 92 = .ok (.istore 11, 2) := by decide +kernel
theorem dX1_meetOne_94 : decode cX1_meetOne 94 = .ok (.iload 10, 2) := by decide +kernel
theorem dX1_meetOne_96 : decode cX1_meetOne 96 = .ok (.ifCond .eq 73, 3) := by decide +kernel
theorem dX1_meetOne_99 : decode cX1_meetOne 99 = .ok (.iload 10, 2) := by decide +kernel
theorem dX1_meetOne_101 : decode cX1_meetOne 101 = .ok (.ifCond .le 7, 3) := by decide +kernel
theorem dX1_meetOne_104 : decode cX1_meetOne 104 = .ok (.iconst 1, 1) := by decide +kernel
theorem dX1_meetOne_105 : decode cX1_meetOne 105 = .ok (.goto 4, 3) := by decide +kernel
theorem dX1_meetOne_108 : decode cX1_meetOne 108 = .ok (.iconst (-1), 1) := by decide +kernel
theorem dX1_meetOne_109 : decode cX1_meetOne 109 = .ok (.istore 12, 2) := by decide +kernel
theorem dX1_meetOne_111 : decode cX1_meetOne 111 = .ok (.iload 12, 2) := by decide +kernel
theorem dX1_meetOne_113 : decode cX1_meetOne 113 = .ok (.iload 11, 2) := by decide +kernel
theorem dX1_meetOne_115 : decode cX1_meetOne 115 = .ok (.imul, 1) := by decide +kernel
theorem dX1_meetOne_116 : decode cX1_meetOne 116 = .ok (.istore 13, 2) := by decide +kernel
theorem dX1_meetOne_118 : decode cX1_meetOne 118 = .ok (.iload 12, 2) := by decide +kernel
theorem dX1_meetOne_120 : decode cX1_meetOne 120 = .ok (.iload 8, 2) := by decide +kernel
theorem dX1_meetOne_122 : decode cX1_meetOne 122 = .ok (.iload 9, 2) := by decide +kernel
theorem dX1_meetOne_124 : decode cX1_meetOne 124 = .ok (.iload 6, 2) := by decide +kernel
theorem dX1_meetOne_126 : decode cX1_meetOne 126 = .ok (.iload 7, 2) := by decide +kernel
theorem dX1_meetOne_128 : decode cX1_meetOne 128 = .ok (.invokestatic 48, 3) := by decide +kernel
theorem dX1_meetOne_131 : decode cX1_meetOne 131 = .ok (.imul, 1) := by decide +kernel
theorem dX1_meetOne_132 : decode cX1_meetOne 132 = .ok (.istore 14, 2) := by decide +kernel
theorem dX1_meetOne_134 : decode cX1_meetOne 134 = .ok (.iload 14, 2) := by decide +kernel
theorem dX1_meetOne_136 : decode cX1_meetOne 136 = .ok (.ifCond .lt 30, 3) := by decide +kernel
theorem dX1_meetOne_139 : decode cX1_meetOne 139 = .ok (.iload 13, 2) := by decide +kernel
theorem dX1_meetOne_141 : decode cX1_meetOne 141 = .ok (.ifCond .lt 25, 3) := by decide +kernel
theorem dX1_meetOne_144 : decode cX1_meetOne 144 = .ok (.iload 13, 2) := by decide +kernel
theorem dX1_meetOne_146 : decode cX1_meetOne 146 = .ok (.iload 12, 2) := by decide +kernel
theorem dX1_meetOne_148 : decode cX1_meetOne 148 = .ok (.iload 10, 2) := by decide +kernel
theorem dX1_meetOne_150 : decode cX1_meetOne 150 = .ok (.imul, 1) := by decide +kernel
theorem dX1_meetOne_151 : decode cX1_meetOne 151 = .ok (.if_icmp .gt 15, 3) := by decide +kernel
theorem dX1_meetOne_154 : decode cX1_meetOne 154 = .ok (.aload_n 0, 1) := by decide +kernel
theorem dX1_meetOne_155 : decode cX1_meetOne 155 = .ok (.iload_n 1, 1) := by decide +kernel
theorem dX1_meetOne_156 : decode cX1_meetOne 156 = .ok (.iload 14, 2) := by decide +kernel
theorem dX1_meetOne_158 : decode cX1_meetOne 158 = .ok (.iload 12, 2) := by decide +kernel
theorem dX1_meetOne_160 : decode cX1_meetOne 160 = .ok (.iload 10, 2) := by decide +kernel
theorem dX1_meetOne_162 : decode cX1_meetOne 162 = .ok (.imul, 1) := by decide +kernel
theorem dX1_meetOne_163 : decode cX1_meetOne 163 = .ok (.invokevirtual 52, 3) := by decide +kernel
theorem dX1_meetOne_166 : decode cX1_meetOne 166 = .ok (.goto 74, 3) := by decide +kernel
theorem dX1_meetOne_169 : decode cX1_meetOne 169 = .ok (.iload 11, 2) := by decide +kernel
theorem dX1_meetOne_171 : decode cX1_meetOne 171 = .ok (.ifCond .ne 69, 3) := by decide +kernel
theorem dX1_meetOne_174 : decode cX1_meetOne 174 = .ok (.iload 8, 2) := by decide +kernel
theorem dX1_meetOne_176 : decode cX1_meetOne 176 = .ok (.iload 4, 2) := by decide +kernel
theorem dX1_meetOne_178 : decode cX1_meetOne 178 = .ok (.imul, 1) := by decide +kernel
theorem dX1_meetOne_179 : decode cX1_meetOne 179 = .ok (.iload 9, 2) := by decide +kernel
theorem dX1_meetOne_181 : decode cX1_meetOne 181 = .ok (.iload 5, 2) := by decide +kernel
theorem dX1_meetOne_183 : decode cX1_meetOne 183 = .ok (.imul, 1) := by decide +kernel
theorem dX1_meetOne_184 : decode cX1_meetOne 184 = .ok (.iadd, 1) := by decide +kernel
theorem dX1_meetOne_185 : decode cX1_meetOne 185 = .ok (.istore 12, 2) := by decide +kernel
theorem dX1_meetOne_187 : decode cX1_meetOne 187 = .ok (.iload 12, 2) := by decide +kernel
theorem dX1_meetOne_189 : decode cX1_meetOne 189 = .ok (.iload 6, 2) := by decide +kernel
theorem dX1_meetOne_191 : decode cX1_meetOne 191 = .ok (.iload 4, 2) := by decide +kernel
theorem dX1_meetOne_193 : decode cX1_meetOne 193 = .ok (.imul, 1) := by decide +kernel
theorem dX1_meetOne_194 : decode cX1_meetOne 194 = .ok (.iadd, 1) := by decide +kernel
theorem dX1_meetOne_195 : decode cX1_meetOne 195 = .ok (.iload 7, 2) := by decide +kernel
theorem dX1_meetOne_197 : decode cX1_meetOne 197 = .ok (.iload 5, 2) := by decide +kernel
theorem dX1_meetOne_199 : decode cX1_meetOne 199 = .ok (.imul, 1) := by decide +kernel
theorem dX1_meetOne_200 : decode cX1_meetOne 200 = .ok (.iadd, 1) := by decide +kernel
theorem dX1_meetOne_201 : decode cX1_meetOne 201 = .ok (.istore 13, 2) := by decide +kernel
theorem dX1_meetOne_203 : decode cX1_meetOne 203 = .ok (.iload 12, 2) := by decide +kernel
theorem dX1_meetOne_205 : decode cX1_meetOne 205 = .ok (.ifCond .ge 8, 3) := by decide +kernel
theorem dX1_meetOne_208 : decode cX1_meetOne 208 = .ok (.iload 13, 2) := by decide +kernel
theorem dX1_meetOne_210 : decode cX1_meetOne 210 = .ok (.ifCond .lt 30, 3) := by decide +kernel
theorem dX1_meetOne_213 : decode cX1_meetOne 213 = .ok (.aload_n 0, 1) := by decide +kernel
theorem dX1_meetOne_214 : decode cX1_meetOne 214 = .ok (.iload_n 1, 1) := by decide +kernel
theorem dX1_meetOne_215 : decode cX1_meetOne 215 = .ok (.iconst 0, 1) := by decide +kernel
theorem dX1_meetOne_216 : decode cX1_meetOne 216 = .ok (.iload 12, 2) := by decide +kernel
theorem dX1_meetOne_218 : decode cX1_meetOne 218 = .ok (.iload 13, 2) := by decide +kernel
theorem dX1_meetOne_220 : decode cX1_meetOne 220 = .ok (.invokestatic 56, 3) := by decide +kernel
theorem dX1_meetOne_223 : decode cX1_meetOne 223 = .ok (.invokestatic 62, 3) := by decide +kernel
theorem dX1_meetOne_226 : decode cX1_meetOne 226 = .ok (.iload 4, 2) := by decide +kernel
theorem dX1_meetOne_228 : decode cX1_meetOne 228 = .ok (.iload 4, 2) := by decide +kernel
theorem dX1_meetOne_230 : decode cX1_meetOne 230 = .ok (.imul, 1) := by decide +kernel
theorem dX1_meetOne_231 : decode cX1_meetOne 231 = .ok (.iload 5, 2) := by decide +kernel
theorem dX1_meetOne_233 : decode cX1_meetOne 233 = .ok (.iload 5, 2) := by decide +kernel
theorem dX1_meetOne_235 : decode cX1_meetOne 235 = .ok (.imul, 1) := by decide +kernel
theorem dX1_meetOne_236 : decode cX1_meetOne 236 = .ok (.iadd, 1) := by decide +kernel
theorem dX1_meetOne_237 : decode cX1_meetOne 237 = .ok (.invokevirtual 52, 3) := by decide +kernel
theorem dX1_meetOne_240 : decode cX1_meetOne 240 = .ok (.return_, 1) := by decide +kernel
theorem dX1_insert_0 : decode cX1_insert 0 = .ok (.aload_n 0, 1) := by decide +kernel
theorem dX1_insert_1 : decode cX1_insert 1 = .ok (.getfield 25, 3) := by decide +kernel
theorem dX1_insert_4 : decode cX1_insert 4 = .ok (.bipush 24, 2) := by decide +kernel
theorem dX1_insert_6 : decode cX1_insert 6 = .ok (.if_icmp .lt 4, 3) := by decide +kernel
theorem dX1_insert_9 : decode cX1_insert 9 = .ok (.return_, 1) := by decide +kernel
theorem dX1_insert_10 : decode cX1_insert 10 = .ok (.aload_n 0, 1) := by decide +kernel
theorem dX1_insert_11 : decode cX1_insert 11 = .ok (.getfield 25, 3) := by decide +kernel
theorem dX1_insert_14 : decode cX1_insert 14 = .ok (.istore 4, 2) := by decide +kernel
theorem dX1_insert_16 : decode cX1_insert 16 = .ok (.iload 4, 2) := by decide +kernel
theorem dX1_insert_18 : decode cX1_insert 18 = .ok (.ifCond .le 70, 3) := by decide +kernel
theorem dX1_insert_21 : decode cX1_insert 21 = .ok (.aload_n 0, 1) := by decide +kernel
theorem dX1_insert_22 : decode cX1_insert 22 = .ok (.iload 4, 2) := by decide +kernel
theorem dX1_insert_24 : decode cX1_insert 24 = .ok (.iconst 1, 1) := by decide +kernel
theorem dX1_insert_25 : decode cX1_insert 25 = .ok (.isub, 1) := by decide +kernel
theorem dX1_insert_26 : decode cX1_insert 26 = .ok (.iload_n 2, 1) := by decide +kernel
theorem dX1_insert_27 : decode cX1_insert 27 = .ok (.iload_n 3, 1) := by decide +kernel
theorem dX1_insert_28 : decode cX1_insert 28 = .ok (.invokevirtual 65, 3) := by decide +kernel
theorem dX1_insert_31 : decode cX1_insert 31 = .ok (.ifCond .eq 57, 3) := by decide +kernel
theorem dX1_insert_34 : decode cX1_insert 34 = .ok (.aload_n 0, 1) := by decide +kernel
theorem dX1_insert_35 : decode cX1_insert 35 = .ok (.getfield 9, 3) := by decide +kernel
theorem dX1_insert_38 : decode cX1_insert 38 = .ok (.iload 4, 2) := by decide +kernel
theorem dX1_insert_40 : decode cX1_insert 40 = .ok (.aload_n 0, 1) := by decide +kernel
theorem dX1_insert_41 : decode cX1_insert 41 = .ok (.getfield 9, 3) := by decide +kernel
theorem dX1_insert_44 : decode cX1_insert 44 = .ok (.iload 4, 2) := by decide +kernel
theorem dX1_insert_46 : decode cX1_insert 46 = .ok (.iconst 1, 1) := by decide +kernel
theorem dX1_insert_47 : decode cX1_insert 47 = .ok (.isub, 1) := by decide +kernel
theorem dX1_insert_48 : decode cX1_insert 48 = .ok (.iaload, 1) := by decide +kernel
theorem dX1_insert_49 : decode cX1_insert 49 = .ok (.iastore, 1) := by decide +kernel
theorem dX1_insert_50 : decode cX1_insert 50 = .ok (.aload_n 0, 1) := by decide +kernel
theorem dX1_insert_51 : decode cX1_insert 51 = .ok (.getfield 15, 3) := by decide +kernel
theorem dX1_insert_54 : decode cX1_insert 54 = .ok (.iload 4, 2) := by decide +kernel
theorem dX1_insert_56 : decode cX1_insert 56 = .ok (.aload_n 0, 1) := by decide +kernel
theorem dX1_insert_57 : decode cX1_insert 57 = .ok (.getfield 15, 3) := by decide +kernel
theorem dX1_insert_60 : decode cX1_insert 60 = .ok (.iload 4, 2) := by decide +kernel
theorem dX1_insert_62 : decode cX1_insert 62 = .ok (.iconst 1, 1) := by decide +kernel
theorem dX1_insert_63 : decode cX1_insert 63 = .ok (.isub, 1) := by decide +kernel
theorem dX1_insert_64 : decode cX1_insert 64 = .ok (.iaload, 1) := by decide +kernel
theorem dX1_insert_65 : decode cX1_insert 65 = .ok (.iastore, 1) := by decide +kernel
theorem dX1_insert_66 : decode cX1_insert 66 = .ok (.aload_n 0, 1) := by decide +kernel
theorem dX1_insert_67 : decode cX1_insert 67 = .ok (.getfield 18, 3) := by decide +kernel
theorem dX1_insert_70 : decode cX1_insert 70 = .ok (.iload 4, 2) := by decide +kernel
theorem dX1_insert_72 : decode cX1_insert 72 = .ok (.aload_n 0, 1) := by decide +kernel
theorem dX1_insert_73 : decode cX1_insert 73 = .ok (.getfield 18, 3) := by decide +kernel
theorem dX1_insert_76 : decode cX1_insert 76 = .ok (.iload 4, 2) := by decide +kernel
theorem dX1_insert_78 : decode cX1_insert 78 = .ok (.iconst 1, 1) := by decide +kernel
theorem dX1_insert_79 : decode cX1_insert 79 = .ok (.isub, 1) := by decide +kernel
theorem dX1_insert_80 : decode cX1_insert 80 = .ok (.iaload, 1) := by decide +kernel
theorem dX1_insert_81 : decode cX1_insert 81 = .ok (.iastore, 1) := by decide +kernel
theorem dX1_insert_82 : decode cX1_insert 82 = .ok (.iinc 4 (-1), 3) := by decide +kernel
theorem dX1_insert_85 : decode cX1_insert 85 = .ok (.goto (-69), 3) := by decide +kernel
theorem dX1_insert_88 : decode cX1_insert 88 = .ok (.iload_n 2, 1) := by decide +kernel
theorem dX1_insert_89 : decode cX1_insert 89 = .ok (.i2l, 1) := by decide +kernel
theorem dX1_insert_90 : decode cX1_insert 90 = .ok (.iload_n 3, 1) := by decide +kernel
theorem dX1_insert_91 : decode cX1_insert 91 = .ok (.i2l, 1) := by decide +kernel
theorem dX1_insert_92 : decode cX1_insert 92 = .ok (.invokestatic 69, 3) := by decide +kernel
theorem dX1_insert_95 : decode cX1_insert 95 = .ok (.l2i, 1) := by decide +kernel
theorem dX1_insert_96 : decode cX1_insert 96 = .ok (.istore 5, 2) := by decide +kernel
theorem dX1_insert_98 : decode cX1_insert 98 = .ok (.iload 5, 2) := by decide +kernel
theorem dX1_insert_100 : decode cX1_insert 100 = .ok (.ifCond .gt 6, 3) := by decide +kernel
theorem dX1_insert_103 : decode cX1_insert 103 = .ok (.iconst 1, 1) := by decide +kernel
theorem dX1_insert_104 : decode cX1_insert 104 = .ok (.istore 5, 2) := by decide +kernel
theorem dX1_insert_106 : decode cX1_insert 106 = .ok (.aload_n 0, 1) := by decide +kernel
theorem dX1_insert_107 : decode cX1_insert 107 = .ok (.getfield 9, 3) := by decide +kernel
theorem dX1_insert_110 : decode cX1_insert 110 = .ok (.iload 4, 2) := by decide +kernel
theorem dX1_insert_112 : decode cX1_insert 112 = .ok (.iload_n 1, 1) := by decide +kernel
theorem dX1_insert_113 : decode cX1_insert 113 = .ok (.iastore, 1) := by decide +kernel
theorem dX1_insert_114 : decode cX1_insert 114 = .ok (.aload_n 0, 1) := by decide +kernel
theorem dX1_insert_115 : decode cX1_insert 115 = .ok (.getfield 15, 3) := by decide +kernel
theorem dX1_insert_118 : decode cX1_insert 118 = .ok (.iload 4, 2) := by decide +kernel
theorem dX1_insert_120 : decode cX1_insert 120 = .ok (.iload_n 2, 1) := by decide +kernel
theorem dX1_insert_121 : decode cX1_insert 121 = .ok (.iload 5, 2) := by decide +kernel
theorem dX1_insert_123 : decode cX1_insert 123 = .ok (.idiv, 1) := by decide +kernel
theorem dX1_insert_124 : decode cX1_insert 124 = .ok (.iastore, 1) := by decide +kernel
theorem dX1_insert_125 : decode cX1_insert 125 = .ok (.aload_n 0, 1) := by decide +kernel
theorem dX1_insert_126 : decode cX1_insert 126 = .ok (.getfield 18, 3) := by decide +kernel
theorem dX1_insert_129 : decode cX1_insert 129 = .ok (.iload 4, 2) := by decide +kernel
theorem dX1_insert_131 : decode cX1_insert 131 = .ok (.iload_n 3, 1) := by decide +kernel
theorem dX1_insert_132 : decode cX1_insert 132 = .ok (.iload 5, 2) := by decide +kernel
theorem dX1_insert_134 : decode cX1_insert 134 = .ok (.idiv, 1) := by decide +kernel
theorem dX1_insert_135 : decode cX1_insert 135 = .ok (.iastore, 1) := by decide +kernel
theorem dX1_insert_136 : decode cX1_insert 136 = .ok (.aload_n 0, 1) := by decide +kernel
theorem dX1_insert_137 : decode cX1_insert 137 = .ok (.dup, 1) := by decide +kernel
theorem dX1_insert_138 : decode cX1_insert 138 = .ok (.getfield 25, 3) := by decide +kernel
theorem dX1_insert_141 : decode cX1_insert 141 = .ok (.iconst 1, 1) := by decide +kernel
theorem dX1_insert_142 : decode cX1_insert 142 = .ok (.iadd, 1) := by decide +kernel
theorem dX1_insert_143 : decode cX1_insert 143 = .ok (.putfield 25, 3) := by decide +kernel
theorem dX1_insert_146 : decode cX1_insert 146 = .ok (.return_, 1) := by decide +kernel
theorem dX1_isLater_0 : decode cX1_isLater 0 = .ok (.aload_n 0, 1) := by decide +kernel
theorem dX1_isLater_1 : decode cX1_isLater 1 = .ok (.getfield 15, 3) := by decide +kernel
theorem dX1_isLater_4 : decode cX1_isLater 4 = .ok (.iload_n 1, 1) := by decide +kernel
theorem dX1_isLater_5 : decode cX1_isLater 5 = .ok (.iaload, 1) := by decide +kernel
theorem dX1_isLater_6 : decode cX1_isLater 6 = .ok (.i2l, 1) := by decide +kernel
theorem dX1_isLater_7 : decode cX1_isLater 7 = .ok (.iload_n 3, 1) := by decide +kernel
theorem dX1_isLater_8 : decode cX1_isLater 8 = .ok (.i2l, 1) := by decide +kernel
theorem dX1_isLater_9 : decode cX1_isLater 9 = .ok (.lmul, 1) := by decide +kernel
theorem dX1_isLater_10 : decode cX1_isLater 10 = .ok (.iload_n 2, 1) := by decide +kernel
theorem dX1_isLater_11 : decode cX1_isLater 11 = .ok (.i2l, 1) := by decide +kernel
theorem dX1_isLater_12 : decode cX1_isLater 12 = .ok (.aload_n 0, 1) := by decide +kernel
theorem dX1_isLater_13 : decode cX1_isLater 13 = .ok (.getfield 18, 3) := by decide +kernel
theorem dX1_isLater_16 : decode cX1_isLater 16 = .ok (.iload_n 1, 1) := by decide +kernel
theorem dX1_isLater_17 : decode cX1_isLater 17 = .ok (.iaload, 1) := by decide +kernel
theorem dX1_isLater_18 : decode cX1_isLater 18 = .ok (.i2l, 1) := by decide +kernel
theorem dX1_isLater_19 : decode cX1_isLater 19 = .ok (.lmul, 1) := by decide +kernel
theorem dX1_isLater_20 : decode cX1_isLater 20 = .ok (.lcmp, 1) := by decide +kernel
theorem dX1_isLater_21 : decode cX1_isLater 21 = .ok (.ifCond .le 7, 3) := by decide +kernel
theorem dX1_isLater_24 : decode cX1_isLater 24 = .ok (.iconst 1, 1) := by decide +kernel
theorem dX1_isLater_25 : decode cX1_isLater 25 = .ok (.goto 4, 3) := by decide +kernel
theorem dX1_isLater_28 : decode cX1_isLater 28 = .ok (.iconst 0, 1) := by decide +kernel
theorem dX1_isLater_29 : decode cX1_isLater 29 = .ok (.ireturn, 1) := by decide +kernel
theorem dX2_init_0 : decode cX2_init 0 = .ok (.aload_n 0, 1) := by decide +kernel
theorem dX2_init_1 : decode cX2_init 1 = .ok (.invokespecial 3, 3) := by decide +kernel
theorem dX2_init_4 : decode cX2_init 4 = .ok (.aload_n 0, 1) := by decide +kernel
theorem dX2_init_5 : decode cX2_init 5 = .ok (.sipush 300, 3) := by decide +kernel
theorem dX2_init_8 : decode cX2_init 8 = .ok (.newarray .int, 2) := by decide +kernel
theorem dX2_init_10 : decode cX2_init 10 = .ok (.putfield 9, 3) := by decide +kernel
theorem dX2_init_13 : decode cX2_init 13 = .ok (.aload_n 0, 1) := by decide +kernel
theorem dX2_init_14 : decode cX2_init 14 = .ok (.sipush 300, 3) := by decide +kernel
theorem dX2_init_17 : decode cX2_init 17 = .ok (.newarray .int, 2) := by decide +kernel
theorem dX2_init_19 : decode cX2_init 19 = .ok (.putfield 15, 3) := by decide +kernel
theorem dX2_init_22 : decode cX2_init 22 = .ok (.aload_n 0, 1) := by decide +kernel
theorem dX2_init_23 : decode cX2_init 23 = .ok (.sipush 300, 3) := by decide +kernel
theorem dX2_init_26 : decode cX2_init 26 = .ok (.newarray .int, 2) := by decide +kernel
theorem dX2_init_28 : decode cX2_init 28 = .ok (.putfield 18, 3) := by decide +kernel
theorem dX2_init_31 : decode cX2_init 31 = .ok (.aload_n 0, 1) := by decide +kernel
theorem dX2_init_32 : decode cX2_init 32 = .ok (.sipush 300, 3) := by decide +kernel
theorem dX2_init_35 : decode cX2_init 35 = .ok (.newarray .int, 2) := by decide +kernel
theorem dX2_init_37 : decode cX2_init 37 = .ok (.putfield 21, 3) := by decide +kernel
theorem dX2_init_40 : decode cX2_init 40 = .ok (.aload_n 0, 1) := by decide +kernel
theorem dX2_init_41 : decode cX2_init 41 = .ok (.sipush 300, 3) := by decide +kernel
theorem dX2_init_44 : decode cX2_init 44 = .ok (.newarray .int, 2) := by decide +kernel
theorem dX2_init_46 : decode cX2_init 46 = .ok (.putfield 24, 3) := by decide +kernel
theorem dX2_init_49 : decode cX2_init 49 = .ok (.return_, 1) := by decide +kernel
theorem dX2_addWhole_0 : decode cX2_addWhole 0 = .ok (.aload_n 0, 1) := by decide +kernel
theorem dX2_addWhole_1 : decode cX2_addWhole 1 = .ok (.iload_n 1, 1) := by decide +kernel
theorem dX2_addWhole_2 : decode cX2_addWhole 2 = .ok (.iconst 0, 1) := by decide +kernel
theorem dX2_addWhole_3 : decode cX2_addWhole 3 = .ok (.iconst 1, 1) := by decide +kernel
theorem dX2_addWhole_4 : decode cX2_addWhole 4 = .ok (.iconst 1, 1) := by decide +kernel
theorem dX2_addWhole_5 : decode cX2_addWhole 5 = .ok (.iconst 1, 1) := by decide +kernel
theorem dX2_addWhole_6 : decode cX2_addWhole 6 = .ok (.invokevirtual 27, 3) := by decide +kernel
theorem dX2_addWhole_9 : decode cX2_addWhole 9 = .ok (.return_, 1) := by decide +kernel
theorem dX2_addCopy_0 : decode cX2_addCopy 0 = .ok (.aload_n 0, 1) := by decide +kernel
theorem dX2_addCopy_1 : decode cX2_addCopy 1 = .ok (.aload_n 1, 1) := by decide +kernel
theorem dX2_addCopy_2 : decode cX2_addCopy 2 = .ok (.getfield 9, 3) := by decide +kernel
theorem dX2_addCopy_5 : decode cX2_addCopy 5 = .ok (.iload_n 2, 1) := by decide +kernel
theorem dX2_addCopy_6 : decode cX2_addCopy 6 = .ok (.iaload, 1) := by decide +kernel
theorem dX2_addCopy_7 : decode cX2_addCopy 7 = .ok (.aload_n 1, 1) := by decide +kernel
theorem dX2_addCopy_8 : decode cX2_addCopy 8 = .ok (.getfield 15, 3) := by decide +kernel
theorem dX2_addCopy_11 : decode cX2_addCopy 11 = .ok (.iload_n 2, 1) := by decide +kernel
theorem dX2_addCopy_12 : decode cX2_addCopy 12 = .ok (.iaload, 1) := by decide +kernel
theorem dX2_addCopy_13 : decode cX2_addCopy 13 = .ok (.aload_n 1, 1) := by decide +kernel
theorem dX2_addCopy_14 : decode cX2_addCopy 14 = .ok (.getfield 18, 3) := by decide +kernel
theorem dX2_addCopy_17 : decode cX2_addCopy 17 = .ok (.iload_n 2, 1) := by decide +kernel
theorem dX2_addCopy_18 : decode cX2_addCopy 18 = .ok (.iaload, 1) := by decide +kernel
theorem dX2_addCopy_19 : decode cX2_addCopy 19 = .ok (.aload_n 1, 1) := by decide +kernel
theorem dX2_addCopy_20 : decode cX2_addCopy 20 = .ok (.getfield 21, 3) := by decide +kernel
theorem dX2_addCopy_23 : decode cX2_addCopy 23 = .ok (.iload_n 2, 1) := by decide +kernel
theorem dX2_addCopy_24 : decode cX2_addCopy 24 = .ok (.iaload, 1) := by decide +kernel
theorem dX2_addCopy_25 : decode cX2_addCopy 25 = .ok (.aload_n 1, 1) := by decide +kernel
theorem dX2_addCopy_26 : decode cX2_addCopy 26 = .ok (.getfield 24, 3) := by decide +kernel
theorem dX2_addCopy_29 : decode cX2_addCopy 29 = .ok (.iload_n 2, 1) := by decide +kernel
theorem dX2_addCopy_30 : decode cX2_addCopy 30 = .ok (.iaload, 1) := by decide +kernel
theorem dX2_addCopy_31 : decode cX2_addCopy 31 = .ok (.invokevirtual 27, 3) := by decide +kernel
theorem dX2_addCopy_34 : decode cX2_addCopy 34 = .ok (.return_, 1) := by decide +kernel
theorem dX2_add_0 : decode cX2_add 0 = .ok (.aload_n 0, 1) := by decide +kernel
theorem dX2_add_1 : decode cX2_add 1 = .ok (.getfield 31, 3) := by decide +kernel
theorem dX2_add_4 : decode cX2_add 4 = .ok (.sipush 300, 3) := by decide +kernel
theorem dX2_add_7 : decode cX2_add 7 = .ok (.if_icmp .lt 4, 3) := by decide +kernel
theorem dX2_add_10 : decode cX2_add 10 = .ok (.return_, 1) := by decide +kernel
theorem dX2_add_11 : decode cX2_add 11 = .ok (.aload_n 0, 1) := by decide +kernel
theorem dX2_add_12 : decode cX2_add 12 = .ok (.getfield 9, 3) := by decide +kernel
theorem dX2_add_15 : decode cX2_add 15 = .ok (.aload_n 0, 1) := by decide +kernel
theorem dX2_add_16 : decode cX2_add 16 = .ok (.getfield 31, 3) := by decide +kernel
theorem dX2_add_19 : decode cX2_add 19 = .ok (.iload_n 1, 1) := by decide +kernel
theorem dX2_add_20 : decode cX2_add 20 = .ok (.iastore, 1) := by decide +kernel
theorem dX2_add_21 : decode cX2_add 21 = .ok (.aload_n 0, 1) := by decide +kernel
theorem dX2_add_22 : decode cX2_add 22 = .ok (.getfield 15, 3) := by decide +kernel
theorem dX2_add_25 : decode cX2_add 25 = .ok (.aload_n 0, 1) := by decide +kernel
theorem dX2_add_26 : decode cX2_add 26 = .ok (.getfield 31, 3) := by decide +kernel
theorem dX2_add_29 : decode cX2_add 29 = .ok (.iload_n 2, 1) := by decide +kernel
theorem dX2_add_30 : decode cX2_add 30 = .ok (.iastore, 1) := by decide +kernel
theorem dX2_add_31 : decode cX2_add 31 = .ok (.aload_n 0, 1) := by decide +kernel
theorem dX2_add_32 : decode cX2_add 32 = .ok (.getfield 18, 3) := by decide +kernel
theorem dX2_add_35 : decode cX2_add 35 = .ok (.aload_n 0, 1) := by decide +kernel
theorem dX2_add_36 : decode cX2_add 36 = .ok (.getfield 31, 3) := by decide +kernel
theorem dX2_add_39 : decode cX2_add 39 = .ok (.iload_n 3, 1) := by decide +kernel
theorem dX2_add_40 : decode cX2_add 40 = .ok (.iastore, 1) := by decide +kernel
theorem dX2_add_41 : decode cX2_add 41 = .ok (.aload_n 0, 1) := by decide +kernel
theorem dX2_add_42 : decode cX2_add 42 = .ok (.getfield 21, 3) := by decide +kernel
theorem dX2_add_45 : decode cX2_add 45 = .ok (.aload_n 0, 1) := by decide +kernel
theorem dX2_add_46 : decode cX2_add 46 = .ok (.getfield 31, 3) := by decide +kernel
theorem dX2_add_49 : decode cX2_add 49 = .ok (.iload 4, 2) := by decide +kernel
theorem dX2_add_51 : decode cX2_add 51 = .ok (.iastore, 1) := by decide +kernel
theorem dX2_add_52 : decode cX2_add 52 = .ok (.aload_n 0, 1) := by decide +kernel
theorem dX2_add_53 : decode cX2_add 53 = .ok (.getfield 24, 3) := by decide +kernel
theorem dX2_add_56 : decode cX2_add 56 = .ok (.aload_n 0, 1) := by decide +kernel
theorem dX2_add_57 : decode cX2_add 57 = .ok (.getfield 31, 3) := by decide +kernel
theorem dX2_add_60 : decode cX2_add 60 = .ok (.iload 5, 2) := by decide +kernel
theorem dX2_add_62 : decode cX2_add 62 = .ok (.iastore, 1) := by decide +kernel
theorem dX2_add_63 : decode cX2_add 63 = .ok (.aload_n 0, 1) := by decide +kernel
theorem dX2_add_64 : decode cX2_add 64 = .ok (.dup, 1) := by decide +kernel
theorem dX2_add_65 : decode cX2_add 65 = .ok (.getfield 31, 3) := by decide +kernel
theorem dX2_add_68 : decode cX2_add 68 = .ok (.iconst 1, 1) := by decide +kernel
theorem dX2_add_69 : decode cX2_add 69 = .ok (.iadd, 1) := by decide +kernel
theorem dX2_add_70 : decode cX2_add 70 = .ok (.putfield 31, 3) := by decide +kernel
theorem dX2_add_73 : decode cX2_add 73 = .ok (.return_, 1) := by decide +kernel
theorem dX2_howManyOf_0 : decode cX2_howManyOf 0 = .ok (.iconst 0, 1) := by decide +kernel
theorem dX2_howManyOf_1 : decode cX2_howManyOf 1 = .ok (.istore_n 2, 1) := by decide +kernel
theorem dX2_howManyOf_2 : decode cX2_howManyOf 2 = .ok (.iconst 0, 1) := by decide +kernel
theorem dX2_howManyOf_3 : decode cX2_howManyOf 3 = .ok (.istore_n 3, 1) := by decide +kernel
theorem dX2_howManyOf_4 : decode cX2_howManyOf 4 = .ok (.iload_n 3, 1) := by decide +kernel
theorem dX2_howManyOf_5 : decode cX2_howManyOf 5 = .ok (.aload_n 0, 1) := by decide +kernel
theorem dX2_howManyOf_6 : decode cX2_howManyOf 6 = .ok (.getfield 31, 3) := by decide +kernel
theorem dX2_howManyOf_9 : decode cX2_howManyOf 9 = .ok (.if_icmp .ge 22, 3) := by decide +kernel
theorem dX2_howManyOf_12 : decode cX2_howManyOf 12 = .ok (.aload_n 0, 1) := by decide +kernel
theorem dX2_howManyOf_13 : decode cX2_howManyOf 13 = .ok (.getfield 9, 3) := by decide +kernel
theorem dX2_howManyOf_16 : decode cX2_howManyOf 16 = .ok (.iload_n 3, 1) := by decide +kernel
theorem dX2_howManyOf_17 : decode cX2_howManyOf 17 = .ok (.iaload, 1) := by decide +kernel
theorem dX2_howManyOf_18 : decode cX2_howManyOf 18 = .ok (.iload_n 1, 1) := by decide +kernel
theorem dX2_howManyOf_19 : decode cX2_howManyOf 19 = .ok (.if_icmp .ne 6, 3) := by decide +kernel
theorem dX2_howManyOf_22 : decode cX2_howManyOf 22 = .ok (.iinc 2 1, 3) := by decide +kernel
theorem dX2_howManyOf_25 : decode cX2_howManyOf 25 = .ok (.iinc 3 1, 3) := by decide +kernel
theorem dX2_howManyOf_28 : decode cX2_howManyOf 28 = .ok (.goto (-24), 3) := by decide +kernel
theorem dX2_howManyOf_31 : decode cX2_howManyOf 31 = .ok (.iload_n 2, 1) := by decide +kernel
theorem dX2_howManyOf_32 : decode cX2_howManyOf 32 = .ok (.ireturn, 1) := by decide +kernel
theorem dX3_init_0 : decode cX3_init 0 = .ok (.aload_n 0, 1) := by decide +kernel
theorem dX3_init_1 : decode cX3_init 1 = .ok (.invokespecial 3, 3) := by decide +kernel
theorem dX3_init_4 : decode cX3_init 4 = .ok (.aload_n 0, 1) := by decide +kernel
theorem dX3_init_5 : decode cX3_init 5 = .ok (.bipush 24, 2) := by decide +kernel
theorem dX3_init_7 : decode cX3_init 7 = .ok (.newarray .int, 2) := by decide +kernel
theorem dX3_init_9 : decode cX3_init 9 = .ok (.putfield 9, 3) := by decide +kernel
theorem dX3_init_12 : decode cX3_init 12 = .ok (.aload_n 0, 1) := by decide +kernel
theorem dX3_init_13 : decode cX3_init 13 = .ok (.bipush 24, 2) := by decide +kernel
theorem dX3_init_15 : decode cX3_init 15 = .ok (.newarray .int, 2) := by decide +kernel
theorem dX3_init_17 : decode cX3_init 17 = .ok (.putfield 15, 3) := by decide +kernel
theorem dX3_init_20 : decode cX3_init 20 = .ok (.aload_n 0, 1) := by decide +kernel
theorem dX3_init_21 : decode cX3_init 21 = .ok (.bipush 24, 2) := by decide +kernel
theorem dX3_init_23 : decode cX3_init 23 = .ok (.newarray .int, 2) := by decide +kernel
theorem dX3_init_25 : decode cX3_init 25 = .ok (.putfield 18, 3) := by decide +kernel
theorem dX3_init_28 : decode cX3_init 28 = .ok (.aload_n 0, 1) := by decide +kernel
theorem dX3_init_29 : decode cX3_init 29 = .ok (.bipush 24, 2) := by decide +kernel
theorem dX3_init_31 : decode cX3_init 31 = .ok (.newarray .int, 2) := by decide +kernel
theorem dX3_init_33 : decode cX3_init 33 = .ok (.putfield 21, 3) := by decide +kernel
theorem dX3_init_36 : decode cX3_init 36 = .ok (.return_, 1) := by decide +kernel
theorem dX3_add_0 : decode cX3_add 0 = .ok (.aload_n 0, 1) := by decide +kernel
theorem dX3_add_1 : decode cX3_add 1 = .ok (.getfield 24, 3) := by decide +kernel
theorem dX3_add_4 : decode cX3_add 4 = .ok (.bipush 24, 2) := by decide +kernel
theorem dX3_add_6 : decode cX3_add 6 = .ok (.if_icmp .lt 4, 3) := by decide +kernel
theorem dX3_add_9 : decode cX3_add 9 = .ok (.return_, 1) := by decide +kernel
theorem dX3_add_10 : decode cX3_add 10 = .ok (.aload_n 0, 1) := by decide +kernel
theorem dX3_add_11 : decode cX3_add 11 = .ok (.getfield 9, 3) := by decide +kernel
theorem dX3_add_14 : decode cX3_add 14 = .ok (.aload_n 0, 1) := by decide +kernel
theorem dX3_add_15 : decode cX3_add 15 = .ok (.getfield 24, 3) := by decide +kernel
theorem dX3_add_18 : decode cX3_add 18 = .ok (.iload_n 1, 1) := by decide +kernel
theorem dX3_add_19 : decode cX3_add 19 = .ok (.iastore, 1) := by decide +kernel
theorem dX3_add_20 : decode cX3_add 20 = .ok (.aload_n 0, 1) := by decide +kernel
theorem dX3_add_21 : decode cX3_add 21 = .ok (.getfield 15, 3) := by decide +kernel
theorem dX3_add_24 : decode cX3_add 24 = .ok (.aload_n 0, 1) := by decide +kernel
theorem dX3_add_25 : decode cX3_add 25 = .ok (.getfield 24, 3) := by decide +kernel
theorem dX3_add_28 : decode cX3_add 28 = .ok (.iload_n 2, 1) := by decide +kernel
theorem dX3_add_29 : decode cX3_add 29 = .ok (.iastore, 1) := by decide +kernel
theorem dX3_add_30 : decode cX3_add 30 = .ok (.aload_n 0, 1) := by decide +kernel
theorem dX3_add_31 : decode cX3_add 31 = .ok (.getfield 18, 3) := by decide +kernel
theorem dX3_add_34 : decode cX3_add 34 = .ok (.aload_n 0, 1) := by decide +kernel
theorem dX3_add_35 : decode cX3_add 35 = .ok (.getfield 24, 3) := by decide +kernel
theorem dX3_add_38 : decode cX3_add 38 = .ok (.iload_n 3, 1) := by decide +kernel
theorem dX3_add_39 : decode cX3_add 39 = .ok (.iastore, 1) := by decide +kernel
theorem dX3_add_40 : decode cX3_add 40 = .ok (.aload_n 0, 1) := by decide +kernel
theorem dX3_add_41 : decode cX3_add 41 = .ok (.getfield 21, 3) := by decide +kernel
theorem dX3_add_44 : decode cX3_add 44 = .ok (.aload_n 0, 1) := by decide +kernel
theorem dX3_add_45 : decode cX3_add 45 = .ok (.getfield 24, 3) := by decide +kernel
theorem dX3_add_48 : decode cX3_add 48 = .ok (.iload 4, 2) := by decide +kernel
theorem dX3_add_50 : decode cX3_add 50 = .ok (.iastore, 1) := by decide +kernel
theorem dX3_add_51 : decode cX3_add 51 = .ok (.aload_n 0, 1) := by decide +kernel
theorem dX3_add_52 : decode cX3_add 52 = .ok (.dup, 1) := by decide +kernel
theorem dX3_add_53 : decode cX3_add 53 = .ok (.getfield 24, 3) := by decide +kernel
theorem dX3_add_56 : decode cX3_add 56 = .ok (.iconst 1, 1) := by decide +kernel
theorem dX3_add_57 : decode cX3_add 57 = .ok (.iadd, 1) := by decide +kernel
theorem dX3_add_58 : decode cX3_add 58 = .ok (.putfield 24, 3) := by decide +kernel
theorem dX3_add_61 : decode cX3_add 61 = .ok (.return_, 1) := by decide +kernel
theorem dX3_sideOf_0 : decode cX3_sideOf 0 = .ok (.aload_n 0, 1) := by decide +kernel
theorem dX3_sideOf_1 : decode cX3_sideOf 1 = .ok (.getfield 18, 3) := by decide +kernel
theorem dX3_sideOf_4 : decode cX3_sideOf 4 = .ok (.iload_n 1, 1) := by decide +kernel
theorem dX3_sideOf_5 : decode cX3_sideOf 5 = .ok (.iaload, 1) := by decide +kernel
theorem dX3_sideOf_6 : decode cX3_sideOf 6 = .ok (.aload_n 0, 1) := by decide +kernel
theorem dX3_sideOf_7 : decode cX3_sideOf 7 = .ok (.getfield 9, 3) := by decide +kernel
theorem dX3_sideOf_10 : decode cX3_sideOf 10 = .ok (.iload_n 1, 1) := by decide +kernel
theorem dX3_sideOf_11 : decode cX3_sideOf 11 = .ok (.iaload, 1) := by decide +kernel
theorem dX3_sideOf_12 : decode cX3_sideOf 12 = .ok (.isub, 1) := by decide +kernel
theorem dX3_sideOf_13 : decode cX3_sideOf 13 = .ok (.iload_n 3, 1) := by decide +kernel
theorem dX3_sideOf_14 : decode cX3_sideOf 14 = .ok (.aload_n 0, 1) := by decide +kernel
theorem dX3_sideOf_15 : decode cX3_sideOf 15 = .ok (.getfield 15, 3) := by decide +kernel
theorem dX3_sideOf_18 : decode cX3_sideOf 18 = .ok (.iload_n 1, 1) := by decide +kernel
theorem dX3_sideOf_19 : decode cX3_sideOf 19 = .ok (.iaload, 1) := by decide +kernel
theorem dX3_sideOf_20 : decode cX3_sideOf 20 = .ok (.isub, 1) := by decide +kernel
theorem dX3_sideOf_21 : decode cX3_sideOf 21 = .ok (.imul, 1) := by decide +kernel
theorem dX3_sideOf_22 : decode cX3_sideOf 22 = .ok (.aload_n 0, 1) := by decide +kernel
theorem dX3_sideOf_23 : decode cX3_sideOf 23 = .ok (.getfield 21, 3) := by decide +kernel
theorem dX3_sideOf_26 : decode cX3_sideOf 26 = .ok (.iload_n 1, 1) := by decide +kernel
theorem dX3_sideOf_27 : decode cX3_sideOf 27 = .ok (.iaload, 1) := by decide +kernel
theorem dX3_sideOf_28 : decode cX3_sideOf 28 = .ok (.aload_n 0, 1) := by decide +kernel
theorem dX3_sideOf_29 : decode cX3_sideOf 29 = .ok (.getfield 15, 3) := by decide +kernel
theorem dX3_sideOf_32 : decode cX3_sideOf 32 = .ok (.iload_n 1, 1) := by decide +kernel
theorem dX3_sideOf_33 : decode cX3_sideOf 33 = .ok (.iaload, 1) := by decide +kernel
theorem dX3_sideOf_34 : decode cX3_sideOf 34 = .ok (.isub, 1) := by decide +kernel
theorem dX3_sideOf_35 : decode cX3_sideOf 35 = .ok (.iload_n 2, 1) := by decide +kernel
theorem dX3_sideOf_36 : decode cX3_sideOf 36 = .ok (.aload_n 0, 1) := by decide +kernel
theorem dX3_sideOf_37 : decode cX3_sideOf 37 = .ok (.getfield 9, 3) := by decide +kernel
theorem dX3_sideOf_40 : decode cX3_sideOf 40 = .ok (.iload_n 1, 1) := by decide +kernel
theorem dX3_sideOf_41 : decode cX3_sideOf 41 = .ok (.iaload, 1) := by decide +kernel
theorem dX3_sideOf_42 : decode cX3_sideOf 42 = .ok (.isub, 1) := by decide +kernel
theorem dX3_sideOf_43 : decode cX3_sideOf 43 = .ok (.imul, 1) := by decide +kernel
theorem dX3_sideOf_44 : decode cX3_sideOf 44 = .ok (.isub, 1) := by decide +kernel
theorem dX3_sideOf_45 : decode cX3_sideOf 45 = .ok (.ireturn, 1) := by decide +kernel
theorem dX3_cross_0 : decode cX3_cross 0 = .ok (.iload_n 0, 1) := by decide +kernel
theorem dX3_cross_1 : decode cX3_cross 1 = .ok (.iload_n 3, 1) := by decide +kernel
theorem dX3_cross_2 : decode cX3_cross 2 = .ok (.imul, 1) := by decide +kernel
theorem dX3_cross_3 : decode cX3_cross 3 = .ok (.iload_n 1, 1) := by decide +kernel
theorem dX3_cross_4 : decode cX3_cross 4 = .ok (.iload_n 2, 1) := by decide +kernel
theorem dX3_cross_5 : decode cX3_cross 5 = .ok (.imul, 1) := by decide +kernel
theorem dX3_cross_6 : decode cX3_cross 6 = .ok (.isub, 1) := by decide +kernel
theorem dX3_cross_7 : decode cX3_cross 7 = .ok (.ireturn, 1) := by decide +kernel
theorem dX3_placeAt_0 : decode cX3_placeAt 0 = .ok (.aload_n 0, 1) := by decide +kernel
theorem dX3_placeAt_1 : decode cX3_placeAt 1 = .ok (.getfield 9, 3) := by decide +kernel
theorem dX3_placeAt_4 : decode cX3_placeAt 4 = .ok (.iload_n 1, 1) := by decide +kernel
theorem dX3_placeAt_5 : decode cX3_placeAt 5 = .ok (.iaload, 1) := by decide +kernel
theorem dX3_placeAt_6 : decode cX3_placeAt 6 = .ok (.i2l, 1) := by decide +kernel
theorem dX3_placeAt_7 : decode cX3_placeAt 7 = .ok (.iload_n 3, 1) := by decide +kernel
theorem dX3_placeAt_8 : decode cX3_placeAt 8 = .ok (.iload_n 2, 1) := by decide +kernel
theorem dX3_placeAt_9 : decode cX3_placeAt 9 = .ok (.isub, 1) := by decide +kernel
theorem dX3_placeAt_10 : decode cX3_placeAt 10 = .ok (.i2l, 1) := by decide +kernel
theorem dX3_placeAt_11 : decode cX3_placeAt 11 = .ok (.lmul, 1) := by decide +kernel
theorem dX3_placeAt_12 : decode cX3_placeAt 12 = .ok (.aload_n 0, 1) := by decide +kernel
theorem dX3_placeAt_13 : decode cX3_placeAt 13 = .ok (.getfield 18, 3) := by decide +kernel
theorem dX3_placeAt_16 : decode cX3_placeAt 16 = .ok (.iload_n 1, 1) := by decide +kernel
theorem dX3_placeAt_17 : decode cX3_placeAt 17 = .ok (.iaload, 1) := by decide +kernel
theorem dX3_placeAt_18 : decode cX3_placeAt 18 = .ok (.i2l, 1) := by decide +kernel
theorem dX3_placeAt_19 : decode cX3_placeAt 19 = .ok (.iload_n 2, 1) := by decide +kernel
theorem dX3_placeAt_20 : decode cX3_placeAt 20 = .ok (.i2l, 1) := by decide +kernel
theorem dX3_placeAt_21 : decode cX3_placeAt 21 = .ok (.lmul, 1) := by decide +kernel
theorem dX3_placeAt_22 : decode cX3_placeAt 22 = .ok (.ladd, 1) := by decide +kernel
theorem dX3_placeAt_23 : decode cX3_placeAt 23 = .ok (.lstore 5, 2) := by decide +kernel
theorem dX3_placeAt_25 : decode cX3_placeAt 25 = .ok (.aload_n 0, 1) := by decide +kernel
theorem dX3_placeAt_26 : decode cX3_placeAt 26 = .ok (.getfield 15, 3) := by decide +kernel
theorem dX3_placeAt_29 : decode cX3_placeAt 29 = .ok (.iload_n 1, 1) := by decide +kernel
theorem dX3_placeAt_30 : decode cX3_placeAt 30 = .ok (.iaload, 1) := by decide +kernel
theorem dX3_placeAt_31 : decode cX3_placeAt 31 = .ok (.i2l, 1) := by decide +kernel
theorem dX3_placeAt_32 : decode cX3_placeAt 32 = .ok (.iload_n 3, 1) := by decide +kernel
theorem dX3_placeAt_33 : decode cX3_placeAt 33 = .ok (.iload_n 2, 1) := by decide +kernel
theorem dX3_placeAt_34 : decode cX3_placeAt 34 = .ok (.isub, 1) := by decide +kernel
theorem dX3_placeAt_35 : decode cX3_placeAt 35 = .ok (.i2l, 1) := by decide +kernel
theorem dX3_placeAt_36 : decode cX3_placeAt 36 = .ok (.lmul, 1) := by decide +kernel
theorem dX3_placeAt_37 : decode cX3_placeAt 37 = .ok (.aload_n 0, 1) := by decide +kernel
theorem dX3_placeAt_38 : decode cX3_placeAt 38 = .ok (.getfield 21, 3) := by decide +kernel
theorem dX3_placeAt_41 : decode cX3_placeAt 41 = .ok (.iload_n 1, 1) := by decide +kernel
theorem dX3_placeAt_42 : decode cX3_placeAt 42 = .ok (.iaload, 1) := by decide +kernel
theorem dX3_placeAt_43 : decode cX3_placeAt 43 = .ok (.i2l, 1) := by decide +kernel
theorem dX3_placeAt_44 : decode cX3_placeAt 44 = .ok (.iload_n 2, 1) := by decide +kernel
theorem dX3_placeAt_45 : decode cX3_placeAt 45 = .ok (.i2l, 1) := by decide +kernel
theorem dX3_placeAt_46 : decode cX3_placeAt 46 = .ok (.lmul, 1) := by decide +kernel
theorem dX3_placeAt_47 : decode cX3_placeAt 47 = .ok (.ladd, 1) := by decide +kernel
theorem dX3_placeAt_48 : decode cX3_placeAt 48 = .ok (.lstore 7, 2) := by decide +kernel
theorem dX3_placeAt_50 : decode cX3_placeAt 50 = .ok (.lload 5, 2) := by decide +kernel
theorem dX3_placeAt_52 : decode cX3_placeAt 52 = .ok (.lload 7, 2) := by decide +kernel
theorem dX3_placeAt_54 : decode cX3_placeAt 54 = .ok (.invokestatic 28, 3) := by decide +kernel
theorem dX3_placeAt_57 : decode cX3_placeAt 57 = .ok (.iload_n 3, 1) := by decide +kernel
theorem dX3_placeAt_58 : decode cX3_placeAt 58 = .ok (.i2l, 1) := by decide +kernel
theorem dX3_placeAt_59 : decode cX3_placeAt 59 = .ok (.invokestatic 28, 3) := by decide +kernel
theorem dX3_placeAt_62 : decode cX3_placeAt 62 = .ok (.lstore 9, 2) := by decide +kernel
theorem dX3_placeAt_64 : decode cX3_placeAt 64 = .ok (.lload 9, 2) := by decide +kernel
theorem dX3_placeAt_66 : decode cX3_placeAt 66 = .ok (.lconst 0, 1) := by decide +kernel
theorem dX3_placeAt_67 : decode cX3_placeAt 67 = .ok (.lcmp, 1) := by decide +kernel
theorem dX3_placeAt_68 : decode cX3_placeAt 68 = .ok (.ifCond .gt 6, 3) := by decide +kernel
theorem dX3_placeAt_71 : decode cX3_placeAt 71 = .ok (.lconst 1, 1) := by decide +kernel
theorem dX3_placeAt_72 : decode cX3_placeAt 72 = .ok (.lstore 9, 2) := by decide +kernel
theorem dX3_placeAt_74 : decode cX3_placeAt 74 = .ok (.iload 4, 2) := by decide +kernel
theorem dX3_placeAt_76 : decode cX3_placeAt 76 = .ok (.ifCond .ne 8, 3) := by decide +kernel
theorem dX3_placeAt_79 : decode cX3_placeAt 79 = .ok (.lload 5, 2) := by decide +kernel
theorem dX3_placeAt_81 : decode cX3_placeAt 81 = .ok (.goto 16, 3) := by decide +kernel
theorem dX3_placeAt_84 : decode cX3_placeAt 84 = .ok (.iload 4, 2) := by decide +kernel
theorem dX3_placeAt_86 : decode cX3_placeAt 86 = .ok (.iconst 1, 1) := by decide +kernel
theorem dX3_placeAt_87 : decode cX3_placeAt 87 = .ok (.if_icmp .ne 8, 3) := by decide +kernel
theorem dX3_placeAt_90 : decode cX3_placeAt 90 = .ok (.lload 7, 2) := by decide +kernel
theorem dX3_placeAt_92 : decode cX3_placeAt 92 = .ok (.goto 5, 3) := by decide +kernel
theorem dX3_placeAt_95 : decode cX3_placeAt 95 = .ok (.iload_n 3, 1) := by decide +kernel
theorem dX3_placeAt_96 : decode cX3_placeAt 96 = .ok (.i2l, 1) := by decide +kernel
theorem dX3_placeAt_97 : decode cX3_placeAt 97 = .ok (.lload 9, 2) := by decide +kernel
theorem dX3_placeAt_99 : decode cX3_placeAt 99 = .ok (.ldiv, 1) := by decide +kernel
theorem dX3_placeAt_100 : decode cX3_placeAt 100 = .ok (.lreturn, 1) := by decide +kernel
theorem dX3_blocks_0 : decode cX3_blocks 0 = .ok (.aload_n 0, 1) := by decide +kernel
theorem dX3_blocks_1 : decode cX3_blocks 1 = .ok (.getfield 9, 3) := by decide +kernel
theorem dX3_blocks_4 : decode cX3_blocks 4 = .ok (.iload_n 1, 1) := by decide +kernel
theorem dX3_blocks_5 : decode cX3_blocks 5 = .ok (.iaload, 1) := by decide +kernel
theorem dX3_blocks_6 : decode cX3_blocks 6 = .ok (.aload_n 0, 1) := by decide +kernel
theorem dX3_blocks_7 : decode cX3_blocks 7 = .ok (.getfield 18, 3) := by decide +kernel
theorem dX3_blocks_10 : decode cX3_blocks 10 = .ok (.iload_n 1, 1) := by decide +kernel
theorem dX3_blocks_11 : decode cX3_blocks 11 = .ok (.iaload, 1) := by decide +kernel
theorem dX3_blocks_12 : decode cX3_blocks 12 = .ok (.iload_n 2, 1) := by decide +kernel
theorem dX3_blocks_13 : decode cX3_blocks 13 = .ok (.iload 4, 2) := by decide +kernel
theorem dX3_blocks_15 : decode cX3_blocks 15 = .ok (.invokestatic 32, 3) := by decide +kernel
theorem dX3_blocks_18 : decode cX3_blocks 18 = .ok (.ifCond .eq 110, 3) := by decide +kernel
theorem dX3_blocks_21 : decode cX3_blocks 21 = .ok (.aload_n 0, 1) := by decide +kernel
theorem dX3_blocks_22 : decode cX3_blocks 22 = .ok (.getfield 15, 3) := by decide +kernel
theorem dX3_blocks_25 : decode cX3_blocks 25 = .ok (.iload_n 1, 1) := by decide +kernel
theorem dX3_blocks_26 : decode cX3_blocks 26 = .ok (.iaload, 1) := by decide +kernel
theorem dX3_blocks_27 : decode cX3_blocks 27 = .ok (.aload_n 0, 1) := by decide +kernel
theorem dX3_blocks_28 : decode cX3_blocks 28 = .ok (.getfield 21, 3) := by decide +kernel
theorem dX3_blocks_31 : decode cX3_blocks 31 = .ok (.iload_n 1, 1) := by decide +kernel
theorem dX3_blocks_32 : decode cX3_blocks 32 = .ok (.iaload, 1) := by decide +kernel
theorem dX3_blocks_33 : decode cX3_blocks 33 = .ok (.iload_n 3, 1) := by decide +kernel
theorem dX3_blocks_34 : decode cX3_blocks 34 = .ok (.iload 5, 2) := by decide +kernel
theorem dX3_blocks_36 : decode cX3_blocks 36 = .ok (.invokestatic 32, 3) := by decide +kernel
theorem dX3_blocks_39 : decode cX3_blocks 39 = .ok (.ifCond .eq 89, 3) := by decide +kernel
theorem dX3_blocks_42 : decode cX3_blocks 42 = .ok (.aload_n 0, 1) := by decide +kernel
theorem dX3_blocks_43 : decode cX3_blocks 43 = .ok (.iload_n 1, 1) := by decide +kernel
theorem dX3_blocks_44 : decode cX3_blocks 44 = .ok (.iload_n 2, 1) := by decide +kernel
theorem dX3_blocks_45 : decode cX3_blocks 45 = .ok (.iload_n 3, 1) := by decide +kernel
theorem dX3_blocks_46 : decode cX3_blocks 46 = .ok (.invokevirtual 36, 3) := by decide +kernel
theorem dX3_blocks_49 : decode cX3_blocks 49 = .ok (.aload_n 0, 1) := by decide +kernel
theorem dX3_blocks_50 : decode cX3_blocks 50 = .ok (.iload_n 1, 1) := by decide +kernel
theorem dX3_blocks_51 : decode cX3_blocks 51 = .ok (.iload 4, 2) := by decide +kernel
theorem dX3_blocks_53 : decode cX3_blocks 53 = .ok (.iload 5, 2) := by decide +kernel
theorem dX3_blocks_55 : decode cX3_blocks 55 = .ok (.invokevirtual 36, 3) := by decide +kernel
theorem dX3_blocks_58 : decode cX3_blocks 58 = .ok (.invokestatic 40, 3) := by decide +kernel
theorem dX3_blocks_61 : decode cX3_blocks 61 = .ok (.ifCond .ne 67, 3) := by decide +kernel
theorem dX3_blocks_64 : decode cX3_blocks 64 = .ok (.iload 4, 2) := by decide +kernel
theorem dX3_blocks_66 : decode cX3_blocks 66 = .ok (.iload_n 2, 1) := by decide +kernel
theorem dX3_blocks_67 : decode cX3_blocks 67 = .ok (.isub, 1) := by decide +kernel
theorem dX3_blocks_68 : decode cX3_blocks 68 = .ok (.iload 5, 2) := by decide +kernel
theorem dX3_blocks_70 : decode cX3_blocks 70 = .ok (.iload_n 3, 1) := by decide +kernel
theorem dX3_blocks_71 : decode cX3_blocks 71 = .ok (.isub, 1) := by decide +kernel
theorem dX3_blocks_72 : decode cX3_blocks 72 = .ok (.aload_n 0, 1) := by decide +kernel
theorem dX3_blocks_73 : decode cX3_blocks 73 = .ok (.getfield 9, 3) := by decide +kernel
theorem dX3_blocks_76 : decode cX3_blocks 76 = .ok (.iload_n 1, 1) := by decide +kernel
theorem dX3_blocks_77 : decode cX3_blocks 77 = .ok (.iaload, 1) := by decide +kernel
theorem dX3_blocks_78 : decode cX3_blocks 78 = .ok (.iload_n 2, 1) := by decide +kernel
theorem dX3_blocks_79 : decode cX3_blocks 79 = .ok (.isub, 1) := by decide +kernel
theorem dX3_blocks_80 : decode cX3_blocks 80 = .ok (.aload_n 0, 1) := by decide +kernel
theorem dX3_blocks_81 : decode cX3_blocks 81 = .ok (.getfield 15, 3) := by decide +kernel
theorem dX3_blocks_84 : decode cX3_blocks 84 = .ok (.iload_n 1, 1) := by decide +kernel
theorem dX3_blocks_85 : decode cX3_blocks 85 = .ok (.iaload, 1) := by decide +kernel
theorem dX3_blocks_86 : decode cX3_blocks 86 = .ok (.iload_n 3, 1) := by decide +kernel
theorem dX3_blocks_87 : decode cX3_blocks 87 = .ok (.isub, 1) := by decide +kernel
theorem dX3_blocks_88 : decode cX3_blocks 88 = .ok (.invokestatic 44, 3) := by decide +kernel
theorem dX3_blocks_91 : decode cX3_blocks 91 = .ok (.iload 4, 2) := by decide +kernel
theorem dX3_blocks_93 : decode cX3_blocks 93 = .ok (.iload_n 2, 1) := by decide +kernel
theorem dX3_blocks_94 : decode cX3_blocks 94 = .ok (.isub, 1) := by decide +kernel
theorem dX3_blocks_95 : decode cX3_blocks 95 = .ok (.iload 5, 2) := by decide +kernel
theorem dX3_blocks_97 : decode cX3_blocks 97 = .ok (.iload_n 3, 1) := by decide +kernel
theorem dX3_blocks_98 : decode cX3_blocks 98 = .ok (.isub, 1) := by decide +kernel
theorem dX3_blocks_99 : decode cX3_blocks 99 = .ok (.aload_n 0, 1) := by decide +kernel
theorem dX3_blocks_100 : decode cX3_blocks 100 = .ok (.getfield 18, 3) := by decide +kernel
theorem dX3_blocks_103 : decode cX3_blocks 103 = .ok (.iload_n 1, 1) := by decide +kernel
theorem dX3_blocks_104 : decode cX3_blocks 104 = .ok (.iaload, 1) := by decide +kernel
theorem dX3_blocks_105 : decode cX3_blocks 105 = .ok (.iload_n 2, 1) := by decide +kernel
theorem dX3_blocks_106 : decode cX3_blocks 106 = .ok (.isub, 1) := by decide +kernel
theorem dX3_blocks_107 : decode cX3_blocks 107 = .ok (.aload_n 0, 1) := by decide +kernel
theorem dX3_blocks_108 : decode cX3_blocks 108 = .ok (.getfield 21, 3) := by decide +kernel
theorem dX3_blocks_111 : decode cX3_blocks 111 = .ok (.iload_n 1, 1) := by decide +kernel
theorem dX3_blocks_112 : decode cX3_blocks 112 = .ok (.iaload, 1) := by decide +kernel
theorem dX3_blocks_113 : decode cX3_blocks 113 = .ok (.iload_n 3, 1) := by decide +kernel
theorem dX3_blocks_114 : decode cX3_blocks 114 = .ok (.isub, 1) := by decide +kernel
theorem dX3_blocks_115 : decode cX3_blocks 115 = .ok (.invokestatic 44, 3) := by decide +kernel
theorem dX3_blocks_118 : decode cX3_blocks 118 = .ok (.invokestatic 40, 3) := by decide +kernel
theorem dX3_blocks_121 : decode cX3_blocks 121 = .ok (.ifCond .ne 7, 3) := by decide +kernel
theorem dX3_blocks_124 : decode cX3_blocks 124 = .ok (.iconst 1, 1) := by decide +kernel
theorem dX3_blocks_125 : decode cX3_blocks 125 = .ok (.goto 4, 3) := by decide +kernel
theorem dX3_blocks_128 : decode cX3_blocks 128 = .ok (.iconst 0, 1) := by decide +kernel
theorem dX3_blocks_129 : decode cX3_blocks 129 = .ok (.ireturn, 1) := by decide +kernel
theorem dX3_framesMeet_0 : decode cX3_framesMeet 0 = .ok (.iload_n 0, 1) := by decide +kernel
theorem dX3_framesMeet_1 : decode cX3_framesMeet 1 = .ok (.iload_n 1, 1) := by decide +kernel
theorem dX3_framesMeet_2 : decode cX3_framesMeet 2 = .ok (.invokestatic 48, 3) := by decide +kernel
theorem dX3_framesMeet_5 : decode cX3_framesMeet 5 = .ok (.iload_n 2, 1) := by decide +kernel
theorem dX3_framesMeet_6 : decode cX3_framesMeet 6 = .ok (.iload_n 3, 1) := by decide +kernel
theorem dX3_framesMeet_7 : decode cX3_framesMeet 7 = .ok (.invokestatic 54, 3) := by decide +kernel
theorem dX3_framesMeet_10 : decode cX3_framesMeet 10 = .ok (.if_icmp .lt 20, 3) := by decide +kernel
theorem dX3_framesMeet_13 : decode cX3_framesMeet 13 = .ok (.iload_n 2, 1) := by decide +kernel
theorem dX3_framesMeet_14 : decode cX3_framesMeet 14 = .ok (.iload_n 3, 1) := by decide +kernel
theorem dX3_framesMeet_15 : decode cX3_framesMeet 15 = .ok (.invokestatic 48, 3) := by decide +kernel
theorem dX3_framesMeet_18 : decode cX3_framesMeet 18 = .ok (.iload_n 0, 1) := by decide +kernel
theorem dX3_framesMeet_19 : decode cX3_framesMeet 19 = .ok (.iload_n 1, 1) := by decide +kernel
theorem dX3_framesMeet_20 : decode cX3_framesMeet 20 = .ok (.invokestatic 54, 3) := by decide +kernel
theorem dX3_framesMeet_23 : decode cX3_framesMeet 23 = .ok (.if_icmp .lt 7, 3) := by decide +kernel
theorem dX3_framesMeet_26 : decode cX3_framesMeet 26 = .ok (.iconst 1, 1) := by decide +kernel
theorem dX3_framesMeet_27 : decode cX3_framesMeet 27 = .ok (.goto 4, 3) := by decide +kernel
theorem dX3_framesMeet_30 : decode cX3_framesMeet 30 = .ok (.iconst 0, 1) := by decide +kernel
theorem dX3_framesMeet_31 : decode cX3_framesMeet 31 = .ok (.ireturn, 1) := by decide +kernel
theorem dX3_sameSide_0 : decode cX3_sameSide 0 = .ok (.iload_n 0, 1) := by decide +kernel
theorem dX3_sameSide_1 : decode cX3_sameSide 1 = .ok (.ifCond .le 7, 3) := by decide +kernel
theorem dX3_sameSide_4 : decode cX3_sameSide 4 = .ok (.iload_n 1, 1) := by decide +kernel
theorem dX3_sameSide_5 : decode cX3_sameSide 5 = .ok (.ifCond .gt 11, 3) := by decide +kernel
theorem dX3_sameSide_8 : decode cX3_sameSide 8 = .ok (.iload_n 0, 1) := by decide +kernel
theorem dX3_sameSide_9 : decode cX3_sameSide 9 = .ok (.ifCond .ge 11, 3) := by decide +kernel
theorem dX3_sameSide_12 : decode cX3_sameSide 12 = .ok (.iload_n 1, 1) := by decide +kernel
theorem dX3_sameSide_13 : decode cX3_sameSide 13 = .ok (.ifCond .ge 7, 3) := by decide +kernel
theorem dX3_sameSide_16 : decode cX3_sameSide 16 = .ok (.iconst 1, 1) := by decide +kernel
theorem dX3_sameSide_17 : decode cX3_sameSide 17 = .ok (.goto 4, 3) := by decide +kernel
theorem dX3_sameSide_20 : decode cX3_sameSide 20 = .ok (.iconst 0, 1) := by decide +kernel
theorem dX3_sameSide_21 : decode cX3_sameSide 21 = .ok (.ireturn, 1) := by decide +kernel
theorem dX4_init_0 : decode cX4_init 0 = .ok (.aload_n 0, 1) := by decide +kernel
theorem dX4_init_1 : decode cX4_init 1 = .ok (.invokespecial 3, 3) := by decide +kernel
theorem dX4_init_4 : decode cX4_init 4 = .ok (.aload_n 0, 1) := by decide +kernel
theorem dX4_init_5 : decode cX4_init 5 = .ok (.bipush 6, 2) := by decide +kernel
theorem dX4_init_7 : decode cX4_init 7 = .ok (.newarray .int, 2) := by decide +kernel
theorem dX4_init_9 : decode cX4_init 9 = .ok (.putfield 9, 3) := by decide +kernel
theorem dX4_init_12 : decode cX4_init 12 = .ok (.aload_n 0, 1) := by decide +kernel
theorem dX4_init_13 : decode cX4_init 13 = .ok (.aload_n 1, 1) := by decide +kernel
theorem dX4_init_14 : decode cX4_init 14 = .ok (.putfield 15, 3) := by decide +kernel
theorem dX4_init_17 : decode cX4_init 17 = .ok (.aload_n 0, 1) := by decide +kernel
theorem dX4_init_18 : decode cX4_init 18 = .ok (.aload_n 2, 1) := by decide +kernel
theorem dX4_init_19 : decode cX4_init 19 = .ok (.putfield 19, 3) := by decide +kernel
theorem dX4_init_22 : decode cX4_init 22 = .ok (.return_, 1) := by decide +kernel
theorem dX4_fewestOfAllTrees_0 : decode cX4_fewestOfAllTrees 0 = .ok (.aload_n 0, 1) := by decide +kernel
theorem dX4_fewestOfAllTrees_1 : decode cX4_fewestOfAllTrees 1 = .ok (.getfield 19, 3) := by decide +kernel
theorem dX4_fewestOfAllTrees_4 : decode cX4_fewestOfAllTrees 4 = .ok (.invokevirtual 23, 3) := by decide +kernel
theorem dX4_fewestOfAllTrees_7 : decode cX4_fewestOfAllTrees 7 = .ok (.aload_n 0, 1) := by decide +kernel
theorem dX4_fewestOfAllTrees_8 : decode cX4_fewestOfAllTrees 8 = .ok (.iconst 0, 1) := by decide +kernel
theorem dX4_fewestOfAllTrees_9 : decode cX4_fewestOfAllTrees 9 = .ok (.aload_n 0, 1) := by decide +kernel
theorem dX4_fewestOfAllTrees_10 : decode cX4_fewestOfAllTrees 10 = .ok (.getfield 19, 3) := by decide +kernel
theorem dX4_fewestOfAllTrees_13 : decode cX4_fewestOfAllTrees 13 = .ok (.getfield 28, 3) := by decide +kernel
theorem dX4_fewestOfAllTrees_16 : decode cX4_fewestOfAllTrees 16 = .ok (.getfield 32, 3) := by decide +kernel
theorem dX4_fewestOfAllTrees_19 : decode cX4_fewestOfAllTrees 19 = .ok (.iconst 0, 1) := by decide +kernel
theorem dX4_fewestOfAllTrees_20 : decode cX4_fewestOfAllTrees 20 = .ok (.iconst 0, 1) := by decide +kernel
theorem dX4_fewestOfAllTrees_21 : decode cX4_fewestOfAllTrees 21 = .ok (.invokevirtual 38, 3) := by decide +kernel
theorem dX4_fewestOfAllTrees_24 : decode cX4_fewestOfAllTrees 24 = .ok (.ireturn, 1) := by decide +kernel
theorem dX4_partsOverAllOrders_0 : decode cX4_partsOverAllOrders 0 = .ok (.aload_n 0, 1) := by decide +kernel
theorem dX4_partsOverAllOrders_1 : decode cX4_partsOverAllOrders 1 = .ok (.getfield 15, 3) := by decide +kernel
theorem dX4_partsOverAllOrders_4 : decode cX4_partsOverAllOrders 4 = .ok (.getfield 42, 3) := by decide +kernel
theorem dX4_partsOverAllOrders_7 : decode cX4_partsOverAllOrders 7 = .ok (.bipush 6, 2) := by decide +kernel
theorem dX4_partsOverAllOrders_9 : decode cX4_partsOverAllOrders 9 = .ok (.invokestatic 45, 3) := by decide +kernel
theorem dX4_partsOverAllOrders_12 : decode cX4_partsOverAllOrders 12 = .ok (.istore_n 1, 1) := by decide +kernel
theorem dX4_partsOverAllOrders_13 : decode cX4_partsOverAllOrders 13 = .ok (.iconst 1, 1) := by decide +kernel
theorem dX4_partsOverAllOrders_14 : decode cX4_partsOverAllOrders 14 = .ok (.istore_n 2, 1) := by decide +kernel
theorem dX4_partsOverAllOrders_15 : decode cX4_partsOverAllOrders 15 = .ok (.iconst 2, 1) := by decide +kernel
theorem dX4_partsOverAllOrders_16 : decode cX4_partsOverAllOrders 16 = .ok (.istore_n 3, 1) := by decide +kernel
theorem dX4_partsOverAllOrders_17 : decode cX4_partsOverAllOrders 17 = .ok (.iload_n 3, 1) := by decide +kernel
theorem dX4_partsOverAllOrders_18 : decode cX4_partsOverAllOrders 18 = .ok (.iload_n 1, 1) := by decide +kernel
theorem dX4_partsOverAllOrders_19 : decode cX4_partsOverAllOrders 19 = .ok (.if_icmp .gt 13, 3) := by decide +kernel
theorem dX4_partsOverAllOrders_22 : decode cX4_partsOverAllOrders 22 = .ok (.iload_n 2, 1) := by decide +kernel
theorem dX4_partsOverAllOrders_23 : decode cX4_partsOverAllOrders 23 = .ok (.iload_n 3, 1) := by decide +kernel
theorem dX4_partsOverAllOrders_24 : decode cX4_partsOverAllOrders 24 = .ok (.imul, 1) := by decide +kernel
theorem dX4_partsOverAllOrders_25 : decode cX4_partsOverAllOrders 25 = .ok (.istore_n 2, 1) := by decide +kernel
theorem dX4_partsOverAllOrders_26 : decode cX4_partsOverAllOrders 26 = .ok (.iinc 3 1, 3) := by decide +kernel
theorem dX4_partsOverAllOrders_29 : decode cX4_partsOverAllOrders 29 = .ok (.goto (-12), 3) := by decide +kernel
theorem dX4_partsOverAllOrders_32 : decode cX4_partsOverAllOrders 32 = .ok (.iconst 0, 1) := by decide +kernel
theorem dX4_partsOverAllOrders_33 : decode cX4_partsOverAllOrders 33 = .ok (.istore_n 3, 1) := by decide +kernel
theorem dX4_partsOverAllOrders_34 : decode cX4_partsOverAllOrders 34 = .ok (.iconst 0, 1) := by decide +kernel
theorem dX4_partsOverAllOrders_35 : decode cX4_partsOverAllOrders 35 = .ok (.istore 4, 2) := by decide +kernel
theorem dX4_partsOverAllOrders_37 : decode cX4_partsOverAllOrders 37 = .ok (.iload 4, 2) := by decide +kernel
theorem dX4_partsOverAllOrders_39 : decode cX4_partsOverAllOrders 39 = .ok (.iload_n 2, 1) := by decide +kernel
theorem dX4_partsOverAllOrders_40 : decode cX4_partsOverAllOrders 40 = .ok (.if_icmp .ge 70, 3) := by decide +kernel
theorem dX4_partsOverAllOrders_43 : decode cX4_partsOverAllOrders 43 = .ok (.aload_n 0, 1) := by decide +kernel
theorem dX4_partsOverAllOrders_44 : decode cX4_partsOverAllOrders 44 = .ok (.iload 4, 2) := by decide +kernel
theorem dX4_partsOverAllOrders_46 : decode cX4_partsOverAllOrders 46 = .ok (.iload_n 1, 1) := by decide +kernel
theorem dX4_partsOverAllOrders_47 : decode cX4_partsOverAllOrders 47 = .ok (.invokevirtual 51, 3) := by decide +kernel
theorem dX4_partsOverAllOrders_50 : decode cX4_partsOverAllOrders 50 = .ok (.aload_n 0, 1) := by decide +kernel
theorem dX4_partsOverAllOrders_51 : decode cX4_partsOverAllOrders 51 = .ok (.getfield 19, 3) := by decide +kernel
theorem dX4_partsOverAllOrders_54 : decode cX4_partsOverAllOrders 54 = .ok (.getfield 28, 3) := by decide +kernel
theorem dX4_partsOverAllOrders_57 : decode cX4_partsOverAllOrders 57 = .ok (.iconst 0, 1) := by decide +kernel
theorem dX4_partsOverAllOrders_58 : decode cX4_partsOverAllOrders 58 = .ok (.putfield 32, 3) := by decide +kernel
theorem dX4_partsOverAllOrders_61 : decode cX4_partsOverAllOrders 61 = .ok (.iconst 0, 1) := by decide +kernel
theorem dX4_partsOverAllOrders_62 : decode cX4_partsOverAllOrders 62 = .ok (.istore 5, 2) := by decide +kernel
theorem dX4_partsOverAllOrders_64 : decode cX4_partsOverAllOrders 64 = .ok (.iload 5, 2) := by decide +kernel
theorem dX4_partsOverAllOrders_66 : decode cX4_partsOverAllOrders 66 = .ok (.iload_n 1, 1) := by decide +kernel
theorem dX4_partsOverAllOrders_67 : decode cX4_partsOverAllOrders 67 = .ok (.if_icmp .ge 26, 3) := by decide +kernel
theorem dX4_partsOverAllOrders_70 : decode cX4_partsOverAllOrders 70 = .ok (.aload_n 0, 1) := by decide +kernel
theorem dX4_partsOverAllOrders_71 : decode cX4_partsOverAllOrders 71 = .ok (.getfield 19, 3) := by decide +kernel
theorem dX4_partsOverAllOrders_74 : decode cX4_partsOverAllOrders 74 = .ok (.getfield 28, 3) := by decide +kernel
theorem dX4_partsOverAllOrders_77 : decode cX4_partsOverAllOrders 77 = .ok (.aload_n 0, 1) := by decide +kernel
theorem dX4_partsOverAllOrders_78 : decode cX4_partsOverAllOrders 78 = .ok (.getfield 9, 3) := by decide +kernel
theorem dX4_partsOverAllOrders_81 : decode cX4_partsOverAllOrders 81 = .ok (.iload 5, 2) := by decide +kernel
theorem dX4_partsOverAllOrders_83 : decode cX4_partsOverAllOrders 83 = .ok (.iaload, 1) := by decide +kernel
theorem dX4_partsOverAllOrders_84 : decode cX4_partsOverAllOrders 84 = .ok (.invokevirtual 55, 3) := by decide +kernel
theorem dX4_partsOverAllOrders_87 : decode cX4_partsOverAllOrders 87 = .ok (.iinc 5 1, 3) := by decide +kernel
theorem dX4_partsOverAllOrders_90 : decode cX4_partsOverAllOrders 90 = .ok (.goto (-26), 3) := by decide +kernel
theorem dX4_partsOverAllOrders_93 : decode cX4_partsOverAllOrders 93 = .ok (.iload_n 3, 1) := by decide +kernel
theorem dX4_partsOverAllOrders_94 : decode cX4_partsOverAllOrders 94 = .ok (.aload_n 0, 1) := by decide +kernel
theorem dX4_partsOverAllOrders_95 : decode cX4_partsOverAllOrders 95 = .ok (.iconst 0, 1) := by decide +kernel
theorem dX4_partsOverAllOrders_96 : decode cX4_partsOverAllOrders 96 = .ok (.iload_n 1, 1) := by decide +kernel
theorem dX4_partsOverAllOrders_97 : decode cX4_partsOverAllOrders 97 = .ok (.iconst 1, 1) := by decide +kernel
theorem dX4_partsOverAllOrders_98 : decode cX4_partsOverAllOrders 98 = .ok (.iconst 0, 1) := by decide +kernel
theorem dX4_partsOverAllOrders_99 : decode cX4_partsOverAllOrders 99 = .ok (.invokevirtual 38, 3) := by decide +kernel
theorem dX4_partsOverAllOrders_102 : decode cX4_partsOverAllOrders 102 = .ok (.iadd, 1) := by decide +kernel
theorem dX4_partsOverAllOrders_103 : decode cX4_partsOverAllOrders 103 = .ok (.istore_n 3, 1) := by decide +kernel
theorem dX4_partsOverAllOrders_104 : decode cX4_partsOverAllOrders 104 = .ok (.iinc 4 1, 3) := by decide +kernel
theorem dX4_partsOverAllOrders_107 : decode cX4_partsOverAllOrders 107 = .ok (.goto (-70), 3) := by decide +kernel
theorem dX4_partsOverAllOrders_110 : decode cX4_partsOverAllOrders 110 = .ok (.iload_n 3, 1) := by decide +kernel
theorem dX4_partsOverAllOrders_111 : decode cX4_partsOverAllOrders 111 = .ok (.ireturn, 1) := by decide +kernel
theorem dX4_setSequence_0 : decode cX4_setSequence 0 = .ok (.iconst 0, 1) := by decide +kernel
theorem dX4_setSequence_1 : decode cX4_setSequence 1 = .ok (.istore_n 3, 1) := by decide +kernel
theorem dX4_setSequence_2 : decode cX4_setSequence 2 = .ok (.iload_n 3, 1) := by decide +kernel
theorem dX4_setSequence_3 : decode cX4_setSequence 3 = .ok (.iload_n 2, 1) := by decide +kernel
theorem dX4_setSequence_4 : decode cX4_setSequence 4 = .ok (.if_icmp .ge 16, 3) := by decide +kernel
theorem dX4_setSequence_7 : decode cX4_setSequence 7 = .ok (.aload_n 0, 1) := by decide +kernel
theorem dX4_setSequence_8 : decode cX4_setSequence 8 = .ok (.getfield 9, 3) := by decide +kernel
theorem dX4_setSequence_11 : decode cX4_setSequence 11 = .ok (.iload_n 3, 1) := by decide +kernel
theorem dX4_setSequence_12 : decode cX4_setSequence 12 = .ok (.iload_n 3, 1) := by decide +kernel
theorem dX4_setSequence_13 : decode cX4_setSequence 13 = .ok (.iastore, 1) := by decide +kernel
theorem dX4_setSequence_14 : decode cX4_setSequence 14 = .ok (.iinc 3 1, 3) := by decide +kernel
theorem dX4_setSequence_17 : decode cX4_setSequence 17 = .ok (.goto (-15), 3) := by decide +kernel
theorem dX4_setSequence_20 : decode cX4_setSequence 20 = .ok (.iload_n 1, 1) := by decide +kernel
theorem dX4_setSequence_21 : decode cX4_setSequence 21 = .ok (.istore_n 3, 1) := by decide +kernel
theorem dX4_setSequence_22 : decode cX4_setSequence 22 = .ok (.iload_n 2, 1) := by decide +kernel
theorem dX4_setSequence_23 : decode cX4_setSequence 23 = .ok (.iconst 1, 1) := by decide +kernel
theorem dX4_setSequence_24 : decode cX4_setSequence 24 = .ok (.isub, 1) := by decide +kernel
theorem dX4_setSequence_25 : decode cX4_setSequence 25 = .ok (.istore 4, 2) := by decide +kernel
theorem dX4_setSequence_27 : decode cX4_setSequence 27 = .ok (.iload 4, 2) := by decide +kernel
theorem dX4_setSequence_29 : decode cX4_setSequence 29 = .ok (.ifCond .le 56, 3) := by decide +kernel
theorem dX4_setSequence_32 : decode cX4_setSequence 32 = .ok (.iload_n 3, 1) := by decide +kernel
theorem dX4_setSequence_33 : decode cX4_setSequence 33 = .ok (.iload 4, 2) := by decide +kernel
theorem dX4_setSequence_35 : decode cX4_setSequence 35 = .ok (.iconst 1, 1) := by decide +kernel
theorem dX4_setSequence_36 : decode cX4_setSequence 36 = .ok (.iadd, 1) := by decide +kernel
theorem dX4_setSequence_37 : decode cX4_setSequence 37 = .ok (.irem, 1) := by decide +kernel
theorem dX4_setSequence_38 : decode cX4_setSequence 38 = .ok (.istore 5, 2) := by decide +kernel
theorem dX4_setSequence_40 : decode cX4_setSequence 40 = .ok (.iload_n 3, 1) := by decide +kernel
theorem dX4_setSequence_41 : decode cX4_setSequence 41 = .ok (.iload 4, 2) := by decide +kernel
theorem dX4_setSequence_43 : decode cX4_setSequence 43 = .ok (.iconst 1, 1) := by decide +kernel
theorem dX4_setSequence_44 : decode cX4_setSequence 44 = .ok (.iadd, 1) := by decide +kernel
theorem dX4_setSequence_45 : decode cX4_setSequence 45 = .ok (.idiv, 1) := by decide +kernel
theorem dX4_setSequence_46 : decode cX4_setSequence 46 = .ok (.istore_n 3, 1) := by decide +kernel
theorem dX4_setSequence_47 : decode cX4_setSequence 47 = .ok (.aload_n 0, 1) := by decide +kernel
theorem dX4_setSequence_48 : decode cX4_setSequence 48 = .ok (.getfield 9, 3) := by decide +kernel
theorem dX4_setSequence_51 : decode cX4_setSequence 51 = .ok (.iload 4, 2) := by decide +kernel
theorem dX4_setSequence_53 : decode cX4_setSequence 53 = .ok (.iaload, 1) := by decide +kernel
theorem dX4_setSequence_54 : decode cX4_setSequence 54 = .ok (.istore 6, 2) := by decide +kernel
theorem dX4_setSequence_56 : decode cX4_setSequence 56 = .ok (.aload_n 0, 1) := by decide +kernel
theorem dX4_setSequence_57 : decode cX4_setSequence 57 = .ok (.getfield 9, 3) := by decide +kernel
theorem dX4_setSequence_60 : decode cX4_setSequence 60 = .ok (.iload 4, 2) := by decide +kernel
theorem dX4_setSequence_62 : decode cX4_setSequence 62 = .ok (.aload_n 0, 1) := by decide +kernel
theorem dX4_setSequence_63 : decode cX4_setSequence 63 = .ok (.getfield 9, 3) := by decide +kernel
theorem dX4_setSequence_66 : decode cX4_setSequence 66 = .ok (.iload 5, 2) := by decide +kernel
theorem dX4_setSequence_68 : decode cX4_setSequence 68 = .ok (.iaload, 1) := by decide +kernel
theorem dX4_setSequence_69 : decode cX4_setSequence 69 = .ok (.iastore, 1) := by decide +kernel
theorem dX4_setSequence_70 : decode cX4_setSequence 70 = .ok (.aload_n 0, 1) := by decide +kernel
theorem dX4_setSequence_71 : decode cX4_setSequence 71 = .ok (.getfield 9, 3) := by decide +kernel
theorem dX4_setSequence_74 : decode cX4_setSequence 74 = .ok (.iload 5, 2) := by decide +kernel
theorem dX4_setSequence_76 : decode cX4_setSequence 76 = .ok (.iload 6, 2) := by decide +kernel
theorem dX4_setSequence_78 : decode cX4_setSequence 78 = .ok (.iastore, 1) := by decide +kernel
theorem dX4_setSequence_79 : decode cX4_setSequence 79 = .ok (.iinc 4 (-1), 3) := by decide +kernel
theorem dX4_setSequence_82 : decode cX4_setSequence 82 = .ok (.goto (-55), 3) := by decide +kernel
theorem dX4_setSequence_85 : decode cX4_setSequence 85 = .ok (.return_, 1) := by decide +kernel
theorem dX4_fewest_0 : decode cX4_fewest 0 = .ok (.iload_n 1, 1) := by decide +kernel
theorem dX4_fewest_1 : decode cX4_fewest 1 = .ok (.iload_n 2, 1) := by decide +kernel
theorem dX4_fewest_2 : decode cX4_fewest 2 = .ok (.if_icmp .ge 10, 3) := by decide +kernel
theorem dX4_fewest_5 : decode cX4_fewest 5 = .ok (.iload 4, 2) := by decide +kernel
theorem dX4_fewest_7 : decode cX4_fewest 7 = .ok (.bipush 6, 2) := by decide +kernel
theorem dX4_fewest_9 : decode cX4_fewest 9 = .ok (.if_icmp .lt 5, 3) := by decide +kernel
theorem dX4_fewest_12 : decode cX4_fewest 12 = .ok (.iconst 0, 1) := by decide +kernel
theorem dX4_fewest_13 : decode cX4_fewest 13 = .ok (.ireturn, 1) := by decide +kernel
theorem dX4_fewest_14 : decode cX4_fewest 14 = .ok (.iload_n 3, 1) := by decide +kernel
theorem dX4_fewest_15 : decode cX4_fewest 15 = .ok (.ifCond .eq 9, 3) := by decide +kernel
theorem dX4_fewest_18 : decode cX4_fewest 18 = .ok (.iload_n 1, 1) := by decide +kernel
theorem dX4_fewest_19 : decode cX4_fewest 19 = .ok (.iconst 1, 1) := by decide +kernel
theorem dX4_fewest_20 : decode cX4_fewest 20 = .ok (.iadd, 1) := by decide +kernel
theorem dX4_fewest_21 : decode cX4_fewest 21 = .ok (.goto 4, 3) := by decide +kernel
theorem dX4_fewest_24 : decode cX4_fewest 24 = .ok (.iload_n 2, 1) := by decide +kernel
theorem dX4_fewest_25 : decode cX4_fewest 25 = .ok (.istore 5, 2) := by decide +kernel
theorem dX4_fewest_27 : decode cX4_fewest 27 = .ok (.sipush 300, 3) := by decide +kernel
theorem dX4_fewest_30 : decode cX4_fewest 30 = .ok (.istore 6, 2) := by decide +kernel
theorem dX4_fewest_32 : decode cX4_fewest 32 = .ok (.iload_n 1, 1) := by decide +kernel
theorem dX4_fewest_33 : decode cX4_fewest 33 = .ok (.istore 7, 2) := by decide +kernel
theorem dX4_fewest_35 : decode cX4_fewest 35 = .ok (.iload 7, 2) := by decide +kernel
theorem dX4_fewest_37 : decode cX4_fewest 37 = .ok (.iload 5, 2) := by decide +kernel
theorem dX4_fewest_39 : decode cX4_fewest 39 = .ok (.if_icmp .ge 121, 3) := by decide +kernel
theorem dX4_fewest_42 : decode cX4_fewest 42 = .ok (.aload_n 0, 1) := by decide +kernel
theorem dX4_fewest_43 : decode cX4_fewest 43 = .ok (.getfield 19, 3) := by decide +kernel
theorem dX4_fewest_46 : decode cX4_fewest 46 = .ok (.getfield 28, 3) := by decide +kernel
theorem dX4_fewest_49 : decode cX4_fewest 49 = .ok (.getfield 59, 3) := by decide +kernel
theorem dX4_fewest_52 : decode cX4_fewest 52 = .ok (.iload 7, 2) := by decide +kernel
theorem dX4_fewest_54 : decode cX4_fewest 54 = .ok (.iaload, 1) := by decide +kernel
theorem dX4_fewest_55 : decode cX4_fewest 55 = .ok (.istore 8, 2) := by decide +kernel
theorem dX4_fewest_57 : decode cX4_fewest 57 = .ok (.aload_n 0, 1) := by decide +kernel
theorem dX4_fewest_58 : decode cX4_fewest 58 = .ok (.iload_n 1, 1) := by decide +kernel
theorem dX4_fewest_59 : decode cX4_fewest 59 = .ok (.iload_n 2, 1) := by decide +kernel
theorem dX4_fewest_60 : decode cX4_fewest 60 = .ok (.iload 8, 2) := by decide +kernel
theorem dX4_fewest_62 : decode cX4_fewest 62 = .ok (.invokevirtual 62, 3) := by decide +kernel
theorem dX4_fewest_65 : decode cX4_fewest 65 = .ok (.istore 9, 2) := by decide +kernel
theorem dX4_fewest_67 : decode cX4_fewest 67 = .ok (.iconst 1, 1) := by decide +kernel
theorem dX4_fewest_68 : decode cX4_fewest 68 = .ok (.istore 10, 2) := by decide +kernel
theorem dX4_fewest_70 : decode cX4_fewest 70 = .ok (.iload 10, 2) := by decide +kernel
theorem dX4_fewest_72 : decode cX4_fewest 72 = .ok (.iconst 2, 1) := by decide +kernel
theorem dX4_fewest_73 : decode cX4_fewest 73 = .ok (.if_icmp .gt 72, 3) := by decide +kernel
theorem dX4_fewest_76 : decode cX4_fewest 76 = .ok (.aload_n 0, 1) := by decide +kernel
theorem dX4_fewest_77 : decode cX4_fewest 77 = .ok (.getfield 19, 3) := by decide +kernel
theorem dX4_fewest_80 : decode cX4_fewest 80 = .ok (.getfield 28, 3) := by decide +kernel
theorem dX4_fewest_83 : decode cX4_fewest 83 = .ok (.getfield 32, 3) := by decide +kernel
theorem dX4_fewest_86 : decode cX4_fewest 86 = .ok (.istore 11, 2) := by decide +kernel
theorem dX4_fewest_88 : decode cX4_fewest 88 = .ok (.aload_n 0, 1) := by decide +kernel
theorem dX4_fewest_89 : decode cX4_fewest 89 = .ok (.getfield 19, 3) := by decide +kernel
theorem dX4_fewest_92 : decode cX4_fewest 92 = .ok (.iload_n 1, 1) := by decide +kernel
theorem dX4_fewest_93 : decode cX4_fewest 93 = .ok (.iload_n 2, 1) := by decide +kernel
theorem dX4_fewest_94 : decode cX4_fewest 94 = .ok (.iload 8, 2) := by decide +kernel
theorem dX4_fewest_96 : decode cX4_fewest 96 = .ok (.iload 10, 2) := by decide +kernel
theorem dX4_fewest_98 : decode cX4_fewest 98 = .ok (.invokevirtual 66, 3) := by decide +kernel
theorem dX4_fewest_101 : decode cX4_fewest 101 = .ok (.iload 9, 2) := by decide +kernel
theorem dX4_fewest_103 : decode cX4_fewest 103 = .ok (.aload_n 0, 1) := by decide +kernel
theorem dX4_fewest_104 : decode cX4_fewest 104 = .ok (.iload 11, 2) := by decide +kernel
theorem dX4_fewest_106 : decode cX4_fewest 106 = .ok (.aload_n 0, 1) := by decide +kernel
theorem dX4_fewest_107 : decode cX4_fewest 107 = .ok (.getfield 19, 3) := by decide +kernel
theorem dX4_fewest_110 : decode cX4_fewest 110 = .ok (.getfield 28, 3) := by decide +kernel
theorem dX4_fewest_113 : decode cX4_fewest 113 = .ok (.getfield 32, 3) := by decide +kernel
theorem dX4_fewest_116 : decode cX4_fewest 116 = .ok (.iload_n 3, 1) := by decide +kernel
theorem dX4_fewest_117 : decode cX4_fewest 117 = .ok (.iload 4, 2) := by decide +kernel
theorem dX4_fewest_119 : decode cX4_fewest 119 = .ok (.iconst 1, 1) := by decide +kernel
theorem dX4_fewest_120 : decode cX4_fewest 120 = .ok (.iadd, 1) := by decide +kernel
theorem dX4_fewest_121 : decode cX4_fewest 121 = .ok (.invokevirtual 38, 3) := by decide +kernel
theorem dX4_fewest_124 : decode cX4_fewest 124 = .ok (.iadd, 1) := by decide +kernel
theorem dX4_fewest_125 : decode cX4_fewest 125 = .ok (.istore 9, 2) := by decide +kernel
theorem dX4_fewest_127 : decode cX4_fewest 127 = .ok (.aload_n 0, 1) := by decide +kernel
theorem dX4_fewest_128 : decode cX4_fewest 128 = .ok (.getfield 19, 3) := by decide +kernel
theorem dX4_fewest_131 : decode cX4_fewest 131 = .ok (.getfield 28, 3) := by decide +kernel
theorem dX4_fewest_134 : decode cX4_fewest 134 = .ok (.iload 11, 2) := by decide +kernel
theorem dX4_fewest_136 : decode cX4_fewest 136 = .ok (.putfield 32, 3) := by decide +kernel
theorem dX4_fewest_139 : decode cX4_fewest 139 = .ok (.iinc 10 1, 3) := by decide +kernel
theorem dX4_fewest_142 : decode cX4_fewest 142 = .ok (.goto (-72), 3) := by decide +kernel
theorem dX4_fewest_145 : decode cX4_fewest 145 = .ok (.iload 6, 2) := by decide +kernel
theorem dX4_fewest_147 : decode cX4_fewest 147 = .ok (.iload 9, 2) := by decide +kernel
theorem dX4_fewest_149 : decode cX4_fewest 149 = .ok (.invokestatic 45, 3) := by decide +kernel
theorem dX4_fewest_152 : decode cX4_fewest 152 = .ok (.istore 6, 2) := by decide +kernel
theorem dX4_fewest_154 : decode cX4_fewest 154 = .ok (.iinc 7 1, 3) := by decide +kernel
theorem dX4_fewest_157 : decode cX4_fewest 157 = .ok (.goto (-122), 3) := by decide +kernel
theorem dX4_fewest_160 : decode cX4_fewest 160 = .ok (.iload 6, 2) := by decide +kernel
theorem dX4_fewest_162 : decode cX4_fewest 162 = .ok (.ireturn, 1) := by decide +kernel
theorem dX4_howManyOn_0 : decode cX4_howManyOn 0 = .ok (.iconst 0, 1) := by decide +kernel
theorem dX4_howManyOn_1 : decode cX4_howManyOn 1 = .ok (.istore 4, 2) := by decide +kernel
theorem dX4_howManyOn_3 : decode cX4_howManyOn 3 = .ok (.iload_n 1, 1) := by decide +kernel
theorem dX4_howManyOn_4 : decode cX4_howManyOn 4 = .ok (.istore 5, 2) := by decide +kernel
theorem dX4_howManyOn_6 : decode cX4_howManyOn 6 = .ok (.iload 5, 2) := by decide +kernel
theorem dX4_howManyOn_8 : decode cX4_howManyOn 8 = .ok (.iload_n 2, 1) := by decide +kernel
theorem dX4_howManyOn_9 : decode cX4_howManyOn 9 = .ok (.if_icmp .ge 25, 3) := by decide +kernel
theorem dX4_howManyOn_12 : decode cX4_howManyOn 12 = .ok (.aload_n 0, 1) := by decide +kernel
theorem dX4_howManyOn_13 : decode cX4_howManyOn 13 = .ok (.getfield 19, 3) := by decide +kernel
theorem dX4_howManyOn_16 : decode cX4_howManyOn 16 = .ok (.iload 5, 2) := by decide +kernel
theorem dX4_howManyOn_18 : decode cX4_howManyOn 18 = .ok (.iload_n 3, 1) := by decide +kernel
theorem dX4_howManyOn_19 : decode cX4_howManyOn 19 = .ok (.invokevirtual 70, 3) := by decide +kernel
theorem dX4_howManyOn_22 : decode cX4_howManyOn 22 = .ok (.ifCond .ne 6, 3) := by decide +kernel
theorem dX4_howManyOn_25 : decode cX4_howManyOn 25 = .ok (.iinc 4 1, 3) := by decide +kernel
theorem dX4_howManyOn_28 : decode cX4_howManyOn 28 = .ok (.iinc 5 1, 3) := by decide +kernel
theorem dX4_howManyOn_31 : decode cX4_howManyOn 31 = .ok (.goto (-25), 3) := by decide +kernel
theorem dX4_howManyOn_34 : decode cX4_howManyOn 34 = .ok (.iload 4, 2) := by decide +kernel
theorem dX4_howManyOn_36 : decode cX4_howManyOn 36 = .ok (.ireturn, 1) := by decide +kernel
theorem dX5_init_0 : decode cX5_init 0 = .ok (.aload_n 0, 1) := by decide +kernel
theorem dX5_init_1 : decode cX5_init 1 = .ok (.invokespecial 3, 3) := by decide +kernel
theorem dX5_init_4 : decode cX5_init 4 = .ok (.aload_n 0, 1) := by decide +kernel
theorem dX5_init_5 : decode cX5_init 5 = .ok (.sipush 300, 3) := by decide +kernel
theorem dX5_init_8 : decode cX5_init 8 = .ok (.newarray .int, 2) := by decide +kernel
theorem dX5_init_10 : decode cX5_init 10 = .ok (.putfield 9, 3) := by decide +kernel
theorem dX5_init_13 : decode cX5_init 13 = .ok (.aload_n 0, 1) := by decide +kernel
theorem dX5_init_14 : decode cX5_init 14 = .ok (.aload_n 1, 1) := by decide +kernel
theorem dX5_init_15 : decode cX5_init 15 = .ok (.putfield 15, 3) := by decide +kernel
theorem dX5_init_18 : decode cX5_init 18 = .ok (.aload_n 0, 1) := by decide +kernel
theorem dX5_init_19 : decode cX5_init 19 = .ok (.aload_n 2, 1) := by decide +kernel
theorem dX5_init_20 : decode cX5_init 20 = .ok (.putfield 19, 3) := by decide +kernel
theorem dX5_init_23 : decode cX5_init 23 = .ok (.return_, 1) := by decide +kernel
theorem dX5_tellFrom_0 : decode cX5_tellFrom 0 = .ok (.aload_n 0, 1) := by decide +kernel
theorem dX5_tellFrom_1 : decode cX5_tellFrom 1 = .ok (.iconst 0, 1) := by decide +kernel
theorem dX5_tellFrom_2 : decode cX5_tellFrom 2 = .ok (.putfield 23, 3) := by decide +kernel
theorem dX5_tellFrom_5 : decode cX5_tellFrom 5 = .ok (.aload_n 0, 1) := by decide +kernel
theorem dX5_tellFrom_6 : decode cX5_tellFrom 6 = .ok (.aload_n 0, 1) := by decide +kernel
theorem dX5_tellFrom_7 : decode cX5_tellFrom 7 = .ok (.getfield 19, 3) := by decide +kernel
theorem dX5_tellFrom_10 : decode cX5_tellFrom 10 = .ok (.getfield 27, 3) := by decide +kernel
theorem dX5_tellFrom_13 : decode cX5_tellFrom 13 = .ok (.iload_n 1, 1) := by decide +kernel
theorem dX5_tellFrom_14 : decode cX5_tellFrom 14 = .ok (.iload_n 2, 1) := by decide +kernel
theorem dX5_tellFrom_15 : decode cX5_tellFrom 15 = .ok (.iconst 0, 1) := by decide +kernel
theorem dX5_tellFrom_16 : decode cX5_tellFrom 16 = .ok (.invokevirtual 32, 3) := by decide +kernel
theorem dX5_tellFrom_19 : decode cX5_tellFrom 19 = .ok (.return_, 1) := by decide +kernel
theorem dX5_tellNode_0 : decode cX5_tellNode 0 = .ok (.iload_n 1, 1) := by decide +kernel
theorem dX5_tellNode_1 : decode cX5_tellNode 1 = .ok (.ifCond .lt 21, 3) := by decide +kernel
theorem dX5_tellNode_4 : decode cX5_tellNode 4 = .ok (.iload_n 1, 1) := by decide +kernel
theorem dX5_tellNode_5 : decode cX5_tellNode 5 = .ok (.aload_n 0, 1) := by decide +kernel
theorem dX5_tellNode_6 : decode cX5_tellNode 6 = .ok (.getfield 19, 3) := by decide +kernel
theorem dX5_tellNode_9 : decode cX5_tellNode 9 = .ok (.getfield 36, 3) := by decide +kernel
theorem dX5_tellNode_12 : decode cX5_tellNode 12 = .ok (.if_icmp .ge 10, 3) := by decide +kernel
theorem dX5_tellNode_15 : decode cX5_tellNode 15 = .ok (.iload 4, 2) := by decide +kernel
theorem dX5_tellNode_17 : decode cX5_tellNode 17 = .ok (.bipush 24, 2) := by decide +kernel
theorem dX5_tellNode_19 : decode cX5_tellNode 19 = .ok (.if_icmp .lt 4, 3) := by decide +kernel
theorem dX5_tellNode_22 : decode cX5_tellNode 22 = .ok (.return_, 1) := by decide +kernel
theorem dX5_tellNode_23 : decode cX5_tellNode 23 = .ok (.aload_n 0, 1) := by decide +kernel
theorem dX5_tellNode_24 : decode cX5_tellNode 24 = .ok (.getfield 15, 3) := by decide +kernel
theorem dX5_tellNode_27 : decode cX5_tellNode 27 = .ok (.aload_n 0, 1) := by decide +kernel
theorem dX5_tellNode_28 : decode cX5_tellNode 28 = .ok (.getfield 19, 3) := by decide +kernel
theorem dX5_tellNode_31 : decode cX5_tellNode 31 = .ok (.getfield 39, 3) := by decide +kernel
theorem dX5_tellNode_34 : decode cX5_tellNode 34 = .ok (.iload_n 1, 1) := by decide +kernel
theorem dX5_tellNode_35 : decode cX5_tellNode 35 = .ok (.iaload, 1) := by decide +kernel
theorem dX5_tellNode_36 : decode cX5_tellNode 36 = .ok (.iload_n 2, 1) := by decide +kernel
theorem dX5_tellNode_37 : decode cX5_tellNode 37 = .ok (.iload_n 3, 1) := by decide +kernel
theorem dX5_tellNode_38 : decode cX5_tellNode 38 = .ok (.invokevirtual 42, 3) := by decide +kernel
theorem dX5_tellNode_41 : decode cX5_tellNode 41 = .ok (.ifCond .le 7, 3) := by decide +kernel
theorem dX5_tellNode_44 : decode cX5_tellNode 44 = .ok (.iconst 1, 1) := by decide +kernel
theorem dX5_tellNode_45 : decode cX5_tellNode 45 = .ok (.goto 4, 3) := by decide +kernel
theorem dX5_tellNode_48 : decode cX5_tellNode 48 = .ok (.iconst 0, 1) := by decide +kernel
theorem dX5_tellNode_49 : decode cX5_tellNode 49 = .ok (.istore 5, 2) := by decide +kernel
theorem dX5_tellNode_51 : decode cX5_tellNode 51 = .ok (.aload_n 0, 1) := by decide +kernel
theorem dX5_tellNode_52 : decode cX5_tellNode 52 = .ok (.iload 5, 2) := by decide +kernel
theorem dX5_tellNode_54 : decode cX5_tellNode 54 = .ok (.ifCond .eq 15, 3) := by decide +kernel
theorem dX5_tellNode_57 : decode cX5_tellNode 57 = .ok (.aload_n 0, 1) := by decide +kernel
theorem dX5_tellNode_58 : decode cX5_tellNode 58 = .ok (.getfield 19, 3) := by decide +kernel
theorem dX5_tellNode_61 : decode cX5_tellNode 61 = .ok (.getfield 48, 3) := by decide +kernel
theorem dX5_tellNode_64 : decode cX5_tellNode 64 = .ok (.iload_n 1, 1) := by decide +kernel
theorem dX5_tellNode_65 : decode cX5_tellNode 65 = .ok (.iaload, 1) := by decide +kernel
theorem dX5_tellNode_66 : decode cX5_tellNode 66 = .ok (.goto 12, 3) := by decide +kernel
theorem dX5_tellNode_69 : decode cX5_tellNode 69 = .ok (.aload_n 0, 1) := by decide +kernel
theorem dX5_tellNode_70 : decode cX5_tellNode 70 = .ok (.getfield 19, 3) := by decide +kernel
theorem dX5_tellNode_73 : decode cX5_tellNode 73 = .ok (.getfield 51, 3) := by decide +kernel
theorem dX5_tellNode_76 : decode cX5_tellNode 76 = .ok (.iload_n 1, 1) := by decide +kernel
theorem dX5_tellNode_77 : decode cX5_tellNode 77 = .ok (.iaload, 1) := by decide +kernel
theorem dX5_tellNode_78 : decode cX5_tellNode 78 = .ok (.iload_n 2, 1) := by decide +kernel
theorem dX5_tellNode_79 : decode cX5_tellNode 79 = .ok (.iload_n 3, 1) := by decide +kernel
theorem dX5_tellNode_80 : decode cX5_tellNode 80 = .ok (.iload 4, 2) := by decide +kernel
theorem dX5_tellNode_82 : decode cX5_tellNode 82 = .ok (.iconst 1, 1) := by decide +kernel
theorem dX5_tellNode_83 : decode cX5_tellNode 83 = .ok (.iadd, 1) := by decide +kernel
theorem dX5_tellNode_84 : decode cX5_tellNode 84 = .ok (.invokevirtual 32, 3) := by decide +kernel
theorem dX5_tellNode_87 : decode cX5_tellNode 87 = .ok (.iconst 0, 1) := by decide +kernel
theorem dX5_tellNode_88 : decode cX5_tellNode 88 = .ok (.istore 6, 2) := by decide +kernel
theorem dX5_tellNode_90 : decode cX5_tellNode 90 = .ok (.iload 6, 2) := by decide +kernel
theorem dX5_tellNode_92 : decode cX5_tellNode 92 = .ok (.aload_n 0, 1) := by decide +kernel
theorem dX5_tellNode_93 : decode cX5_tellNode 93 = .ok (.getfield 19, 3) := by decide +kernel
theorem dX5_tellNode_96 : decode cX5_tellNode 96 = .ok (.getfield 54, 3) := by decide +kernel
theorem dX5_tellNode_99 : decode cX5_tellNode 99 = .ok (.iload_n 1, 1) := by decide +kernel
theorem dX5_tellNode_100 : decode cX5_tellNode 100 = .ok (.iaload, 1) := by decide +kernel
theorem dX5_tellNode_101 : decode cX5_tellNode 101 = .ok (.if_icmp .ge 50, 3) := by decide +kernel
theorem dX5_tellNode_104 : decode cX5_tellNode 104 = .ok (.aload_n 0, 1) := by decide +kernel
theorem dX5_tellNode_105 : decode cX5_tellNode 105 = .ok (.getfield 23, 3) := by decide +kernel
theorem dX5_tellNode_108 : decode cX5_tellNode 108 = .ok (.sipush 300, 3) := by decide +kernel
theorem dX5_tellNode_111 : decode cX5_tellNode 111 = .ok (.if_icmp .ge 40, 3) := by decide +kernel
theorem dX5_tellNode_114 : decode cX5_tellNode 114 = .ok (.aload_n 0, 1) := by decide +kernel
theorem dX5_tellNode_115 : decode cX5_tellNode 115 = .ok (.getfield 9, 3) := by decide +kernel
theorem dX5_tellNode_118 : decode cX5_tellNode 118 = .ok (.aload_n 0, 1) := by decide +kernel
theorem dX5_tellNode_119 : decode cX5_tellNode 119 = .ok (.getfield 23, 3) := by decide +kernel
theorem dX5_tellNode_122 : decode cX5_tellNode 122 = .ok (.aload_n 0, 1) := by decide +kernel
theorem dX5_tellNode_123 : decode cX5_tellNode 123 = .ok (.getfield 19, 3) := by decide +kernel
theorem dX5_tellNode_126 : decode cX5_tellNode 126 = .ok (.getfield 57, 3) := by decide +kernel
theorem dX5_tellNode_129 : decode cX5_tellNode 129 = .ok (.iload_n 1, 1) := by decide +kernel
theorem dX5_tellNode_130 : decode cX5_tellNode 130 = .ok (.iaload, 1) := by decide +kernel
theorem dX5_tellNode_131 : decode cX5_tellNode 131 = .ok (.iload 6, 2) := by decide +kernel
theorem dX5_tellNode_133 : decode cX5_tellNode 133 = .ok (.iadd, 1) := by decide +kernel
theorem dX5_tellNode_134 : decode cX5_tellNode 134 = .ok (.iastore, 1) := by decide +kernel
theorem dX5_tellNode_135 : decode cX5_tellNode 135 = .ok (.aload_n 0, 1) := by decide +kernel
theorem dX5_tellNode_136 : decode cX5_tellNode 136 = .ok (.dup, 1) := by decide +kernel
theorem dX5_tellNode_137 : decode cX5_tellNode 137 = .ok (.getfield 23, 3) := by decide +kernel
theorem dX5_tellNode_140 : decode cX5_tellNode 140 = .ok (.iconst 1, 1) := by decide +kernel
theorem dX5_tellNode_141 : decode cX5_tellNode 141 = .ok (.iadd, 1) := by decide +kernel
theorem dX5_tellNode_142 : decode cX5_tellNode 142 = .ok (.putfield 23, 3) := by decide +kernel
theorem dX5_tellNode_145 : decode cX5_tellNode 145 = .ok (.iinc 6 1, 3) := by decide +kernel
theorem dX5_tellNode_148 : decode cX5_tellNode 148 = .ok (.goto (-58), 3) := by decide +kernel
theorem dX5_tellNode_151 : decode cX5_tellNode 151 = .ok (.aload_n 0, 1) := by decide +kernel
theorem dX5_tellNode_152 : decode cX5_tellNode 152 = .ok (.iload 5, 2) := by decide +kernel
theorem dX5_tellNode_154 : decode cX5_tellNode 154 = .ok (.ifCond .eq 15, 3) := by decide +kernel
theorem dX5_tellNode_157 : decode cX5_tellNode 157 = .ok (.aload_n 0, 1) := by decide +kernel
theorem dX5_tellNode_158 : decode cX5_tellNode 158 = .ok (.getfield 19, 3) := by decide +kernel
theorem dX5_tellNode_161 : decode cX5_tellNode 161 = .ok (.getfield 51, 3) := by decide +kernel
theorem dX5_tellNode_164 : decode cX5_tellNode 164 = .ok (.iload_n 1, 1) := by decide +kernel
theorem dX5_tellNode_165 : decode cX5_tellNode 165 = .ok (.iaload, 1) := by decide +kernel
theorem dX5_tellNode_166 : decode cX5_tellNode 166 = .ok (.goto 12, 3) := by decide +kernel
theorem dX5_tellNode_169 : decode cX5_tellNode 169 = .ok (.aload_n 0, 1) := by decide +kernel
theorem dX5_tellNode_170 : decode cX5_tellNode 170 = .ok (.getfield 19, 3) := by decide +kernel
theorem dX5_tellNode_173 : decode cX5_tellNode 173 = .ok (.getfield 48, 3) := by decide +kernel
theorem dX5_tellNode_176 : decode cX5_tellNode 176 = .ok (.iload_n 1, 1) := by decide +kernel
theorem dX5_tellNode_177 : decode cX5_tellNode 177 = .ok (.iaload, 1) := by decide +kernel
theorem dX5_tellNode_178 : decode cX5_tellNode 178 = .ok (.iload_n 2, 1) := by decide +kernel
theorem dX5_tellNode_179 : decode cX5_tellNode 179 = .ok (.iload_n 3, 1) := by decide +kernel
theorem dX5_tellNode_180 : decode cX5_tellNode 180 = .ok (.iload 4, 2) := by decide +kernel
theorem dX5_tellNode_182 : decode cX5_tellNode 182 = .ok (.iconst 1, 1) := by decide +kernel
theorem dX5_tellNode_183 : decode cX5_tellNode 183 = .ok (.iadd, 1) := by decide +kernel
theorem dX5_tellNode_184 : decode cX5_tellNode 184 = .ok (.invokevirtual 32, 3) := by decide +kernel
theorem dX5_tellNode_187 : decode cX5_tellNode 187 = .ok (.return_, 1) := by decide +kernel
theorem dX6_init_0 : decode cX6_init 0 = .ok (.aload_n 0, 1) := by decide +kernel
theorem dX6_init_1 : decode cX6_init 1 = .ok (.invokespecial 3, 3) := by decide +kernel
theorem dX6_init_4 : decode cX6_init 4 = .ok (.aload_n 0, 1) := by decide +kernel
theorem dX6_init_5 : decode cX6_init 5 = .ok (.sipush 300, 3) := by decide +kernel
theorem dX6_init_8 : decode cX6_init 8 = .ok (.newarray .int, 2) := by decide +kernel
theorem dX6_init_10 : decode cX6_init 10 = .ok (.putfield 9, 3) := by decide +kernel
theorem dX6_init_13 : decode cX6_init 13 = .ok (.aload_n 0, 1) := by decide +kernel
theorem dX6_init_14 : decode cX6_init 14 = .ok (.sipush 300, 3) := by decide +kernel
theorem dX6_init_17 : decode cX6_init 17 = .ok (.newarray .int, 2) := by decide +kernel
theorem dX6_init_19 : decode cX6_init 19 = .ok (.putfield 15, 3) := by decide +kernel
theorem dX6_init_22 : decode cX6_init 22 = .ok (.aload_n 0, 1) := by decide +kernel
theorem dX6_init_23 : decode cX6_init 23 = .ok (.sipush 300, 3) := by decide +kernel
theorem dX6_init_26 : decode cX6_init 26 = .ok (.newarray .int, 2) := by decide +kernel
theorem dX6_init_28 : decode cX6_init 28 = .ok (.putfield 18, 3) := by decide +kernel
theorem dX6_init_31 : decode cX6_init 31 = .ok (.aload_n 0, 1) := by decide +kernel
theorem dX6_init_32 : decode cX6_init 32 = .ok (.sipush 300, 3) := by decide +kernel
theorem dX6_init_35 : decode cX6_init 35 = .ok (.newarray .int, 2) := by decide +kernel
theorem dX6_init_37 : decode cX6_init 37 = .ok (.putfield 21, 3) := by decide +kernel
theorem dX6_init_40 : decode cX6_init 40 = .ok (.aload_n 0, 1) := by decide +kernel
theorem dX6_init_41 : decode cX6_init 41 = .ok (.sipush 300, 3) := by decide +kernel
theorem dX6_init_44 : decode cX6_init 44 = .ok (.newarray .int, 2) := by decide +kernel
theorem dX6_init_46 : decode cX6_init 46 = .ok (.putfield 24, 3) := by decide +kernel
theorem dX6_init_49 : decode cX6_init 49 = .ok (.aload_n 0, 1) := by decide +kernel
theorem dX6_init_50 : decode cX6_init 50 = .ok (.sipush 300, 3) := by decide +kernel
theorem dX6_init_53 : decode cX6_init 53 = .ok (.newarray .int, 2) := by decide +kernel
theorem dX6_init_55 : decode cX6_init 55 = .ok (.putfield 27, 3) := by decide +kernel
theorem dX6_init_58 : decode cX6_init 58 = .ok (.aload_n 0, 1) := by decide +kernel
theorem dX6_init_59 : decode cX6_init 59 = .ok (.new 30, 3) := by decide +kernel
theorem dX6_init_62 : decode cX6_init 62 = .ok (.dup, 1) := by decide +kernel
theorem dX6_init_63 : decode cX6_init 63 = .ok (.invokespecial 32, 3) := by decide +kernel
theorem dX6_init_66 : decode cX6_init 66 = .ok (.putfield 33, 3) := by decide +kernel
theorem dX6_init_69 : decode cX6_init 69 = .ok (.aload_n 0, 1) := by decide +kernel
theorem dX6_init_70 : decode cX6_init 70 = .ok (.sipush 300, 3) := by decide +kernel
theorem dX6_init_73 : decode cX6_init 73 = .ok (.newarray .int, 2) := by decide +kernel
theorem dX6_init_75 : decode cX6_init 75 = .ok (.putfield 37, 3) := by decide +kernel
theorem dX6_init_78 : decode cX6_init 78 = .ok (.aload_n 0, 1) := by decide +kernel
theorem dX6_init_79 : decode cX6_init 79 = .ok (.aload_n 1, 1) := by decide +kernel
theorem dX6_init_80 : decode cX6_init 80 = .ok (.putfield 40, 3) := by decide +kernel
theorem dX6_init_83 : decode cX6_init 83 = .ok (.aload_n 0, 1) := by decide +kernel
theorem dX6_init_84 : decode cX6_init 84 = .ok (.aload_n 2, 1) := by decide +kernel
theorem dX6_init_85 : decode cX6_init 85 = .ok (.putfield 44, 3) := by decide +kernel
theorem dX6_init_88 : decode cX6_init 88 = .ok (.return_, 1) := by decide +kernel
theorem dX6_fell_0 : decode cX6_fell 0 = .ok (.aload_n 0, 1) := by decide +kernel
theorem dX6_fell_1 : decode cX6_fell 1 = .ok (.iconst 0, 1) := by decide +kernel
theorem dX6_fell_2 : decode cX6_fell 2 = .ok (.putfield 48, 3) := by decide +kernel
theorem dX6_fell_5 : decode cX6_fell 5 = .ok (.aload_n 0, 1) := by decide +kernel
theorem dX6_fell_6 : decode cX6_fell 6 = .ok (.iconst 0, 1) := by decide +kernel
theorem dX6_fell_7 : decode cX6_fell 7 = .ok (.putfield 52, 3) := by decide +kernel
theorem dX6_fell_10 : decode cX6_fell 10 = .ok (.aload_n 0, 1) := by decide +kernel
theorem dX6_fell_11 : decode cX6_fell 11 = .ok (.iconst 0, 1) := by decide +kernel
theorem dX6_fell_12 : decode cX6_fell 12 = .ok (.putfield 56, 3) := by decide +kernel
theorem dX6_fell_15 : decode cX6_fell 15 = .ok (.aload_n 0, 1) := by decide +kernel
theorem dX6_fell_16 : decode cX6_fell 16 = .ok (.iconst 0, 1) := by decide +kernel
theorem dX6_fell_17 : decode cX6_fell 17 = .ok (.putfield 59, 3) := by decide +kernel
theorem dX6_fell_20 : decode cX6_fell 20 = .ok (.aload_n 0, 1) := by decide +kernel
theorem dX6_fell_21 : decode cX6_fell 21 = .ok (.getfield 33, 3) := by decide +kernel
theorem dX6_fell_24 : decode cX6_fell 24 = .ok (.iconst 0, 1) := by decide +kernel
theorem dX6_fell_25 : decode cX6_fell 25 = .ok (.putfield 62, 3) := by decide +kernel
theorem dX6_fell_28 : decode cX6_fell 28 = .ok (.return_, 1) := by decide +kernel
theorem dX6_raise_0 : decode cX6_raise 0 = .ok (.aload_n 0, 1) := by decide +kernel
theorem dX6_raise_1 : decode cX6_raise 1 = .ok (.invokevirtual 65, 3) := by decide +kernel
theorem dX6_raise_4 : decode cX6_raise 4 = .ok (.aload_n 0, 1) := by decide +kernel
theorem dX6_raise_5 : decode cX6_raise 5 = .ok (.iload_n 1, 1) := by decide +kernel
theorem dX6_raise_6 : decode cX6_raise 6 = .ok (.putfield 68, 3) := by decide +kernel
theorem dX6_raise_9 : decode cX6_raise 9 = .ok (.aload_n 0, 1) := by decide +kernel
theorem dX6_raise_10 : decode cX6_raise 10 = .ok (.iload_n 2, 1) := by decide +kernel
theorem dX6_raise_11 : decode cX6_raise 11 = .ok (.putfield 71, 3) := by decide +kernel
theorem dX6_raise_14 : decode cX6_raise 14 = .ok (.aload_n 0, 1) := by decide +kernel
theorem dX6_raise_15 : decode cX6_raise 15 = .ok (.getfield 44, 3) := by decide +kernel
theorem dX6_raise_18 : decode cX6_raise 18 = .ok (.invokevirtual 74, 3) := by decide +kernel
theorem dX6_raise_21 : decode cX6_raise 21 = .ok (.aload_n 0, 1) := by decide +kernel
theorem dX6_raise_22 : decode cX6_raise 22 = .ok (.aload_n 0, 1) := by decide +kernel
theorem dX6_raise_23 : decode cX6_raise 23 = .ok (.iconst 0, 1) := by decide +kernel
theorem dX6_raise_24 : decode cX6_raise 24 = .ok (.aload_n 0, 1) := by decide +kernel
theorem dX6_raise_25 : decode cX6_raise 25 = .ok (.getfield 44, 3) := by decide +kernel
theorem dX6_raise_28 : decode cX6_raise 28 = .ok (.getfield 79, 3) := by decide +kernel
theorem dX6_raise_31 : decode cX6_raise 31 = .ok (.getfield 62, 3) := by decide +kernel
theorem dX6_raise_34 : decode cX6_raise 34 = .ok (.iconst (-1), 1) := by decide +kernel
theorem dX6_raise_35 : decode cX6_raise 35 = .ok (.iconst 0, 1) := by decide +kernel
theorem dX6_raise_36 : decode cX6_raise 36 = .ok (.invokevirtual 82, 3) := by decide +kernel
theorem dX6_raise_39 : decode cX6_raise 39 = .ok (.putfield 86, 3) := by decide +kernel
theorem dX6_raise_42 : decode cX6_raise 42 = .ok (.aload_n 0, 1) := by decide +kernel
theorem dX6_raise_43 : decode cX6_raise 43 = .ok (.iconst 1, 1) := by decide +kernel
theorem dX6_raise_44 : decode cX6_raise 44 = .ok (.putfield 48, 3) := by decide +kernel
theorem dX6_raise_47 : decode cX6_raise 47 = .ok (.return_, 1) := by decide +kernel
theorem dX6_grow_0 : decode cX6_grow 0 = .ok (.iload_n 1, 1) := by decide +kernel
theorem dX6_grow_1 : decode cX6_grow 1 = .ok (.iload_n 2, 1) := by decide +kernel
theorem dX6_grow_2 : decode cX6_grow 2 = .ok (.if_icmp .ge 20, 3) := by decide +kernel
theorem dX6_grow_5 : decode cX6_grow 5 = .ok (.iload 4, 2) := by decide +kernel
theorem dX6_grow_7 : decode cX6_grow 7 = .ok (.bipush 24, 2) := by decide +kernel
theorem dX6_grow_9 : decode cX6_grow 9 = .ok (.if_icmp .ge 13, 3) := by decide +kernel
theorem dX6_grow_12 : decode cX6_grow 12 = .ok (.aload_n 0, 1) := by decide +kernel
theorem dX6_grow_13 : decode cX6_grow 13 = .ok (.getfield 52, 3) := by decide +kernel
theorem dX6_grow_16 : decode cX6_grow 16 = .ok (.sipush 300, 3) := by decide +kernel
theorem dX6_grow_19 : decode cX6_grow 19 = .ok (.if_icmp .lt 23, 3) := by decide +kernel
theorem dX6_grow_22 : decode cX6_grow 22 = .ok (.aload_n 0, 1) := by decide +kernel
theorem dX6_grow_23 : decode cX6_grow 23 = .ok (.dup, 1) := by decide +kernel
theorem dX6_grow_24 : decode cX6_grow 24 = .ok (.getfield 56, 3) := by decide +kernel
theorem dX6_grow_27 : decode cX6_grow 27 = .ok (.iconst 1, 1) := by decide +kernel
theorem dX6_grow_28 : decode cX6_grow 28 = .ok (.iadd, 1) := by decide +kernel
theorem dX6_grow_29 : decode cX6_grow 29 = .ok (.putfield 56, 3) := by decide +kernel
theorem dX6_grow_32 : decode cX6_grow 32 = .ok (.bipush (-2), 2) := by decide +kernel
theorem dX6_grow_34 : decode cX6_grow 34 = .ok (.aload_n 0, 1) := by decide +kernel
theorem dX6_grow_35 : decode cX6_grow 35 = .ok (.getfield 56, 3) := by decide +kernel
theorem dX6_grow_38 : decode cX6_grow 38 = .ok (.iconst 1, 1) := by decide +kernel
theorem dX6_grow_39 : decode cX6_grow 39 = .ok (.isub, 1) := by decide +kernel
theorem dX6_grow_40 : decode cX6_grow 40 = .ok (.isub, 1) := by decide +kernel
theorem dX6_grow_41 : decode cX6_grow 41 = .ok (.ireturn, 1) := by decide +kernel
theorem dX6_grow_42 : decode cX6_grow 42 = .ok (.aload_n 0, 1) := by decide +kernel
theorem dX6_grow_43 : decode cX6_grow 43 = .ok (.getfield 52, 3) := by decide +kernel
theorem dX6_grow_46 : decode cX6_grow 46 = .ok (.istore 5, 2) := by decide +kernel
theorem dX6_grow_48 : decode cX6_grow 48 = .ok (.aload_n 0, 1) := by decide +kernel
theorem dX6_grow_49 : decode cX6_grow 49 = .ok (.dup, 1) := by decide +kernel
theorem dX6_grow_50 : decode cX6_grow 50 = .ok (.getfield 52, 3) := by decide +kernel
theorem dX6_grow_53 : decode cX6_grow 53 = .ok (.iconst 1, 1) := by decide +kernel
theorem dX6_grow_54 : decode cX6_grow 54 = .ok (.iadd, 1) := by decide +kernel
theorem dX6_grow_55 : decode cX6_grow 55 = .ok (.putfield 52, 3) := by decide +kernel
theorem dX6_grow_58 : decode cX6_grow 58 = .ok (.aload_n 0, 1) := by decide +kernel
theorem dX6_grow_59 : decode cX6_grow 59 = .ok (.aload_n 0, 1) := by decide +kernel
theorem dX6_grow_60 : decode cX6_grow 60 = .ok (.getfield 59, 3) := by decide +kernel
theorem dX6_grow_63 : decode cX6_grow 63 = .ok (.iload 4, 2) := by decide +kernel
theorem dX6_grow_65 : decode cX6_grow 65 = .ok (.iconst 1, 1) := by decide +kernel
theorem dX6_grow_66 : decode cX6_grow 66 = .ok (.iadd, 1) := by decide +kernel
theorem dX6_grow_67 : decode cX6_grow 67 = .ok (.invokestatic 89, 3) := by decide +kernel
theorem dX6_grow_70 : decode cX6_grow 70 = .ok (.putfield 59, 3) := by decide +kernel
theorem dX6_grow_73 : decode cX6_grow 73 = .ok (.aload_n 0, 1) := by decide +kernel
theorem dX6_grow_74 : decode cX6_grow 74 = .ok (.getfield 9, 3) := by decide +kernel
theorem dX6_grow_77 : decode cX6_grow 77 = .ok (.iload 5, 2) := by decide +kernel
theorem dX6_grow_79 : decode cX6_grow 79 = .ok (.aload_n 0, 1) := by decide +kernel
theorem dX6_grow_80 : decode cX6_grow 80 = .ok (.getfield 44, 3) := by decide +kernel
theorem dX6_grow_83 : decode cX6_grow 83 = .ok (.getfield 79, 3) := by decide +kernel
theorem dX6_grow_86 : decode cX6_grow 86 = .ok (.getfield 95, 3) := by decide +kernel
theorem dX6_grow_89 : decode cX6_grow 89 = .ok (.aload_n 0, 1) := by decide +kernel
theorem dX6_grow_90 : decode cX6_grow 90 = .ok (.iload_n 1, 1) := by decide +kernel
theorem dX6_grow_91 : decode cX6_grow 91 = .ok (.iload_n 2, 1) := by decide +kernel
theorem dX6_grow_92 : decode cX6_grow 92 = .ok (.invokevirtual 98, 3) := by decide +kernel
theorem dX6_grow_95 : decode cX6_grow 95 = .ok (.iaload, 1) := by decide +kernel
theorem dX6_grow_96 : decode cX6_grow 96 = .ok (.iastore, 1) := by decide +kernel
theorem dX6_grow_97 : decode cX6_grow 97 = .ok (.aload_n 0, 1) := by decide +kernel
theorem dX6_grow_98 : decode cX6_grow 98 = .ok (.getfield 27, 3) := by decide +kernel
theorem dX6_grow_101 : decode cX6_grow 101 = .ok (.iload 5, 2) := by decide +kernel
theorem dX6_grow_103 : decode cX6_grow 103 = .ok (.iload_n 3, 1) := by decide +kernel
theorem dX6_grow_104 : decode cX6_grow 104 = .ok (.iastore, 1) := by decide +kernel
theorem dX6_grow_105 : decode cX6_grow 105 = .ok (.aload_n 0, 1) := by decide +kernel
theorem dX6_grow_106 : decode cX6_grow 106 = .ok (.iload 5, 2) := by decide +kernel
theorem dX6_grow_108 : decode cX6_grow 108 = .ok (.iload_n 1, 1) := by decide +kernel
theorem dX6_grow_109 : decode cX6_grow 109 = .ok (.iload_n 2, 1) := by decide +kernel
theorem dX6_grow_110 : decode cX6_grow 110 = .ok (.invokevirtual 101, 3) := by decide +kernel
theorem dX6_grow_113 : decode cX6_grow 113 = .ok (.aload_n 0, 1) := by decide +kernel
theorem dX6_grow_114 : decode cX6_grow 114 = .ok (.getfield 21, 3) := by decide +kernel
theorem dX6_grow_117 : decode cX6_grow 117 = .ok (.iload 5, 2) := by decide +kernel
theorem dX6_grow_119 : decode cX6_grow 119 = .ok (.aload_n 0, 1) := by decide +kernel
theorem dX6_grow_120 : decode cX6_grow 120 = .ok (.iload_n 1, 1) := by decide +kernel
theorem dX6_grow_121 : decode cX6_grow 121 = .ok (.iload_n 2, 1) := by decide +kernel
theorem dX6_grow_122 : decode cX6_grow 122 = .ok (.iload 5, 2) := by decide +kernel
theorem dX6_grow_124 : decode cX6_grow 124 = .ok (.iconst 1, 1) := by decide +kernel
theorem dX6_grow_125 : decode cX6_grow 125 = .ok (.iload 4, 2) := by decide +kernel
theorem dX6_grow_127 : decode cX6_grow 127 = .ok (.invokevirtual 105, 3) := by decide +kernel
theorem dX6_grow_130 : decode cX6_grow 130 = .ok (.iastore, 1) := by decide +kernel
theorem dX6_grow_131 : decode cX6_grow 131 = .ok (.aload_n 0, 1) := by decide +kernel
theorem dX6_grow_132 : decode cX6_grow 132 = .ok (.getfield 24, 3) := by decide +kernel
theorem dX6_grow_135 : decode cX6_grow 135 = .ok (.iload 5, 2) := by decide +kernel
theorem dX6_grow_137 : decode cX6_grow 137 = .ok (.aload_n 0, 1) := by decide +kernel
theorem dX6_grow_138 : decode cX6_grow 138 = .ok (.iload_n 1, 1) := by decide +kernel
theorem dX6_grow_139 : decode cX6_grow 139 = .ok (.iload_n 2, 1) := by decide +kernel
theorem dX6_grow_140 : decode cX6_grow 140 = .ok (.iload 5, 2) := by decide +kernel
theorem dX6_grow_142 : decode cX6_grow 142 = .ok (.iconst 2, 1) := by decide +kernel
theorem dX6_grow_143 : decode cX6_grow 143 = .ok (.iload 4, 2) := by decide +kernel
theorem dX6_grow_145 : decode cX6_grow 145 = .ok (.invokevirtual 105, 3) := by decide +kernel
theorem dX6_grow_148 : decode cX6_grow 148 = .ok (.iastore, 1) := by decide +kernel
theorem dX6_grow_149 : decode cX6_grow 149 = .ok (.iload 5, 2) := by decide +kernel
theorem dX6_grow_151 : decode cX6_grow 151 = .ok (.ireturn, 1) := by decide +kernel
theorem dX6_growSide_0 : decode cX6_growSide 0 = .ok (.aload_n 0, 1) := by decide +kernel
theorem dX6_growSide_1 : decode cX6_growSide 1 = .ok (.getfield 44, 3) := by decide +kernel
theorem dX6_growSide_4 : decode cX6_growSide 4 = .ok (.getfield 79, 3) := by decide +kernel
theorem dX6_growSide_7 : decode cX6_growSide 7 = .ok (.getfield 62, 3) := by decide +kernel
theorem dX6_growSide_10 : decode cX6_growSide 10 = .ok (.istore 6, 2) := by decide +kernel
theorem dX6_growSide_12 : decode cX6_growSide 12 = .ok (.aload_n 0, 1) := by decide +kernel
theorem dX6_growSide_13 : decode cX6_growSide 13 = .ok (.getfield 44, 3) := by decide +kernel
theorem dX6_growSide_16 : decode cX6_growSide 16 = .ok (.iload_n 1, 1) := by decide +kernel
theorem dX6_growSide_17 : decode cX6_growSide 17 = .ok (.iload_n 2, 1) := by decide +kernel
theorem dX6_growSide_18 : decode cX6_growSide 18 = .ok (.aload_n 0, 1) := by decide +kernel
theorem dX6_growSide_19 : decode cX6_growSide 19 = .ok (.getfield 9, 3) := by decide +kernel
theorem dX6_growSide_22 : decode cX6_growSide 22 = .ok (.iload_n 3, 1) := by decide +kernel
theorem dX6_growSide_23 : decode cX6_growSide 23 = .ok (.iaload, 1) := by decide +kernel
theorem dX6_growSide_24 : decode cX6_growSide 24 = .ok (.iload 4, 2) := by decide +kernel
theorem dX6_growSide_26 : decode cX6_growSide 26 = .ok (.invokevirtual 109, 3) := by decide +kernel
theorem dX6_growSide_29 : decode cX6_growSide 29 = .ok (.aload_n 0, 1) := by decide +kernel
theorem dX6_growSide_30 : decode cX6_growSide 30 = .ok (.iload 6, 2) := by decide +kernel
theorem dX6_growSide_32 : decode cX6_growSide 32 = .ok (.aload_n 0, 1) := by decide +kernel
theorem dX6_growSide_33 : decode cX6_growSide 33 = .ok (.getfield 44, 3) := by decide +kernel
theorem dX6_growSide_36 : decode cX6_growSide 36 = .ok (.getfield 79, 3) := by decide +kernel
theorem dX6_growSide_39 : decode cX6_growSide 39 = .ok (.getfield 62, 3) := by decide +kernel
theorem dX6_growSide_42 : decode cX6_growSide 42 = .ok (.iload_n 3, 1) := by decide +kernel
theorem dX6_growSide_43 : decode cX6_growSide 43 = .ok (.iload 5, 2) := by decide +kernel
theorem dX6_growSide_45 : decode cX6_growSide 45 = .ok (.iconst 1, 1) := by decide +kernel
theorem dX6_growSide_46 : decode cX6_growSide 46 = .ok (.iadd, 1) := by decide +kernel
theorem dX6_growSide_47 : decode cX6_growSide 47 = .ok (.invokevirtual 82, 3) := by decide +kernel
theorem dX6_growSide_50 : decode cX6_growSide 50 = .ok (.istore 7, 2) := by decide +kernel
theorem dX6_growSide_52 : decode cX6_growSide 52 = .ok (.aload_n 0, 1) := by decide +kernel
theorem dX6_growSide_53 : decode cX6_growSide 53 = .ok (.getfield 44, 3) := by decide +kernel
theorem dX6_growSide_56 : decode cX6_growSide 56 = .ok (.getfield 79, 3) := by decide +kernel
theorem dX6_growSide_59 : decode cX6_growSide 59 = .ok (.iload 6, 2) := by decide +kernel
theorem dX6_growSide_61 : decode cX6_growSide 61 = .ok (.putfield 62, 3) := by decide +kernel
theorem dX6_growSide_64 : decode cX6_growSide 64 = .ok (.iload 7, 2) := by decide +kernel
theorem dX6_growSide_66 : decode cX6_growSide 66 = .ok (.ireturn, 1) := by decide +kernel
theorem dX6_hold_0 : decode cX6_hold 0 = .ok (.aload_n 0, 1) := by decide +kernel
theorem dX6_hold_1 : decode cX6_hold 1 = .ok (.getfield 18, 3) := by decide +kernel
theorem dX6_hold_4 : decode cX6_hold 4 = .ok (.iload_n 1, 1) := by decide +kernel
theorem dX6_hold_5 : decode cX6_hold 5 = .ok (.aload_n 0, 1) := by decide +kernel
theorem dX6_hold_6 : decode cX6_hold 6 = .ok (.getfield 33, 3) := by decide +kernel
theorem dX6_hold_9 : decode cX6_hold 9 = .ok (.getfield 62, 3) := by decide +kernel
theorem dX6_hold_12 : decode cX6_hold 12 = .ok (.iastore, 1) := by decide +kernel
theorem dX6_hold_13 : decode cX6_hold 13 = .ok (.iload_n 2, 1) := by decide +kernel
theorem dX6_hold_14 : decode cX6_hold 14 = .ok (.istore 4, 2) := by decide +kernel
theorem dX6_hold_16 : decode cX6_hold 16 = .ok (.iload 4, 2) := by decide +kernel
theorem dX6_hold_18 : decode cX6_hold 18 = .ok (.iload_n 3, 1) := by decide +kernel
theorem dX6_hold_19 : decode cX6_hold 19 = .ok (.if_icmp .ge 69, 3) := by decide +kernel
theorem dX6_hold_22 : decode cX6_hold 22 = .ok (.aload_n 0, 1) := by decide +kernel
theorem dX6_hold_23 : decode cX6_hold 23 = .ok (.getfield 33, 3) := by decide +kernel
theorem dX6_hold_26 : decode cX6_hold 26 = .ok (.getfield 62, 3) := by decide +kernel
theorem dX6_hold_29 : decode cX6_hold 29 = .ok (.sipush 300, 3) := by decide +kernel
theorem dX6_hold_32 : decode cX6_hold 32 = .ok (.if_icmp .ge 50, 3) := by decide +kernel
theorem dX6_hold_35 : decode cX6_hold 35 = .ok (.aload_n 0, 1) := by decide +kernel
