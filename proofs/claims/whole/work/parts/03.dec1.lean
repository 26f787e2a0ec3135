theorem dX6_hold_36 : decode cX6_hold 36 = .ok (.getfield 44, 3) := by decide +kernel
theorem dX6_hold_39 : decode cX6_hold 39 = .ok (.iload 4, 2) := by decide +kernel
theorem dX6_hold_41 : decode cX6_hold 41 = .ok (.aload_n 0, 1) := by decide +kernel
theorem dX6_hold_42 : decode cX6_hold 42 = .ok (.getfield 9, 3) := by decide +kernel
theorem dX6_hold_45 : decode cX6_hold 45 = .ok (.iload_n 1, 1) := by decide +kernel
theorem dX6_hold_46 : decode cX6_hold 46 = .ok (.iaload, 1) := by decide +kernel
theorem dX6_hold_47 : decode cX6_hold 47 = .ok (.invokevirtual 113, 3) := by decide +kernel
theorem dX6_hold_50 : decode cX6_hold 50 = .ok (.ifCond .ne 32, 3) := by decide +kernel
theorem dX6_hold_53 : decode cX6_hold 53 = .ok (.aload_n 0, 1) := by decide +kernel
theorem dX6_hold_54 : decode cX6_hold 54 = .ok (.getfield 37, 3) := by decide +kernel
theorem dX6_hold_57 : decode cX6_hold 57 = .ok (.aload_n 0, 1) := by decide +kernel
theorem dX6_hold_58 : decode cX6_hold 58 = .ok (.getfield 33, 3) := by decide +kernel
theorem dX6_hold_61 : decode cX6_hold 61 = .ok (.getfield 62, 3) := by decide +kernel
theorem dX6_hold_64 : decode cX6_hold 64 = .ok (.iload_n 1, 1) := by decide +kernel
theorem dX6_hold_65 : decode cX6_hold 65 = .ok (.iastore, 1) := by decide +kernel
theorem dX6_hold_66 : decode cX6_hold 66 = .ok (.aload_n 0, 1) := by decide +kernel
theorem dX6_hold_67 : decode cX6_hold 67 = .ok (.getfield 33, 3) := by decide +kernel
theorem dX6_hold_70 : decode cX6_hold 70 = .ok (.aload_n 0, 1) := by decide +kernel
theorem dX6_hold_71 : decode cX6_hold 71 = .ok (.getfield 44, 3) := by decide +kernel
theorem dX6_hold_74 : decode cX6_hold 74 = .ok (.getfield 79, 3) := by decide +kernel
theorem dX6_hold_77 : decode cX6_hold 77 = .ok (.iload 4, 2) := by decide +kernel
theorem dX6_hold_79 : decode cX6_hold 79 = .ok (.invokevirtual 116, 3) := by decide +kernel
theorem dX6_hold_82 : decode cX6_hold 82 = .ok (.iinc 4 1, 3) := by decide +kernel
theorem dX6_hold_85 : decode cX6_hold 85 = .ok (.goto (-69), 3) := by decide +kernel
theorem dX6_hold_88 : decode cX6_hold 88 = .ok (.aload_n 0, 1) := by decide +kernel
theorem dX6_hold_89 : decode cX6_hold 89 = .ok (.getfield 15, 3) := by decide +kernel
theorem dX6_hold_92 : decode cX6_hold 92 = .ok (.iload_n 1, 1) := by decide +kernel
theorem dX6_hold_93 : decode cX6_hold 93 = .ok (.aload_n 0, 1) := by decide +kernel
theorem dX6_hold_94 : decode cX6_hold 94 = .ok (.getfield 33, 3) := by decide +kernel
theorem dX6_hold_97 : decode cX6_hold 97 = .ok (.getfield 62, 3) := by decide +kernel
theorem dX6_hold_100 : decode cX6_hold 100 = .ok (.aload_n 0, 1) := by decide +kernel
theorem dX6_hold_101 : decode cX6_hold 101 = .ok (.getfield 18, 3) := by decide +kernel
theorem dX6_hold_104 : decode cX6_hold 104 = .ok (.iload_n 1, 1) := by decide +kernel
theorem dX6_hold_105 : decode cX6_hold 105 = .ok (.iaload, 1) := by decide +kernel
theorem dX6_hold_106 : decode cX6_hold 106 = .ok (.isub, 1) := by decide +kernel
theorem dX6_hold_107 : decode cX6_hold 107 = .ok (.iastore, 1) := by decide +kernel
theorem dX6_hold_108 : decode cX6_hold 108 = .ok (.return_, 1) := by decide +kernel
theorem dX6_choose_0 : decode cX6_choose 0 = .ok (.aload_n 0, 1) := by decide +kernel
theorem dX6_choose_1 : decode cX6_choose 1 = .ok (.getfield 68, 3) := by decide +kernel
theorem dX6_choose_4 : decode cX6_choose 4 = .ok (.ifCond .eq 8, 3) := by decide +kernel
theorem dX6_choose_7 : decode cX6_choose 7 = .ok (.iload_n 2, 1) := by decide +kernel
theorem dX6_choose_8 : decode cX6_choose 8 = .ok (.iload_n 1, 1) := by decide +kernel
theorem dX6_choose_9 : decode cX6_choose 9 = .ok (.if_icmp .gt 5, 3) := by decide +kernel
theorem dX6_choose_12 : decode cX6_choose 12 = .ok (.iload_n 1, 1) := by decide +kernel
theorem dX6_choose_13 : decode cX6_choose 13 = .ok (.ireturn, 1) := by decide +kernel
theorem dX6_choose_14 : decode cX6_choose 14 = .ok (.aload_n 0, 1) := by decide +kernel
theorem dX6_choose_15 : decode cX6_choose 15 = .ok (.getfield 68, 3) := by decide +kernel
theorem dX6_choose_18 : decode cX6_choose 18 = .ok (.iconst 2, 1) := by decide +kernel
theorem dX6_choose_19 : decode cX6_choose 19 = .ok (.if_icmp .ne 36, 3) := by decide +kernel
theorem dX6_choose_22 : decode cX6_choose 22 = .ok (.aload_n 0, 1) := by decide +kernel
theorem dX6_choose_23 : decode cX6_choose 23 = .ok (.ldc 120, 2) := by decide +kernel
theorem dX6_choose_25 : decode cX6_choose 25 = .ok (.aload_n 0, 1) := by decide +kernel
theorem dX6_choose_26 : decode cX6_choose 26 = .ok (.getfield 71, 3) := by decide +kernel
theorem dX6_choose_29 : decode cX6_choose 29 = .ok (.imul, 1) := by decide +kernel
theorem dX6_choose_30 : decode cX6_choose 30 = .ok (.sipush 12345, 3) := by decide +kernel
theorem dX6_choose_33 : decode cX6_choose 33 = .ok (.iadd, 1) := by decide +kernel
theorem dX6_choose_34 : decode cX6_choose 34 = .ok (.putfield 71, 3) := by decide +kernel
theorem dX6_choose_37 : decode cX6_choose 37 = .ok (.iload_n 1, 1) := by decide +kernel
theorem dX6_choose_38 : decode cX6_choose 38 = .ok (.aload_n 0, 1) := by decide +kernel
theorem dX6_choose_39 : decode cX6_choose 39 = .ok (.getfield 71, 3) := by decide +kernel
theorem dX6_choose_42 : decode cX6_choose 42 = .ok (.bipush 16, 2) := by decide +kernel
theorem dX6_choose_44 : decode cX6_choose 44 = .ok (.ishr, 1) := by decide +kernel
theorem dX6_choose_45 : decode cX6_choose 45 = .ok (.sipush 32767, 3) := by decide +kernel
theorem dX6_choose_48 : decode cX6_choose 48 = .ok (.iand, 1) := by decide +kernel
theorem dX6_choose_49 : decode cX6_choose 49 = .ok (.iload_n 2, 1) := by decide +kernel
theorem dX6_choose_50 : decode cX6_choose 50 = .ok (.iload_n 1, 1) := by decide +kernel
theorem dX6_choose_51 : decode cX6_choose 51 = .ok (.isub, 1) := by decide +kernel
theorem dX6_choose_52 : decode cX6_choose 52 = .ok (.irem, 1) := by decide +kernel
theorem dX6_choose_53 : decode cX6_choose 53 = .ok (.iadd, 1) := by decide +kernel
theorem dX6_choose_54 : decode cX6_choose 54 = .ok (.ireturn, 1) := by decide +kernel
theorem dX6_choose_55 : decode cX6_choose 55 = .ok (.iload_n 1, 1) := by decide +kernel
theorem dX6_choose_56 : decode cX6_choose 56 = .ok (.istore_n 3, 1) := by decide +kernel
theorem dX6_choose_57 : decode cX6_choose 57 = .ok (.aload_n 0, 1) := by decide +kernel
theorem dX6_choose_58 : decode cX6_choose 58 = .ok (.iload_n 1, 1) := by decide +kernel
theorem dX6_choose_59 : decode cX6_choose 59 = .ok (.iload_n 1, 1) := by decide +kernel
theorem dX6_choose_60 : decode cX6_choose 60 = .ok (.iload_n 2, 1) := by decide +kernel
theorem dX6_choose_61 : decode cX6_choose 61 = .ok (.invokevirtual 121, 3) := by decide +kernel
theorem dX6_choose_64 : decode cX6_choose 64 = .ok (.istore 4, 2) := by decide +kernel
theorem dX6_choose_66 : decode cX6_choose 66 = .ok (.iload_n 1, 1) := by decide +kernel
theorem dX6_choose_67 : decode cX6_choose 67 = .ok (.iconst 1, 1) := by decide +kernel
theorem dX6_choose_68 : decode cX6_choose 68 = .ok (.iadd, 1) := by decide +kernel
theorem dX6_choose_69 : decode cX6_choose 69 = .ok (.istore 5, 2) := by decide +kernel
theorem dX6_choose_71 : decode cX6_choose 71 = .ok (.iload 5, 2) := by decide +kernel
theorem dX6_choose_73 : decode cX6_choose 73 = .ok (.iload_n 2, 1) := by decide +kernel
theorem dX6_choose_74 : decode cX6_choose 74 = .ok (.if_icmp .ge 33, 3) := by decide +kernel
theorem dX6_choose_77 : decode cX6_choose 77 = .ok (.aload_n 0, 1) := by decide +kernel
theorem dX6_choose_78 : decode cX6_choose 78 = .ok (.iload 5, 2) := by decide +kernel
theorem dX6_choose_80 : decode cX6_choose 80 = .ok (.iload_n 1, 1) := by decide +kernel
theorem dX6_choose_81 : decode cX6_choose 81 = .ok (.iload_n 2, 1) := by decide +kernel
theorem dX6_choose_82 : decode cX6_choose 82 = .ok (.invokevirtual 121, 3) := by decide +kernel
theorem dX6_choose_85 : decode cX6_choose 85 = .ok (.istore 6, 2) := by decide +kernel
theorem dX6_choose_87 : decode cX6_choose 87 = .ok (.iload 6, 2) := by decide +kernel
theorem dX6_choose_89 : decode cX6_choose 89 = .ok (.iload 4, 2) := by decide +kernel
theorem dX6_choose_91 : decode cX6_choose 91 = .ok (.if_icmp .ge 10, 3) := by decide +kernel
theorem dX6_choose_94 : decode cX6_choose 94 = .ok (.iload 5, 2) := by decide +kernel
theorem dX6_choose_96 : decode cX6_choose 96 = .ok (.istore_n 3, 1) := by decide +kernel
theorem dX6_choose_97 : decode cX6_choose 97 = .ok (.iload 6, 2) := by decide +kernel
theorem dX6_choose_99 : decode cX6_choose 99 = .ok (.istore 4, 2) := by decide +kernel
theorem dX6_choose_101 : decode cX6_choose 101 = .ok (.iinc 5 1, 3) := by decide +kernel
theorem dX6_choose_104 : decode cX6_choose 104 = .ok (.goto (-33), 3) := by decide +kernel
theorem dX6_choose_107 : decode cX6_choose 107 = .ok (.iload_n 3, 1) := by decide +kernel
theorem dX6_choose_108 : decode cX6_choose 108 = .ok (.ireturn, 1) := by decide +kernel
theorem dX6_faultOf_0 : decode cX6_faultOf 0 = .ok (.iconst 0, 1) := by decide +kernel
theorem dX6_faultOf_1 : decode cX6_faultOf 1 = .ok (.istore 4, 2) := by decide +kernel
theorem dX6_faultOf_3 : decode cX6_faultOf 3 = .ok (.iconst 0, 1) := by decide +kernel
theorem dX6_faultOf_4 : decode cX6_faultOf 4 = .ok (.istore 5, 2) := by decide +kernel
theorem dX6_faultOf_6 : decode cX6_faultOf 6 = .ok (.iconst 0, 1) := by decide +kernel
theorem dX6_faultOf_7 : decode cX6_faultOf 7 = .ok (.istore 6, 2) := by decide +kernel
theorem dX6_faultOf_9 : decode cX6_faultOf 9 = .ok (.iload_n 2, 1) := by decide +kernel
theorem dX6_faultOf_10 : decode cX6_faultOf 10 = .ok (.istore 7, 2) := by decide +kernel
theorem dX6_faultOf_12 : decode cX6_faultOf 12 = .ok (.iload 7, 2) := by decide +kernel
theorem dX6_faultOf_14 : decode cX6_faultOf 14 = .ok (.iload_n 3, 1) := by decide +kernel
theorem dX6_faultOf_15 : decode cX6_faultOf 15 = .ok (.if_icmp .ge 80, 3) := by decide +kernel
theorem dX6_faultOf_18 : decode cX6_faultOf 18 = .ok (.aload_n 0, 1) := by decide +kernel
theorem dX6_faultOf_19 : decode cX6_faultOf 19 = .ok (.getfield 44, 3) := by decide +kernel
theorem dX6_faultOf_22 : decode cX6_faultOf 22 = .ok (.iload 7, 2) := by decide +kernel
theorem dX6_faultOf_24 : decode cX6_faultOf 24 = .ok (.aload_n 0, 1) := by decide +kernel
theorem dX6_faultOf_25 : decode cX6_faultOf 25 = .ok (.getfield 44, 3) := by decide +kernel
theorem dX6_faultOf_28 : decode cX6_faultOf 28 = .ok (.getfield 79, 3) := by decide +kernel
theorem dX6_faultOf_31 : decode cX6_faultOf 31 = .ok (.getfield 95, 3) := by decide +kernel
theorem dX6_faultOf_34 : decode cX6_faultOf 34 = .ok (.iload_n 1, 1) := by decide +kernel
theorem dX6_faultOf_35 : decode cX6_faultOf 35 = .ok (.iaload, 1) := by decide +kernel
theorem dX6_faultOf_36 : decode cX6_faultOf 36 = .ok (.invokevirtual 113, 3) := by decide +kernel
theorem dX6_faultOf_39 : decode cX6_faultOf 39 = .ok (.istore 8, 2) := by decide +kernel
theorem dX6_faultOf_41 : decode cX6_faultOf 41 = .ok (.iload 4, 2) := by decide +kernel
theorem dX6_faultOf_43 : decode cX6_faultOf 43 = .ok (.iload 8, 2) := by decide +kernel
theorem dX6_faultOf_45 : decode cX6_faultOf 45 = .ok (.iconst 1, 1) := by decide +kernel
theorem dX6_faultOf_46 : decode cX6_faultOf 46 = .ok (.if_icmp .ne 7, 3) := by decide +kernel
theorem dX6_faultOf_49 : decode cX6_faultOf 49 = .ok (.iconst 1, 1) := by decide +kernel
theorem dX6_faultOf_50 : decode cX6_faultOf 50 = .ok (.goto 4, 3) := by decide +kernel
theorem dX6_faultOf_53 : decode cX6_faultOf 53 = .ok (.iconst 0, 1) := by decide +kernel
theorem dX6_faultOf_54 : decode cX6_faultOf 54 = .ok (.iadd, 1) := by decide +kernel
theorem dX6_faultOf_55 : decode cX6_faultOf 55 = .ok (.istore 4, 2) := by decide +kernel
theorem dX6_faultOf_57 : decode cX6_faultOf 57 = .ok (.iload 5, 2) := by decide +kernel
theorem dX6_faultOf_59 : decode cX6_faultOf 59 = .ok (.iload 8, 2) := by decide +kernel
theorem dX6_faultOf_61 : decode cX6_faultOf 61 = .ok (.iconst 2, 1) := by decide +kernel
theorem dX6_faultOf_62 : decode cX6_faultOf 62 = .ok (.if_icmp .ne 7, 3) := by decide +kernel
theorem dX6_faultOf_65 : decode cX6_faultOf 65 = .ok (.iconst 1, 1) := by decide +kernel
theorem dX6_faultOf_66 : decode cX6_faultOf 66 = .ok (.goto 4, 3) := by decide +kernel
theorem dX6_faultOf_69 : decode cX6_faultOf 69 = .ok (.iconst 0, 1) := by decide +kernel
theorem dX6_faultOf_70 : decode cX6_faultOf 70 = .ok (.iadd, 1) := by decide +kernel
theorem dX6_faultOf_71 : decode cX6_faultOf 71 = .ok (.istore 5, 2) := by decide +kernel
theorem dX6_faultOf_73 : decode cX6_faultOf 73 = .ok (.iload 6, 2) := by decide +kernel
theorem dX6_faultOf_75 : decode cX6_faultOf 75 = .ok (.iload 8, 2) := by decide +kernel
theorem dX6_faultOf_77 : decode cX6_faultOf 77 = .ok (.iconst 3, 1) := by decide +kernel
theorem dX6_faultOf_78 : decode cX6_faultOf 78 = .ok (.if_icmp .ne 7, 3) := by decide +kernel
theorem dX6_faultOf_81 : decode cX6_faultOf 81 = .ok (.iconst 1, 1) := by decide +kernel
theorem dX6_faultOf_82 : decode cX6_faultOf 82 = .ok (.goto 4, 3) := by decide +kernel
theorem dX6_faultOf_85 : decode cX6_faultOf 85 = .ok (.iconst 0, 1) := by decide +kernel
theorem dX6_faultOf_86 : decode cX6_faultOf 86 = .ok (.iadd, 1) := by decide +kernel
theorem dX6_faultOf_87 : decode cX6_faultOf 87 = .ok (.istore 6, 2) := by decide +kernel
theorem dX6_faultOf_89 : decode cX6_faultOf 89 = .ok (.iinc 7 1, 3) := by decide +kernel
theorem dX6_faultOf_92 : decode cX6_faultOf 92 = .ok (.goto (-80), 3) := by decide +kernel
theorem dX6_faultOf_95 : decode cX6_faultOf 95 = .ok (.aload_n 0, 1) := by decide +kernel
theorem dX6_faultOf_96 : decode cX6_faultOf 96 = .ok (.getfield 68, 3) := by decide +kernel
theorem dX6_faultOf_99 : decode cX6_faultOf 99 = .ok (.iconst 1, 1) := by decide +kernel
theorem dX6_faultOf_100 : decode cX6_faultOf 100 = .ok (.if_icmp .ne 6, 3) := by decide +kernel
theorem dX6_faultOf_103 : decode cX6_faultOf 103 = .ok (.iload 6, 2) := by decide +kernel
theorem dX6_faultOf_105 : decode cX6_faultOf 105 = .ok (.ireturn, 1) := by decide +kernel
theorem dX6_faultOf_106 : decode cX6_faultOf 106 = .ok (.iload 4, 2) := by decide +kernel
theorem dX6_faultOf_108 : decode cX6_faultOf 108 = .ok (.iload 5, 2) := by decide +kernel
theorem dX6_faultOf_110 : decode cX6_faultOf 110 = .ok (.isub, 1) := by decide +kernel
theorem dX6_faultOf_111 : decode cX6_faultOf 111 = .ok (.invokestatic 125, 3) := by decide +kernel
theorem dX6_faultOf_114 : decode cX6_faultOf 114 = .ok (.bipush 24, 2) := by decide +kernel
theorem dX6_faultOf_116 : decode cX6_faultOf 116 = .ok (.imul, 1) := by decide +kernel
theorem dX6_faultOf_117 : decode cX6_faultOf 117 = .ok (.iload 6, 2) := by decide +kernel
theorem dX6_faultOf_119 : decode cX6_faultOf 119 = .ok (.iadd, 1) := by decide +kernel
theorem dX6_faultOf_120 : decode cX6_faultOf 120 = .ok (.ireturn, 1) := by decide +kernel
theorem dX6_placeOf_0 : decode cX6_placeOf 0 = .ok (.aload_n 0, 1) := by decide +kernel
theorem dX6_placeOf_1 : decode cX6_placeOf 1 = .ok (.getfield 86, 3) := by decide +kernel
theorem dX6_placeOf_4 : decode cX6_placeOf 4 = .ok (.istore_n 3, 1) := by decide +kernel
theorem dX6_placeOf_5 : decode cX6_placeOf 5 = .ok (.iconst 0, 1) := by decide +kernel
theorem dX6_placeOf_6 : decode cX6_placeOf 6 = .ok (.istore 4, 2) := by decide +kernel
theorem dX6_placeOf_8 : decode cX6_placeOf 8 = .ok (.iload 4, 2) := by decide +kernel
theorem dX6_placeOf_10 : decode cX6_placeOf 10 = .ok (.bipush 24, 2) := by decide +kernel
theorem dX6_placeOf_12 : decode cX6_placeOf 12 = .ok (.if_icmp .ge 67, 3) := by decide +kernel
theorem dX6_placeOf_15 : decode cX6_placeOf 15 = .ok (.iload_n 3, 1) := by decide +kernel
theorem dX6_placeOf_16 : decode cX6_placeOf 16 = .ok (.ifCond .lt 63, 3) := by decide +kernel
theorem dX6_placeOf_19 : decode cX6_placeOf 19 = .ok (.iload_n 3, 1) := by decide +kernel
theorem dX6_placeOf_20 : decode cX6_placeOf 20 = .ok (.aload_n 0, 1) := by decide +kernel
theorem dX6_placeOf_21 : decode cX6_placeOf 21 = .ok (.getfield 52, 3) := by decide +kernel
theorem dX6_placeOf_24 : decode cX6_placeOf 24 = .ok (.if_icmp .ge 55, 3) := by decide +kernel
theorem dX6_placeOf_27 : decode cX6_placeOf 27 = .ok (.aload_n 0, 1) := by decide +kernel
theorem dX6_placeOf_28 : decode cX6_placeOf 28 = .ok (.getfield 40, 3) := by decide +kernel
theorem dX6_placeOf_31 : decode cX6_placeOf 31 = .ok (.aload_n 0, 1) := by decide +kernel
theorem dX6_placeOf_32 : decode cX6_placeOf 32 = .ok (.getfield 9, 3) := by decide +kernel
theorem dX6_placeOf_35 : decode cX6_placeOf 35 = .ok (.iload_n 3, 1) := by decide +kernel
theorem dX6_placeOf_36 : decode cX6_placeOf 36 = .ok (.iaload, 1) := by decide +kernel
theorem dX6_placeOf_37 : decode cX6_placeOf 37 = .ok (.iload_n 1, 1) := by decide +kernel
theorem dX6_placeOf_38 : decode cX6_placeOf 38 = .ok (.iload_n 2, 1) := by decide +kernel
theorem dX6_placeOf_39 : decode cX6_placeOf 39 = .ok (.invokevirtual 129, 3) := by decide +kernel
theorem dX6_placeOf_42 : decode cX6_placeOf 42 = .ok (.istore 5, 2) := by decide +kernel
theorem dX6_placeOf_44 : decode cX6_placeOf 44 = .ok (.iload 5, 2) := by decide +kernel
theorem dX6_placeOf_46 : decode cX6_placeOf 46 = .ok (.ifCond .ne 6, 3) := by decide +kernel
theorem dX6_placeOf_49 : decode cX6_placeOf 49 = .ok (.goto 30, 3) := by decide +kernel
theorem dX6_placeOf_52 : decode cX6_placeOf 52 = .ok (.iload 5, 2) := by decide +kernel
theorem dX6_placeOf_54 : decode cX6_placeOf 54 = .ok (.ifCond .le 12, 3) := by decide +kernel
theorem dX6_placeOf_57 : decode cX6_placeOf 57 = .ok (.aload_n 0, 1) := by decide +kernel
theorem dX6_placeOf_58 : decode cX6_placeOf 58 = .ok (.getfield 21, 3) := by decide +kernel
theorem dX6_placeOf_61 : decode cX6_placeOf 61 = .ok (.iload_n 3, 1) := by decide +kernel
theorem dX6_placeOf_62 : decode cX6_placeOf 62 = .ok (.iaload, 1) := by decide +kernel
theorem dX6_placeOf_63 : decode cX6_placeOf 63 = .ok (.goto 9, 3) := by decide +kernel
theorem dX6_placeOf_66 : decode cX6_placeOf 66 = .ok (.aload_n 0, 1) := by decide +kernel
theorem dX6_placeOf_67 : decode cX6_placeOf 67 = .ok (.getfield 24, 3) := by decide +kernel
theorem dX6_placeOf_70 : decode cX6_placeOf 70 = .ok (.iload_n 3, 1) := by decide +kernel
theorem dX6_placeOf_71 : decode cX6_placeOf 71 = .ok (.iaload, 1) := by decide +kernel
theorem dX6_placeOf_72 : decode cX6_placeOf 72 = .ok (.istore_n 3, 1) := by decide +kernel
theorem dX6_placeOf_73 : decode cX6_placeOf 73 = .ok (.iinc 4 1, 3) := by decide +kernel
theorem dX6_placeOf_76 : decode cX6_placeOf 76 = .ok (.goto (-68), 3) := by decide +kernel
theorem dX6_placeOf_79 : decode cX6_placeOf 79 = .ok (.bipush (-2), 2) := by decide +kernel
theorem dX6_placeOf_81 : decode cX6_placeOf 81 = .ok (.iload_n 3, 1) := by decide +kernel
theorem dX6_placeOf_82 : decode cX6_placeOf 82 = .ok (.isub, 1) := by decide +kernel
theorem dX6_placeOf_83 : decode cX6_placeOf 83 = .ok (.ireturn, 1) := by decide +kernel
theorem dX7_init_0 : decode cX7_init 0 = .ok (.aload_n 0, 1) := by decide +kernel
theorem dX7_init_1 : decode cX7_init 1 = .ok (.invokespecial 3, 3) := by decide +kernel
theorem dX7_init_4 : decode cX7_init 4 = .ok (.aload_n 0, 1) := by decide +kernel
theorem dX7_init_5 : decode cX7_init 5 = .ok (.new 9, 3) := by decide +kernel
theorem dX7_init_8 : decode cX7_init 8 = .ok (.dup, 1) := by decide +kernel
theorem dX7_init_9 : decode cX7_init 9 = .ok (.invokespecial 11, 3) := by decide +kernel
theorem dX7_init_12 : decode cX7_init 12 = .ok (.putfield 12, 3) := by decide +kernel
theorem dX7_init_15 : decode cX7_init 15 = .ok (.new 16, 3) := by decide +kernel
theorem dX7_init_18 : decode cX7_init 18 = .ok (.dup, 1) := by decide +kernel
theorem dX7_init_19 : decode cX7_init 19 = .ok (.aload_n 0, 1) := by decide +kernel
theorem dX7_init_20 : decode cX7_init 20 = .ok (.getfield 12, 3) := by decide +kernel
theorem dX7_init_23 : decode cX7_init 23 = .ok (.invokespecial 18, 3) := by decide +kernel
theorem dX7_init_26 : decode cX7_init 26 = .ok (.astore_n 1, 1) := by decide +kernel
theorem dX7_init_27 : decode cX7_init 27 = .ok (.aload_n 0, 1) := by decide +kernel
theorem dX7_init_28 : decode cX7_init 28 = .ok (.new 21, 3) := by decide +kernel
theorem dX7_init_31 : decode cX7_init 31 = .ok (.dup, 1) := by decide +kernel
theorem dX7_init_32 : decode cX7_init 32 = .ok (.aload_n 0, 1) := by decide +kernel
theorem dX7_init_33 : decode cX7_init 33 = .ok (.getfield 12, 3) := by decide +kernel
theorem dX7_init_36 : decode cX7_init 36 = .ok (.aload_n 1, 1) := by decide +kernel
theorem dX7_init_37 : decode cX7_init 37 = .ok (.invokespecial 23, 3) := by decide +kernel
theorem dX7_init_40 : decode cX7_init 40 = .ok (.putfield 26, 3) := by decide +kernel
theorem dX7_init_43 : decode cX7_init 43 = .ok (.aload_n 0, 1) := by decide +kernel
theorem dX7_init_44 : decode cX7_init 44 = .ok (.new 30, 3) := by decide +kernel
theorem dX7_init_47 : decode cX7_init 47 = .ok (.dup, 1) := by decide +kernel
theorem dX7_init_48 : decode cX7_init 48 = .ok (.aload_n 0, 1) := by decide +kernel
theorem dX7_init_49 : decode cX7_init 49 = .ok (.getfield 12, 3) := by decide +kernel
theorem dX7_init_52 : decode cX7_init 52 = .ok (.aload_n 0, 1) := by decide +kernel
theorem dX7_init_53 : decode cX7_init 53 = .ok (.getfield 26, 3) := by decide +kernel
theorem dX7_init_56 : decode cX7_init 56 = .ok (.invokespecial 32, 3) := by decide +kernel
theorem dX7_init_59 : decode cX7_init 59 = .ok (.putfield 35, 3) := by decide +kernel
theorem dX7_init_62 : decode cX7_init 62 = .ok (.aload_n 0, 1) := by decide +kernel
theorem dX7_init_63 : decode cX7_init 63 = .ok (.new 39, 3) := by decide +kernel
theorem dX7_init_66 : decode cX7_init 66 = .ok (.dup, 1) := by decide +kernel
theorem dX7_init_67 : decode cX7_init 67 = .ok (.aload_n 0, 1) := by decide +kernel
theorem dX7_init_68 : decode cX7_init 68 = .ok (.getfield 12, 3) := by decide +kernel
theorem dX7_init_71 : decode cX7_init 71 = .ok (.invokespecial 41, 3) := by decide +kernel
theorem dX7_init_74 : decode cX7_init 74 = .ok (.putfield 42, 3) := by decide +kernel
theorem dX7_init_77 : decode cX7_init 77 = .ok (.aload_n 0, 1) := by decide +kernel
theorem dX7_init_78 : decode cX7_init 78 = .ok (.new 46, 3) := by decide +kernel
theorem dX7_init_81 : decode cX7_init 81 = .ok (.dup, 1) := by decide +kernel
theorem dX7_init_82 : decode cX7_init 82 = .ok (.aload_n 0, 1) := by decide +kernel
theorem dX7_init_83 : decode cX7_init 83 = .ok (.getfield 12, 3) := by decide +kernel
theorem dX7_init_86 : decode cX7_init 86 = .ok (.aload_n 1, 1) := by decide +kernel
theorem dX7_init_87 : decode cX7_init 87 = .ok (.invokespecial 48, 3) := by decide +kernel
theorem dX7_init_90 : decode cX7_init 90 = .ok (.putfield 49, 3) := by decide +kernel
theorem dX7_init_93 : decode cX7_init 93 = .ok (.return_, 1) := by decide +kernel
theorem dX7_piece_0 : decode cX7_piece 0 = .ok (.iload_n 1, 1) := by decide +kernel
theorem dX7_piece_1 : decode cX7_piece 1 = .ok (.iload_n 3, 1) := by decide +kernel
theorem dX7_piece_2 : decode cX7_piece 2 = .ok (.if_icmp .ne 13, 3) := by decide +kernel
theorem dX7_piece_5 : decode cX7_piece 5 = .ok (.iload_n 2, 1) := by decide +kernel
theorem dX7_piece_6 : decode cX7_piece 6 = .ok (.iload 4, 2) := by decide +kernel
theorem dX7_piece_8 : decode cX7_piece 8 = .ok (.if_icmp .ne 7, 3) := by decide +kernel
theorem dX7_piece_11 : decode cX7_piece 11 = .ok (.iconst 1, 1) := by decide +kernel
theorem dX7_piece_12 : decode cX7_piece 12 = .ok (.goto 4, 3) := by decide +kernel
theorem dX7_piece_15 : decode cX7_piece 15 = .ok (.iconst 0, 1) := by decide +kernel
theorem dX7_piece_16 : decode cX7_piece 16 = .ok (.istore 5, 2) := by decide +kernel
theorem dX7_piece_18 : decode cX7_piece 18 = .ok (.aload_n 0, 1) := by decide +kernel
theorem dX7_piece_19 : decode cX7_piece 19 = .ok (.getfield 12, 3) := by decide +kernel
theorem dX7_piece_22 : decode cX7_piece 22 = .ok (.getfield 53, 3) := by decide +kernel
theorem dX7_piece_25 : decode cX7_piece 25 = .ok (.bipush 24, 2) := by decide +kernel
theorem dX7_piece_27 : decode cX7_piece 27 = .ok (.if_icmp .ge 25, 3) := by decide +kernel
theorem dX7_piece_30 : decode cX7_piece 30 = .ok (.iload 5, 2) := by decide +kernel
theorem dX7_piece_32 : decode cX7_piece 32 = .ok (.ifCond .ne 20, 3) := by decide +kernel
theorem dX7_piece_35 : decode cX7_piece 35 = .ok (.iload_n 1, 1) := by decide +kernel
theorem dX7_piece_36 : decode cX7_piece 36 = .ok (.iload_n 2, 1) := by decide +kernel
theorem dX7_piece_37 : decode cX7_piece 37 = .ok (.invokestatic 57, 3) := by decide +kernel
theorem dX7_piece_40 : decode cX7_piece 40 = .ok (.ifCond .ne 12, 3) := by decide +kernel
theorem dX7_piece_43 : decode cX7_piece 43 = .ok (.iload_n 3, 1) := by decide +kernel
theorem dX7_piece_44 : decode cX7_piece 44 = .ok (.iload 4, 2) := by decide +kernel
theorem dX7_piece_46 : decode cX7_piece 46 = .ok (.invokestatic 57, 3) := by decide +kernel
theorem dX7_piece_49 : decode cX7_piece 49 = .ok (.ifCond .eq 5, 3) := by decide +kernel
theorem dX7_piece_52 : decode cX7_piece 52 = .ok (.iconst (-1), 1) := by decide +kernel
theorem dX7_piece_53 : decode cX7_piece 53 = .ok (.ireturn, 1) := by decide +kernel
theorem dX7_piece_54 : decode cX7_piece 54 = .ok (.aload_n 0, 1) := by decide +kernel
theorem dX7_piece_55 : decode cX7_piece 55 = .ok (.invokevirtual 61, 3) := by decide +kernel
theorem dX7_piece_58 : decode cX7_piece 58 = .ok (.aload_n 0, 1) := by decide +kernel
theorem dX7_piece_59 : decode cX7_piece 59 = .ok (.getfield 12, 3) := by decide +kernel
theorem dX7_piece_62 : decode cX7_piece 62 = .ok (.iload_n 1, 1) := by decide +kernel
theorem dX7_piece_63 : decode cX7_piece 63 = .ok (.iload_n 2, 1) := by decide +kernel
theorem dX7_piece_64 : decode cX7_piece 64 = .ok (.iload_n 3, 1) := by decide +kernel
theorem dX7_piece_65 : decode cX7_piece 65 = .ok (.iload 4, 2) := by decide +kernel
theorem dX7_piece_67 : decode cX7_piece 67 = .ok (.invokevirtual 64, 3) := by decide +kernel
theorem dX7_piece_70 : decode cX7_piece 70 = .ok (.aload_n 0, 1) := by decide +kernel
theorem dX7_piece_71 : decode cX7_piece 71 = .ok (.getfield 12, 3) := by decide +kernel
theorem dX7_piece_74 : decode cX7_piece 74 = .ok (.getfield 53, 3) := by decide +kernel
theorem dX7_piece_77 : decode cX7_piece 77 = .ok (.iconst 1, 1) := by decide +kernel
theorem dX7_piece_78 : decode cX7_piece 78 = .ok (.isub, 1) := by decide +kernel
theorem dX7_piece_79 : decode cX7_piece 79 = .ok (.ireturn, 1) := by decide +kernel
theorem dX7_drop_0 : decode cX7_drop 0 = .ok (.aload_n 0, 1) := by decide +kernel
theorem dX7_drop_1 : decode cX7_drop 1 = .ok (.getfield 12, 3) := by decide +kernel
theorem dX7_drop_4 : decode cX7_drop 4 = .ok (.getfield 53, 3) := by decide +kernel
theorem dX7_drop_7 : decode cX7_drop 7 = .ok (.ifCond .gt 5, 3) := by decide +kernel
theorem dX7_drop_10 : decode cX7_drop 10 = .ok (.iconst (-1), 1) := by decide +kernel
theorem dX7_drop_11 : decode cX7_drop 11 = .ok (.ireturn, 1) := by decide +kernel
theorem dX7_drop_12 : decode cX7_drop 12 = .ok (.aload_n 0, 1) := by decide +kernel
theorem dX7_drop_13 : decode cX7_drop 13 = .ok (.invokevirtual 61, 3) := by decide +kernel
theorem dX7_drop_16 : decode cX7_drop 16 = .ok (.aload_n 0, 1) := by decide +kernel
theorem dX7_drop_17 : decode cX7_drop 17 = .ok (.getfield 12, 3) := by decide +kernel
theorem dX7_drop_20 : decode cX7_drop 20 = .ok (.dup, 1) := by decide +kernel
theorem dX7_drop_21 : decode cX7_drop 21 = .ok (.getfield 53, 3) := by decide +kernel
theorem dX7_drop_24 : decode cX7_drop 24 = .ok (.iconst 1, 1) := by decide +kernel
theorem dX7_drop_25 : decode cX7_drop 25 = .ok (.isub, 1) := by decide +kernel
theorem dX7_drop_26 : decode cX7_drop 26 = .ok (.putfield 53, 3) := by decide +kernel
theorem dX7_drop_29 : decode cX7_drop 29 = .ok (.aload_n 0, 1) := by decide +kernel
theorem dX7_drop_30 : decode cX7_drop 30 = .ok (.getfield 12, 3) := by decide +kernel
theorem dX7_drop_33 : decode cX7_drop 33 = .ok (.getfield 53, 3) := by decide +kernel
theorem dX7_drop_36 : decode cX7_drop 36 = .ok (.ireturn, 1) := by decide +kernel
theorem dX7_look_0 : decode cX7_look 0 = .ok (.iload_n 1, 1) := by decide +kernel
theorem dX7_look_1 : decode cX7_look 1 = .ok (.ifCond .lt 14, 3) := by decide +kernel
theorem dX7_look_4 : decode cX7_look 4 = .ok (.iload_n 1, 1) := by decide +kernel
theorem dX7_look_5 : decode cX7_look 5 = .ok (.aload_n 0, 1) := by decide +kernel
theorem dX7_look_6 : decode cX7_look 6 = .ok (.getfield 12, 3) := by decide +kernel
theorem dX7_look_9 : decode cX7_look 9 = .ok (.getfield 53, 3) := by decide +kernel
theorem dX7_look_12 : decode cX7_look 12 = .ok (.if_icmp .lt 13, 3) := by decide +kernel
theorem dX7_look_15 : decode cX7_look 15 = .ok (.new 68, 3) := by decide +kernel
theorem dX7_look_18 : decode cX7_look 18 = .ok (.dup, 1) := by decide +kernel
theorem dX7_look_19 : decode cX7_look 19 = .ok (.ldc 70, 2) := by decide +kernel
theorem dX7_look_21 : decode cX7_look 21 = .ok (.invokespecial 72, 3) := by decide +kernel
theorem dX7_look_24 : decode cX7_look 24 = .ok (.athrow, 1) := by decide +kernel
theorem dX7_look_25 : decode cX7_look 25 = .ok (.iload_n 2, 1) := by decide +kernel
theorem dX7_look_26 : decode cX7_look 26 = .ok (.tableswitch 86 0 4 #[34, 44, 54, 64, 74], 34) := by decide +kernel
theorem dX7_look_60 : decode cX7_look 60 = .ok (.aload_n 0, 1) := by decide +kernel
theorem dX7_look_61 : decode cX7_look 61 = .ok (.getfield 12, 3) := by decide +kernel
theorem dX7_look_64 : decode cX7_look 64 = .ok (.getfield 75, 3) := by decide +kernel
theorem dX7_look_67 : decode cX7_look 67 = .ok (.iload_n 1, 1) := by decide +kernel
theorem dX7_look_68 : decode cX7_look 68 = .ok (.iaload, 1) := by decide +kernel
theorem dX7_look_69 : decode cX7_look 69 = .ok (.ireturn, 1) := by decide +kernel
theorem dX7_look_70 : decode cX7_look 70 = .ok (.aload_n 0, 1) := by decide +kernel
theorem dX7_look_71 : decode cX7_look 71 = .ok (.getfield 12, 3) := by decide +kernel
theorem dX7_look_74 : decode cX7_look 74 = .ok (.getfield 79, 3) := by decide +kernel
theorem dX7_look_77 : decode cX7_look 77 = .ok (.iload_n 1, 1) := by decide +kernel
theorem dX7_look_78 : decode cX7_look 78 = .ok (.iaload, 1) := by decide +kernel
theorem dX7_look_79 : decode cX7_look 79 = .ok (.ireturn, 1) := by decide +kernel
theorem dX7_look_80 : decode cX7_look 80 = .ok (.aload_n 0, 1) := by decide +kernel
theorem dX7_look_81 : decode cX7_look 81 = .ok (.getfield 12, 3) := by decide +kernel
theorem dX7_look_84 : decode cX7_look 84 = .ok (.getfield 82, 3) := by decide +kernel
theorem dX7_look_87 : decode cX7_look 87 = .ok (.iload_n 1, 1) := by decide +kernel
theorem dX7_look_88 : decode cX7_look 88 = .ok (.iaload, 1) := by decide +kernel
theorem dX7_look_89 : decode cX7_look 89 = .ok (.ireturn, 1) := by decide +kernel
theorem dX7_look_90 : decode cX7_look 90 = .ok (.aload_n 0, 1) := by decide +kernel
theorem dX7_look_91 : decode cX7_look 91 = .ok (.getfield 12, 3) := by decide +kernel
theorem dX7_look_94 : decode cX7_look 94 = .ok (.getfield 85, 3) := by decide +kernel
theorem dX7_look_97 : decode cX7_look 97 = .ok (.iload_n 1, 1) := by decide +kernel
theorem dX7_look_98 : decode cX7_look 98 = .ok (.iaload, 1) := by decide +kernel
theorem dX7_look_99 : decode cX7_look 99 = .ok (.ireturn, 1) := by decide +kernel
theorem dX7_look_100 : decode cX7_look 100 = .ok (.aload_n 0, 1) := by decide +kernel
theorem dX7_look_101 : decode cX7_look 101 = .ok (.getfield 26, 3) := by decide +kernel
theorem dX7_look_104 : decode cX7_look 104 = .ok (.getfield 88, 3) := by decide +kernel
theorem dX7_look_107 : decode cX7_look 107 = .ok (.iload_n 1, 1) := by decide +kernel
theorem dX7_look_108 : decode cX7_look 108 = .ok (.invokevirtual 92, 3) := by decide +kernel
theorem dX7_look_111 : decode cX7_look 111 = .ok (.ireturn, 1) := by decide +kernel
theorem dX7_look_112 : decode cX7_look 112 = .ok (.new 98, 3) := by decide +kernel
theorem dX7_look_115 : decode cX7_look 115 = .ok (.dup, 1) := by decide +kernel
theorem dX7_look_116 : decode cX7_look 116 = .ok (.ldc 100, 2) := by decide +kernel
theorem dX7_look_118 : decode cX7_look 118 = .ok (.invokespecial 102, 3) := by decide +kernel
theorem dX7_look_121 : decode cX7_look 121 = .ok (.athrow, 1) := by decide +kernel
theorem dX7_build_0 : decode cX7_build 0 = .ok (.iload_n 1, 1) := by decide +kernel
theorem dX7_build_1 : decode cX7_build 1 = .ok (.ifCond .lt 8, 3) := by decide +kernel
theorem dX7_build_4 : decode cX7_build 4 = .ok (.iload_n 1, 1) := by decide +kernel
theorem dX7_build_5 : decode cX7_build 5 = .ok (.iconst 3, 1) := by decide +kernel
theorem dX7_build_6 : decode cX7_build 6 = .ok (.if_icmp .le 5, 3) := by decide +kernel
theorem dX7_build_9 : decode cX7_build 9 = .ok (.iconst (-1), 1) := by decide +kernel
theorem dX7_build_10 : decode cX7_build 10 = .ok (.ireturn, 1) := by decide +kernel
theorem dX7_build_11 : decode cX7_build 11 = .ok (.aload_n 0, 1) := by decide +kernel
theorem dX7_build_12 : decode cX7_build 12 = .ok (.invokevirtual 61, 3) := by decide +kernel
theorem dX7_build_15 : decode cX7_build 15 = .ok (.aload_n 0, 1) := by decide +kernel
theorem dX7_build_16 : decode cX7_build 16 = .ok (.getfield 26, 3) := by decide +kernel
theorem dX7_build_19 : decode cX7_build 19 = .ok (.iload_n 1, 1) := by decide +kernel
theorem dX7_build_20 : decode cX7_build 20 = .ok (.iload_n 2, 1) := by decide +kernel
theorem dX7_build_21 : decode cX7_build 21 = .ok (.invokevirtual 103, 3) := by decide +kernel
theorem dX7_build_24 : decode cX7_build 24 = .ok (.aload_n 0, 1) := by decide +kernel
theorem dX7_build_25 : decode cX7_build 25 = .ok (.getfield 26, 3) := by decide +kernel
theorem dX7_build_28 : decode cX7_build 28 = .ok (.getfield 107, 3) := by decide +kernel
theorem dX7_build_31 : decode cX7_build 31 = .ok (.ireturn, 1) := by decide +kernel
theorem dX7_count_0 : decode cX7_count 0 = .ok (.iload_n 1, 1) := by decide +kernel
theorem dX7_count_1 : decode cX7_count 1 = .ok (.tableswitch 115 0 5 #[39, 47, 55, 66, 74, 82], 39) := by decide +kernel
theorem dX7_count_40 : decode cX7_count 40 = .ok (.aload_n 0, 1) := by decide +kernel
theorem dX7_count_41 : decode cX7_count 41 = .ok (.getfield 12, 3) := by decide +kernel
theorem dX7_count_44 : decode cX7_count 44 = .ok (.getfield 53, 3) := by decide +kernel
theorem dX7_count_47 : decode cX7_count 47 = .ok (.ireturn, 1) := by decide +kernel
theorem dX7_count_48 : decode cX7_count 48 = .ok (.aload_n 0, 1) := by decide +kernel
theorem dX7_count_49 : decode cX7_count 49 = .ok (.getfield 26, 3) := by decide +kernel
theorem dX7_count_52 : decode cX7_count 52 = .ok (.getfield 107, 3) := by decide +kernel
theorem dX7_count_55 : decode cX7_count 55 = .ok (.ireturn, 1) := by decide +kernel
theorem dX7_count_56 : decode cX7_count 56 = .ok (.aload_n 0, 1) := by decide +kernel
theorem dX7_count_57 : decode cX7_count 57 = .ok (.getfield 26, 3) := by decide +kernel
theorem dX7_count_60 : decode cX7_count 60 = .ok (.getfield 88, 3) := by decide +kernel
theorem dX7_count_63 : decode cX7_count 63 = .ok (.getfield 110, 3) := by decide +kernel
theorem dX7_count_66 : decode cX7_count 66 = .ok (.ireturn, 1) := by decide +kernel
theorem dX7_count_67 : decode cX7_count 67 = .ok (.aload_n 0, 1) := by decide +kernel
theorem dX7_count_68 : decode cX7_count 68 = .ok (.getfield 26, 3) := by decide +kernel
theorem dX7_count_71 : decode cX7_count 71 = .ok (.getfield 111, 3) := by decide +kernel
theorem dX7_count_74 : decode cX7_count 74 = .ok (.ireturn, 1) := by decide +kernel
theorem dX7_count_75 : decode cX7_count 75 = .ok (.aload_n 0, 1) := by decide +kernel
theorem dX7_count_76 : decode cX7_count 76 = .ok (.getfield 26, 3) := by decide +kernel
theorem dX7_count_79 : decode cX7_count 79 = .ok (.getfield 114, 3) := by decide +kernel
theorem dX7_count_82 : decode cX7_count 82 = .ok (.ireturn, 1) := by decide +kernel
theorem dX7_count_83 : decode cX7_count 83 = .ok (.aload_n 0, 1) := by decide +kernel
theorem dX7_count_84 : decode cX7_count 84 = .ok (.getfield 26, 3) := by decide +kernel
theorem dX7_count_87 : decode cX7_count 87 = .ok (.getfield 117, 3) := by decide +kernel
theorem dX7_count_90 : decode cX7_count 90 = .ok (.ifCond .eq 24, 3) := by decide +kernel
theorem dX7_count_93 : decode cX7_count 93 = .ok (.aload_n 0, 1) := by decide +kernel
theorem dX7_count_94 : decode cX7_count 94 = .ok (.getfield 26, 3) := by decide +kernel
theorem dX7_count_97 : decode cX7_count 97 = .ok (.getfield 88, 3) := by decide +kernel
theorem dX7_count_100 : decode cX7_count 100 = .ok (.getfield 110, 3) := by decide +kernel
theorem dX7_count_103 : decode cX7_count 103 = .ok (.aload_n 0, 1) := by decide +kernel
theorem dX7_count_104 : decode cX7_count 104 = .ok (.getfield 12, 3) := by decide +kernel
theorem dX7_count_107 : decode cX7_count 107 = .ok (.getfield 53, 3) := by decide +kernel
theorem dX7_count_110 : decode cX7_count 110 = .ok (.isub, 1) := by decide +kernel
theorem dX7_count_111 : decode cX7_count 111 = .ok (.goto 4, 3) := by decide +kernel
theorem dX7_count_114 : decode cX7_count 114 = .ok (.iconst 0, 1) := by decide +kernel
theorem dX7_count_115 : decode cX7_count 115 = .ok (.ireturn, 1) := by decide +kernel
theorem dX7_count_116 : decode cX7_count 116 = .ok (.iconst (-1), 1) := by decide +kernel
theorem dX7_count_117 : decode cX7_count 117 = .ok (.ireturn, 1) := by decide +kernel
theorem dX7_knot_0 : decode cX7_knot 0 = .ok (.iload_n 1, 1) := by decide +kernel
theorem dX7_knot_1 : decode cX7_knot 1 = .ok (.ifCond .lt 14, 3) := by decide +kernel
theorem dX7_knot_4 : decode cX7_knot 4 = .ok (.iload_n 1, 1) := by decide +kernel
theorem dX7_knot_5 : decode cX7_knot 5 = .ok (.aload_n 0, 1) := by decide +kernel
theorem dX7_knot_6 : decode cX7_knot 6 = .ok (.getfield 26, 3) := by decide +kernel
theorem dX7_knot_9 : decode cX7_knot 9 = .ok (.getfield 107, 3) := by decide +kernel
theorem dX7_knot_12 : decode cX7_knot 12 = .ok (.if_icmp .lt 13, 3) := by decide +kernel
theorem dX7_knot_15 : decode cX7_knot 15 = .ok (.new 68, 3) := by decide +kernel
theorem dX7_knot_18 : decode cX7_knot 18 = .ok (.dup, 1) := by decide +kernel
theorem dX7_knot_19 : decode cX7_knot 19 = .ok (.ldc 121, 2) := by decide +kernel
theorem dX7_knot_21 : decode cX7_knot 21 = .ok (.invokespecial 72, 3) := by decide +kernel
theorem dX7_knot_24 : decode cX7_knot 24 = .ok (.athrow, 1) := by decide +kernel
theorem dX7_knot_25 : decode cX7_knot 25 = .ok (.iload_n 2, 1) := by decide +kernel
theorem dX7_knot_26 : decode cX7_knot 26 = .ok (.tableswitch 98 0 5 #[38, 48, 58, 68, 78, 88], 38) := by decide +kernel
theorem dX7_knot_64 : decode cX7_knot 64 = .ok (.aload_n 0, 1) := by decide +kernel
theorem dX7_knot_65 : decode cX7_knot 65 = .ok (.getfield 26, 3) := by decide +kernel
theorem dX7_knot_68 : decode cX7_knot 68 = .ok (.getfield 123, 3) := by decide +kernel
theorem dX7_knot_71 : decode cX7_knot 71 = .ok (.iload_n 1, 1) := by decide +kernel
theorem dX7_knot_72 : decode cX7_knot 72 = .ok (.iaload, 1) := by decide +kernel
theorem dX7_knot_73 : decode cX7_knot 73 = .ok (.ireturn, 1) := by decide +kernel
theorem dX7_knot_74 : decode cX7_knot 74 = .ok (.aload_n 0, 1) := by decide +kernel
theorem dX7_knot_75 : decode cX7_knot 75 = .ok (.getfield 26, 3) := by decide +kernel
theorem dX7_knot_78 : decode cX7_knot 78 = .ok (.getfield 126, 3) := by decide +kernel
theorem dX7_knot_81 : decode cX7_knot 81 = .ok (.iload_n 1, 1) := by decide +kernel
theorem dX7_knot_82 : decode cX7_knot 82 = .ok (.iaload, 1) := by decide +kernel
theorem dX7_knot_83 : decode cX7_knot 83 = .ok (.ireturn, 1) := by decide +kernel
theorem dX7_knot_84 : decode cX7_knot 84 = .ok (.aload_n 0, 1) := by decide +kernel
theorem dX7_knot_85 : decode cX7_knot 85 = .ok (.getfield 26, 3) := by decide +kernel
theorem dX7_knot_88 : decode cX7_knot 88 = .ok (.getfield 129, 3) := by decide +kernel
theorem dX7_knot_91 : decode cX7_knot 91 = .ok (.iload_n 1, 1) := by decide +kernel
theorem dX7_knot_92 : decode cX7_knot 92 = .ok (.iaload, 1) := by decide +kernel
theorem dX7_knot_93 : decode cX7_knot 93 = .ok (.ireturn, 1) := by decide +kernel
theorem dX7_knot_94 : decode cX7_knot 94 = .ok (.aload_n 0, 1) := by decide +kernel
theorem dX7_knot_95 : decode cX7_knot 95 = .ok (.getfield 26, 3) := by decide +kernel
theorem dX7_knot_98 : decode cX7_knot 98 = .ok (.getfield 132, 3) := by decide +kernel
theorem dX7_knot_101 : decode cX7_knot 101 = .ok (.iload_n 1, 1) := by decide +kernel
theorem dX7_knot_102 : decode cX7_knot 102 = .ok (.iaload, 1) := by decide +kernel
theorem dX7_knot_103 : decode cX7_knot 103 = .ok (.ireturn, 1) := by decide +kernel
theorem dX7_knot_104 : decode cX7_knot 104 = .ok (.aload_n 0, 1) := by decide +kernel
theorem dX7_knot_105 : decode cX7_knot 105 = .ok (.getfield 26, 3) := by decide +kernel
theorem dX7_knot_108 : decode cX7_knot 108 = .ok (.getfield 135, 3) := by decide +kernel
theorem dX7_knot_111 : decode cX7_knot 111 = .ok (.iload_n 1, 1) := by decide +kernel
theorem dX7_knot_112 : decode cX7_knot 112 = .ok (.iaload, 1) := by decide +kernel
theorem dX7_knot_113 : decode cX7_knot 113 = .ok (.ireturn, 1) := by decide +kernel
theorem dX7_knot_114 : decode cX7_knot 114 = .ok (.aload_n 0, 1) := by decide +kernel
theorem dX7_knot_115 : decode cX7_knot 115 = .ok (.getfield 26, 3) := by decide +kernel
theorem dX7_knot_118 : decode cX7_knot 118 = .ok (.getfield 138, 3) := by decide +kernel
theorem dX7_knot_121 : decode cX7_knot 121 = .ok (.iload_n 1, 1) := by decide +kernel
theorem dX7_knot_122 : decode cX7_knot 122 = .ok (.iaload, 1) := by decide +kernel
theorem dX7_knot_123 : decode cX7_knot 123 = .ok (.ireturn, 1) := by decide +kernel
theorem dX7_knot_124 : decode cX7_knot 124 = .ok (.new 98, 3) := by decide +kernel
theorem dX7_knot_127 : decode cX7_knot 127 = .ok (.dup, 1) := by decide +kernel
theorem dX7_knot_128 : decode cX7_knot 128 = .ok (.ldc 100, 2) := by decide +kernel
theorem dX7_knot_130 : decode cX7_knot 130 = .ok (.invokespecial 102, 3) := by decide +kernel
theorem dX7_knot_133 : decode cX7_knot 133 = .ok (.athrow, 1) := by decide +kernel
theorem dX7_part_0 : decode cX7_part 0 = .ok (.aload_n 0, 1) := by decide +kernel
theorem dX7_part_1 : decode cX7_part 1 = .ok (.getfield 26, 3) := by decide +kernel
theorem dX7_part_4 : decode cX7_part 4 = .ok (.getfield 88, 3) := by decide +kernel
theorem dX7_part_7 : decode cX7_part 7 = .ok (.astore_n 3, 1) := by decide +kernel
theorem dX7_part_8 : decode cX7_part 8 = .ok (.iload_n 1, 1) := by decide +kernel
theorem dX7_part_9 : decode cX7_part 9 = .ok (.ifCond .lt 11, 3) := by decide +kernel
theorem dX7_part_12 : decode cX7_part 12 = .ok (.iload_n 1, 1) := by decide +kernel
theorem dX7_part_13 : decode cX7_part 13 = .ok (.aload_n 3, 1) := by decide +kernel
theorem dX7_part_14 : decode cX7_part 14 = .ok (.getfield 110, 3) := by decide +kernel
theorem dX7_part_17 : decode cX7_part 17 = .ok (.if_icmp .lt 13, 3) := by decide +kernel
theorem dX7_part_20 : decode cX7_part 20 = .ok (.new 68, 3) := by decide +kernel
theorem dX7_part_23 : decode cX7_part 23 = .ok (.dup, 1) := by decide +kernel
theorem dX7_part_24 : decode cX7_part 24 = .ok (.ldc 141, 2) := by decide +kernel
theorem dX7_part_26 : decode cX7_part 26 = .ok (.invokespecial 72, 3) := by decide +kernel
theorem dX7_part_29 : decode cX7_part 29 = .ok (.athrow, 1) := by decide +kernel
theorem dX7_part_30 : decode cX7_part 30 = .ok (.iload_n 2, 1) := by decide +kernel
theorem dX7_part_31 : decode cX7_part 31 = .ok (.tableswitch 122 0 7 #[45, 53, 53, 53, 82, 82, 82, 111], 45) := by decide +kernel
theorem dX7_part_76 : decode cX7_part 76 = .ok (.aload_n 3, 1) := by decide +kernel
theorem dX7_part_77 : decode cX7_part 77 = .ok (.getfield 143, 3) := by decide +kernel
theorem dX7_part_80 : decode cX7_part 80 = .ok (.iload_n 1, 1) := by decide +kernel
theorem dX7_part_81 : decode cX7_part 81 = .ok (.iaload, 1) := by decide +kernel
theorem dX7_part_82 : decode cX7_part 82 = .ok (.i2l, 1) := by decide +kernel
theorem dX7_part_83 : decode cX7_part 83 = .ok (.lreturn, 1) := by decide +kernel
theorem dX7_part_84 : decode cX7_part 84 = .ok (.aload_n 0, 1) := by decide +kernel
theorem dX7_part_85 : decode cX7_part 85 = .ok (.getfield 12, 3) := by decide +kernel
theorem dX7_part_88 : decode cX7_part 88 = .ok (.aload_n 3, 1) := by decide +kernel
theorem dX7_part_89 : decode cX7_part 89 = .ok (.getfield 143, 3) := by decide +kernel
theorem dX7_part_92 : decode cX7_part 92 = .ok (.iload_n 1, 1) := by decide +kernel
theorem dX7_part_93 : decode cX7_part 93 = .ok (.iaload, 1) := by decide +kernel
theorem dX7_part_94 : decode cX7_part 94 = .ok (.aload_n 3, 1) := by decide +kernel
theorem dX7_part_95 : decode cX7_part 95 = .ok (.getfield 146, 3) := by decide +kernel
theorem dX7_part_98 : decode cX7_part 98 = .ok (.iload_n 1, 1) := by decide +kernel
theorem dX7_part_99 : decode cX7_part 99 = .ok (.iaload, 1) := by decide +kernel
theorem dX7_part_100 : decode cX7_part 100 = .ok (.aload_n 3, 1) := by decide +kernel
theorem dX7_part_101 : decode cX7_part 101 = .ok (.getfield 149, 3) := by decide +kernel
theorem dX7_part_104 : decode cX7_part 104 = .ok (.iload_n 1, 1) := by decide +kernel
theorem dX7_part_105 : decode cX7_part 105 = .ok (.iaload, 1) := by decide +kernel
theorem dX7_part_106 : decode cX7_part 106 = .ok (.iload_n 2, 1) := by decide +kernel
theorem dX7_part_107 : decode cX7_part 107 = .ok (.iconst 1, 1) := by decide +kernel
theorem dX7_part_108 : decode cX7_part 108 = .ok (.isub, 1) := by decide +kernel
theorem dX7_part_109 : decode cX7_part 109 = .ok (.invokevirtual 152, 3) := by decide +kernel
theorem dX7_part_112 : decode cX7_part 112 = .ok (.lreturn, 1) := by decide +kernel
theorem dX7_part_113 : decode cX7_part 113 = .ok (.aload_n 0, 1) := by decide +kernel
theorem dX7_part_114 : decode cX7_part 114 = .ok (.getfield 12, 3) := by decide +kernel
theorem dX7_part_117 : decode cX7_part 117 = .ok (.aload_n 3, 1) := by decide +kernel
theorem dX7_part_118 : decode cX7_part 118 = .ok (.getfield 143, 3) := by decide +kernel
theorem dX7_part_121 : decode cX7_part 121 = .ok (.iload_n 1, 1) := by decide +kernel
theorem dX7_part_122 : decode cX7_part 122 = .ok (.iaload, 1) := by decide +kernel
theorem dX7_part_123 : decode cX7_part 123 = .ok (.aload_n 3, 1) := by decide +kernel
theorem dX7_part_124 : decode cX7_part 124 = .ok (.getfield 156, 3) := by decide +kernel
theorem dX7_part_127 : decode cX7_part 127 = .ok (.iload_n 1, 1) := by decide +kernel
theorem dX7_part_128 : decode cX7_part 128 = .ok (.iaload, 1) := by decide +kernel
theorem dX7_part_129 : decode cX7_part 129 = .ok (.aload_n 3, 1) := by decide +kernel
theorem dX7_part_130 : decode cX7_part 130 = .ok (.getfield 159, 3) := by decide +kernel
theorem dX7_part_133 : decode cX7_part 133 = .ok (.iload_n 1, 1) := by decide +kernel
theorem dX7_part_134 : decode cX7_part 134 = .ok (.iaload, 1) := by decide +kernel
theorem dX7_part_135 : decode cX7_part 135 = .ok (.iload_n 2, 1) := by decide +kernel
theorem dX7_part_136 : decode cX7_part 136 = .ok (.iconst 4, 1) := by decide +kernel
theorem dX7_part_137 : decode cX7_part 137 = .ok (.isub, 1) := by decide +kernel
theorem dX7_part_138 : decode cX7_part 138 = .ok (.invokevirtual 152, 3) := by decide +kernel
theorem dX7_part_141 : decode cX7_part 141 = .ok (.lreturn, 1) := by decide +kernel
theorem dX7_part_142 : decode cX7_part 142 = .ok (.aload_n 0, 1) := by decide +kernel
theorem dX7_part_143 : decode cX7_part 143 = .ok (.getfield 26, 3) := by decide +kernel
theorem dX7_part_146 : decode cX7_part 146 = .ok (.getfield 162, 3) := by decide +kernel
theorem dX7_part_149 : decode cX7_part 149 = .ok (.iload_n 1, 1) := by decide +kernel
theorem dX7_part_150 : decode cX7_part 150 = .ok (.iaload, 1) := by decide +kernel
theorem dX7_part_151 : decode cX7_part 151 = .ok (.i2l, 1) := by decide +kernel
theorem dX7_part_152 : decode cX7_part 152 = .ok (.lreturn, 1) := by decide +kernel
theorem dX7_part_153 : decode cX7_part 153 = .ok (.new 98, 3) := by decide +kernel
theorem dX7_part_156 : decode cX7_part 156 = .ok (.dup, 1) := by decide +kernel
theorem dX7_part_157 : decode cX7_part 157 = .ok (.ldc 100, 2) := by decide +kernel
theorem dX7_part_159 : decode cX7_part 159 = .ok (.invokespecial 102, 3) := by decide +kernel
theorem dX7_part_162 : decode cX7_part 162 = .ok (.athrow, 1) := by decide +kernel
theorem dX7_where_0 : decode cX7_where 0 = .ok (.aload_n 0, 1) := by decide +kernel
theorem dX7_where_1 : decode cX7_where 1 = .ok (.getfield 26, 3) := by decide +kernel
theorem dX7_where_4 : decode cX7_where 4 = .ok (.getfield 117, 3) := by decide +kernel
theorem dX7_where_7 : decode cX7_where 7 = .ok (.ifCond .eq 11, 3) := by decide +kernel
theorem dX7_where_10 : decode cX7_where 10 = .ok (.iload_n 1, 1) := by decide +kernel
theorem dX7_where_11 : decode cX7_where 11 = .ok (.iload_n 2, 1) := by decide +kernel
theorem dX7_where_12 : decode cX7_where 12 = .ok (.invokestatic 57, 3) := by decide +kernel
theorem dX7_where_15 : decode cX7_where 15 = .ok (.ifCond .eq 5, 3) := by decide +kernel
theorem dX7_where_18 : decode cX7_where 18 = .ok (.iconst (-1), 1) := by decide +kernel
theorem dX7_where_19 : decode cX7_where 19 = .ok (.ireturn, 1) := by decide +kernel
theorem dX7_where_20 : decode cX7_where 20 = .ok (.aload_n 0, 1) := by decide +kernel
theorem dX7_where_21 : decode cX7_where 21 = .ok (.getfield 26, 3) := by decide +kernel
theorem dX7_where_24 : decode cX7_where 24 = .ok (.iload_n 1, 1) := by decide +kernel
theorem dX7_where_25 : decode cX7_where 25 = .ok (.iload_n 2, 1) := by decide +kernel
theorem dX7_where_26 : decode cX7_where 26 = .ok (.invokevirtual 165, 3) := by decide +kernel
theorem dX7_where_29 : decode cX7_where 29 = .ok (.ireturn, 1) := by decide +kernel
theorem dX7_order_0 : decode cX7_order 0 = .ok (.aload_n 0, 1) := by decide +kernel
theorem dX7_order_1 : decode cX7_order 1 = .ok (.getfield 26, 3) := by decide +kernel
theorem dX7_order_4 : decode cX7_order 4 = .ok (.getfield 117, 3) := by decide +kernel
theorem dX7_order_7 : decode cX7_order 7 = .ok (.ifCond .eq 11, 3) := by decide +kernel
theorem dX7_order_10 : decode cX7_order 10 = .ok (.iload_n 1, 1) := by decide +kernel
theorem dX7_order_11 : decode cX7_order 11 = .ok (.iload_n 2, 1) := by decide +kernel
theorem dX7_order_12 : decode cX7_order 12 = .ok (.invokestatic 57, 3) := by decide +kernel
theorem dX7_order_15 : decode cX7_order 15 = .ok (.ifCond .eq 5, 3) := by decide +kernel
theorem dX7_order_18 : decode cX7_order 18 = .ok (.iconst (-1), 1) := by decide +kernel
theorem dX7_order_19 : decode cX7_order 19 = .ok (.ireturn, 1) := by decide +kernel
theorem dX7_order_20 : decode cX7_order 20 = .ok (.aload_n 0, 1) := by decide +kernel
theorem dX7_order_21 : decode cX7_order 21 = .ok (.getfield 35, 3) := by decide +kernel
theorem dX7_order_24 : decode cX7_order 24 = .ok (.iload_n 1, 1) := by decide +kernel
theorem dX7_order_25 : decode cX7_order 25 = .ok (.iload_n 2, 1) := by decide +kernel
theorem dX7_order_26 : decode cX7_order 26 = .ok (.invokevirtual 169, 3) := by decide +kernel
theorem dX7_order_29 : decode cX7_order 29 = .ok (.aload_n 0, 1) := by decide +kernel
theorem dX7_order_30 : decode cX7_order 30 = .ok (.getfield 35, 3) := by decide +kernel
theorem dX7_order_33 : decode cX7_order 33 = .ok (.getfield 172, 3) := by decide +kernel
theorem dX7_order_36 : decode cX7_order 36 = .ok (.ireturn, 1) := by decide +kernel
theorem dX7_told_0 : decode cX7_told 0 = .ok (.iload_n 1, 1) := by decide +kernel
theorem dX7_told_1 : decode cX7_told 1 = .ok (.ifCond .lt 26, 3) := by decide +kernel
theorem dX7_told_4 : decode cX7_told 4 = .ok (.iload_n 1, 1) := by decide +kernel
theorem dX7_told_5 : decode cX7_told 5 = .ok (.aload_n 0, 1) := by decide +kernel
theorem dX7_told_6 : decode cX7_told 6 = .ok (.getfield 35, 3) := by decide +kernel
theorem dX7_told_9 : decode cX7_told 9 = .ok (.getfield 172, 3) := by decide +kernel
theorem dX7_told_12 : decode cX7_told 12 = .ok (.if_icmp .ge 15, 3) := by decide +kernel
theorem dX7_told_15 : decode cX7_told 15 = .ok (.aload_n 0, 1) := by decide +kernel
theorem dX7_told_16 : decode cX7_told 16 = .ok (.getfield 35, 3) := by decide +kernel
theorem dX7_told_19 : decode cX7_told 19 = .ok (.getfield 173, 3) := by decide +kernel
theorem dX7_told_22 : decode cX7_told 22 = .ok (.iload_n 1, 1) := by decide +kernel
theorem dX7_told_23 : decode cX7_told 23 = .ok (.iaload, 1) := by decide +kernel
theorem dX7_told_24 : decode cX7_told 24 = .ok (.goto 4, 3) := by decide +kernel
theorem dX7_told_27 : decode cX7_told 27 = .ok (.iconst (-1), 1) := by decide +kernel
theorem dX7_told_28 : decode cX7_told 28 = .ok (.ireturn, 1) := by decide +kernel
theorem dX7_sees_0 : decode cX7_sees 0 = .ok (.iload_n 1, 1) := by decide +kernel
theorem dX7_sees_1 : decode cX7_sees 1 = .ok (.iload_n 2, 1) := by decide +kernel
theorem dX7_sees_2 : decode cX7_sees 2 = .ok (.invokestatic 57, 3) := by decide +kernel
theorem dX7_sees_5 : decode cX7_sees 5 = .ok (.ifCond .ne 12, 3) := by decide +kernel
theorem dX7_sees_8 : decode cX7_sees 8 = .ok (.iload_n 3, 1) := by decide +kernel
theorem dX7_sees_9 : decode cX7_sees 9 = .ok (.iload 4, 2) := by decide +kernel
theorem dX7_sees_11 : decode cX7_sees 11 = .ok (.invokestatic 57, 3) := by decide +kernel
theorem dX7_sees_14 : decode cX7_sees 14 = .ok (.ifCond .eq 5, 3) := by decide +kernel
theorem dX7_sees_17 : decode cX7_sees 17 = .ok (.iconst (-1), 1) := by decide +kernel
theorem dX7_sees_18 : decode cX7_sees 18 = .ok (.ireturn, 1) := by decide +kernel
theorem dX7_sees_19 : decode cX7_sees 19 = .ok (.iconst 0, 1) := by decide +kernel
theorem dX7_sees_20 : decode cX7_sees 20 = .ok (.istore 5, 2) := by decide +kernel
theorem dX7_sees_22 : decode cX7_sees 22 = .ok (.iload 5, 2) := by decide +kernel
theorem dX7_sees_24 : decode cX7_sees 24 = .ok (.aload_n 0, 1) := by decide +kernel
theorem dX7_sees_25 : decode cX7_sees 25 = .ok (.getfield 12, 3) := by decide +kernel
theorem dX7_sees_28 : decode cX7_sees 28 = .ok (.getfield 53, 3) := by decide +kernel
theorem dX7_sees_31 : decode cX7_sees 31 = .ok (.if_icmp .ge 28, 3) := by decide +kernel
theorem dX7_sees_34 : decode cX7_sees 34 = .ok (.aload_n 0, 1) := by decide +kernel
theorem dX7_sees_35 : decode cX7_sees 35 = .ok (.getfield 12, 3) := by decide +kernel
theorem dX7_sees_38 : decode cX7_sees 38 = .ok (.iload 5, 2) := by decide +kernel
theorem dX7_sees_40 : decode cX7_sees 40 = .ok (.iload_n 1, 1) := by decide +kernel
theorem dX7_sees_41 : decode cX7_sees 41 = .ok (.iload_n 2, 1) := by decide +kernel
theorem dX7_sees_42 : decode cX7_sees 42 = .ok (.iload_n 3, 1) := by decide +kernel
theorem dX7_sees_43 : decode cX7_sees 43 = .ok (.iload 4, 2) := by decide +kernel
theorem dX7_sees_45 : decode cX7_sees 45 = .ok (.invokevirtual 176, 3) := by decide +kernel
theorem dX7_sees_48 : decode cX7_sees 48 = .ok (.ifCond .eq 5, 3) := by decide +kernel
theorem dX7_sees_51 : decode cX7_sees 51 = .ok (.iconst 0, 1) := by decide +kernel
theorem dX7_sees_52 : decode cX7_sees 52 = .ok (.ireturn, 1) := by decide +kernel
theorem dX7_sees_53 : decode cX7_sees 53 = .ok (.iinc 5 1, 3) := by decide +kernel
theorem dX7_sees_56 : decode cX7_sees 56 = .ok (.goto (-34), 3) := by decide +kernel
theorem dX7_sees_59 : decode cX7_sees 59 = .ok (.iconst 1, 1) := by decide +kernel
theorem dX7_sees_60 : decode cX7_sees 60 = .ok (.ireturn, 1) := by decide +kernel
theorem dX7_ray_0 : decode cX7_ray 0 = .ok (.iload_n 3, 1) := by decide +kernel
theorem dX7_ray_1 : decode cX7_ray 1 = .ok (.ifCond .ne 12, 3) := by decide +kernel
theorem dX7_ray_4 : decode cX7_ray 4 = .ok (.iload 4, 2) := by decide +kernel
theorem dX7_ray_6 : decode cX7_ray 6 = .ok (.ifCond .ne 7, 3) := by decide +kernel
theorem dX7_ray_9 : decode cX7_ray 9 = .ok (.iconst 1, 1) := by decide +kernel
theorem dX7_ray_10 : decode cX7_ray 10 = .ok (.goto 4, 3) := by decide +kernel
theorem dX7_ray_13 : decode cX7_ray 13 = .ok (.iconst 0, 1) := by decide +kernel
theorem dX7_ray_14 : decode cX7_ray 14 = .ok (.istore 5, 2) := by decide +kernel
theorem dX7_ray_16 : decode cX7_ray 16 = .ok (.iload 5, 2) := by decide +kernel
theorem dX7_ray_18 : decode cX7_ray 18 = .ok (.ifCond .ne 20, 3) := by decide +kernel
theorem dX7_ray_21 : decode cX7_ray 21 = .ok (.iload_n 1, 1) := by decide +kernel
theorem dX7_ray_22 : decode cX7_ray 22 = .ok (.iload_n 2, 1) := by decide +kernel
theorem dX7_ray_23 : decode cX7_ray 23 = .ok (.invokestatic 57, 3) := by decide +kernel
theorem dX7_ray_26 : decode cX7_ray 26 = .ok (.ifCond .ne 12, 3) := by decide +kernel
theorem dX7_ray_29 : decode cX7_ray 29 = .ok (.iload_n 3, 1) := by decide +kernel
theorem dX7_ray_30 : decode cX7_ray 30 = .ok (.iload 4, 2) := by decide +kernel
theorem dX7_ray_32 : decode cX7_ray 32 = .ok (.invokestatic 57, 3) := by decide +kernel
theorem dX7_ray_35 : decode cX7_ray 35 = .ok (.ifCond .eq 5, 3) := by decide +kernel
theorem dX7_ray_38 : decode cX7_ray 38 = .ok (.iconst (-1), 1) := by decide +kernel
theorem dX7_ray_39 : decode cX7_ray 39 = .ok (.ireturn, 1) := by decide +kernel
theorem dX7_ray_40 : decode cX7_ray 40 = .ok (.aload_n 0, 1) := by decide +kernel
theorem dX7_ray_41 : decode cX7_ray 41 = .ok (.getfield 42, 3) := by decide +kernel
theorem dX7_ray_44 : decode cX7_ray 44 = .ok (.iload_n 1, 1) := by decide +kernel
theorem dX7_ray_45 : decode cX7_ray 45 = .ok (.iload_n 2, 1) := by decide +kernel
theorem dX7_ray_46 : decode cX7_ray 46 = .ok (.iload_n 3, 1) := by decide +kernel
theorem dX7_ray_47 : decode cX7_ray 47 = .ok (.iload 4, 2) := by decide +kernel
theorem dX7_ray_49 : decode cX7_ray 49 = .ok (.invokevirtual 180, 3) := by decide +kernel
theorem dX7_ray_52 : decode cX7_ray 52 = .ok (.aload_n 0, 1) := by decide +kernel
theorem dX7_ray_53 : decode cX7_ray 53 = .ok (.getfield 42, 3) := by decide +kernel
theorem dX7_ray_56 : decode cX7_ray 56 = .ok (.getfield 183, 3) := by decide +kernel
theorem dX7_ray_59 : decode cX7_ray 59 = .ok (.ireturn, 1) := by decide +kernel
theorem dX7_met_0 : decode cX7_met 0 = .ok (.iload_n 1, 1) := by decide +kernel
theorem dX7_met_1 : decode cX7_met 1 = .ok (.ifCond .lt 14, 3) := by decide +kernel
theorem dX7_met_4 : decode cX7_met 4 = .ok (.iload_n 1, 1) := by decide +kernel
theorem dX7_met_5 : decode cX7_met 5 = .ok (.aload_n 0, 1) := by decide +kernel
theorem dX7_met_6 : decode cX7_met 6 = .ok (.getfield 42, 3) := by decide +kernel
theorem dX7_met_9 : decode cX7_met 9 = .ok (.getfield 183, 3) := by decide +kernel
theorem dX7_met_12 : decode cX7_met 12 = .ok (.if_icmp .lt 5, 3) := by decide +kernel
theorem dX7_met_15 : decode cX7_met 15 = .ok (.iconst (-1), 1) := by decide +kernel
theorem dX7_met_16 : decode cX7_met 16 = .ok (.ireturn, 1) := by decide +kernel
theorem dX7_met_17 : decode cX7_met 17 = .ok (.iload_n 2, 1) := by decide +kernel
theorem dX7_met_18 : decode cX7_met 18 = .ok (.tableswitch 56 0 2 #[26, 36, 46], 26) := by decide +kernel
theorem dX7_met_44 : decode cX7_met 44 = .ok (.aload_n 0, 1) := by decide +kernel
theorem dX7_met_45 : decode cX7_met 45 = .ok (.getfield 42, 3) := by decide +kernel
theorem dX7_met_48 : decode cX7_met 48 = .ok (.getfield 184, 3) := by decide +kernel
theorem dX7_met_51 : decode cX7_met 51 = .ok (.iload_n 1, 1) := by decide +kernel
theorem dX7_met_52 : decode cX7_met 52 = .ok (.iaload, 1) := by decide +kernel
theorem dX7_met_53 : decode cX7_met 53 = .ok (.ireturn, 1) := by decide +kernel
theorem dX7_met_54 : decode cX7_met 54 = .ok (.aload_n 0, 1) := by decide +kernel
theorem dX7_met_55 : decode cX7_met 55 = .ok (.getfield 42, 3) := by decide +kernel
theorem dX7_met_58 : decode cX7_met 58 = .ok (.getfield 187, 3) := by decide +kernel
theorem dX7_met_61 : decode cX7_met 61 = .ok (.iload_n 1, 1) := by decide +kernel
theorem dX7_met_62 : decode cX7_met 62 = .ok (.iaload, 1) := by decide +kernel
theorem dX7_met_63 : decode cX7_met 63 = .ok (.ireturn, 1) := by decide +kernel
theorem dX7_met_64 : decode cX7_met 64 = .ok (.aload_n 0, 1) := by decide +kernel
theorem dX7_met_65 : decode cX7_met 65 = .ok (.getfield 42, 3) := by decide +kernel
theorem dX7_met_68 : decode cX7_met 68 = .ok (.getfield 190, 3) := by decide +kernel
theorem dX7_met_71 : decode cX7_met 71 = .ok (.iload_n 1, 1) := by decide +kernel
theorem dX7_met_72 : decode cX7_met 72 = .ok (.iaload, 1) := by decide +kernel
theorem dX7_met_73 : decode cX7_met 73 = .ok (.ireturn, 1) := by decide +kernel
theorem dX7_met_74 : decode cX7_met 74 = .ok (.iconst (-1), 1) := by decide +kernel
theorem dX7_met_75 : decode cX7_met 75 = .ok (.ireturn, 1) := by decide +kernel
theorem dX7_least_0 : decode cX7_least 0 = .ok (.aload_n 0, 1) := by decide +kernel
theorem dX7_least_1 : decode cX7_least 1 = .ok (.getfield 12, 3) := by decide +kernel
theorem dX7_least_4 : decode cX7_least 4 = .ok (.getfield 53, 3) := by decide +kernel
theorem dX7_least_7 : decode cX7_least 7 = .ok (.iconst 5, 1) := by decide +kernel
theorem dX7_least_8 : decode cX7_least 8 = .ok (.if_icmp .le 7, 3) := by decide +kernel
theorem dX7_least_11 : decode cX7_least 11 = .ok (.iconst (-1), 1) := by decide +kernel
theorem dX7_least_12 : decode cX7_least 12 = .ok (.goto 10, 3) := by decide +kernel
theorem dX7_least_15 : decode cX7_least 15 = .ok (.aload_n 0, 1) := by decide +kernel
theorem dX7_least_16 : decode cX7_least 16 = .ok (.getfield 49, 3) := by decide +kernel
theorem dX7_least_19 : decode cX7_least 19 = .ok (.invokevirtual 193, 3) := by decide +kernel
theorem dX7_least_22 : decode cX7_least 22 = .ok (.ireturn, 1) := by decide +kernel
theorem dX7_sum_0 : decode cX7_sum 0 = .ok (.aload_n 0, 1) := by decide +kernel
theorem dX7_sum_1 : decode cX7_sum 1 = .ok (.getfield 12, 3) := by decide +kernel
theorem dX7_sum_4 : decode cX7_sum 4 = .ok (.getfield 53, 3) := by decide +kernel
theorem dX7_sum_7 : decode cX7_sum 7 = .ok (.bipush 6, 2) := by decide +kernel
theorem dX7_sum_9 : decode cX7_sum 9 = .ok (.if_icmp .le 7, 3) := by decide +kernel
theorem dX7_sum_12 : decode cX7_sum 12 = .ok (.iconst (-1), 1) := by decide +kernel
theorem dX7_sum_13 : decode cX7_sum 13 = .ok (.goto 10, 3) := by decide +kernel
theorem dX7_sum_16 : decode cX7_sum 16 = .ok (.aload_n 0, 1) := by decide +kernel
theorem dX7_sum_17 : decode cX7_sum 17 = .ok (.getfield 49, 3) := by decide +kernel
theorem dX7_sum_20 : decode cX7_sum 20 = .ok (.invokevirtual 197, 3) := by decide +kernel
theorem dX7_sum_23 : decode cX7_sum 23 = .ok (.ireturn, 1) := by decide +kernel
theorem dX7_forgetTree_0 : decode cX7_forgetTree 0 = .ok (.aload_n 0, 1) := by decide +kernel
theorem dX7_forgetTree_1 : decode cX7_forgetTree 1 = .ok (.getfield 26, 3) := by decide +kernel
theorem dX7_forgetTree_4 : decode cX7_forgetTree 4 = .ok (.invokevirtual 200, 3) := by decide +kernel
theorem dX7_forgetTree_7 : decode cX7_forgetTree 7 = .ok (.aload_n 0, 1) := by decide +kernel
theorem dX7_forgetTree_8 : decode cX7_forgetTree 8 = .ok (.getfield 35, 3) := by decide +kernel
theorem dX7_forgetTree_11 : decode cX7_forgetTree 11 = .ok (.iconst 0, 1) := by decide +kernel
theorem dX7_forgetTree_12 : decode cX7_forgetTree 12 = .ok (.putfield 172, 3) := by decide +kernel
theorem dX7_forgetTree_15 : decode cX7_forgetTree 15 = .ok (.return_, 1) := by decide +kernel
theorem dX7_isBeyond_0 : decode cX7_isBeyond 0 = .ok (.iload_n 0, 1) := by decide +kernel
theorem dX7_isBeyond_1 : decode cX7_isBeyond 1 = .ok (.sipush (-1000), 3) := by decide +kernel
theorem dX7_isBeyond_4 : decode cX7_isBeyond 4 = .ok (.if_icmp .lt 24, 3) := by decide +kernel
theorem dX7_isBeyond_7 : decode cX7_isBeyond 7 = .ok (.iload_n 0, 1) := by decide +kernel
theorem dX7_isBeyond_8 : decode cX7_isBeyond 8 = .ok (.sipush 1000, 3) := by decide +kernel
theorem dX7_isBeyond_11 : decode cX7_isBeyond 11 = .ok (.if_icmp .gt 17, 3) := by decide +kernel
theorem dX7_isBeyond_14 : decode cX7_isBeyond 14 = .ok (.iload_n 1, 1) := by decide +kernel
theorem dX7_isBeyond_15 : decode cX7_isBeyond 15 = .ok (.sipush (-1000), 3) := by decide +kernel
theorem dX7_isBeyond_18 : decode cX7_isBeyond 18 = .ok (.if_icmp .lt 10, 3) := by decide +kernel
theorem dX7_isBeyond_21 : decode cX7_isBeyond 21 = .ok (.iload_n 1, 1) := by decide +kernel
theorem dX7_isBeyond_22 : decode cX7_isBeyond 22 = .ok (.sipush 1000, 3) := by decide +kernel
theorem dX7_isBeyond_25 : decode cX7_isBeyond 25 = .ok (.if_icmp .le 7, 3) := by decide +kernel
theorem dX7_isBeyond_28 : decode cX7_isBeyond 28 = .ok (.iconst 1, 1) := by decide +kernel
theorem dX7_isBeyond_29 : decode cX7_isBeyond 29 = .ok (.goto 4, 3) := by decide +kernel
theorem dX7_isBeyond_32 : decode cX7_isBeyond 32 = .ok (.iconst 0, 1) := by decide +kernel
theorem dX7_isBeyond_33 : decode cX7_isBeyond 33 = .ok (.ireturn, 1) := by decide +kernel
theorem dX7_commonDivisor_0 : decode cX7_commonDivisor 0 = .ok (.lload_n 0, 1) := by decide +kernel
theorem dX7_commonDivisor_1 : decode cX7_commonDivisor 1 = .ok (.invokestatic 203, 3) := by decide +kernel
theorem dX7_commonDivisor_4 : decode cX7_commonDivisor 4 = .ok (.lstore 4, 2) := by decide +kernel
theorem dX7_commonDivisor_6 : decode cX7_commonDivisor 6 = .ok (.lload_n 2, 1) := by decide +kernel
theorem dX7_commonDivisor_7 : decode cX7_commonDivisor 7 = .ok (.invokestatic 203, 3) := by decide +kernel
theorem dX7_commonDivisor_10 : decode cX7_commonDivisor 10 = .ok (.lstore 6, 2) := by decide +kernel
theorem dX7_commonDivisor_12 : decode cX7_commonDivisor 12 = .ok (.iconst 0, 1) := by decide +kernel
theorem dX7_commonDivisor_13 : decode cX7_commonDivisor 13 = .ok (.istore 8, 2) := by decide +kernel
theorem dX7_commonDivisor_15 : decode cX7_commonDivisor 15 = .ok (.iload 8, 2) := by decide +kernel
theorem dX7_commonDivisor_17 : decode cX7_commonDivisor 17 = .ok (.sipush 128, 3) := by decide +kernel
theorem dX7_commonDivisor_20 : decode cX7_commonDivisor 20 = .ok (.if_icmp .ge 31, 3) := by decide +kernel
theorem dX7_commonDivisor_23 : decode cX7_commonDivisor 23 = .ok (.lload 6, 2) := by decide +kernel
theorem dX7_commonDivisor_25 : decode cX7_commonDivisor 25 = .ok (.lconst 0, 1) := by decide +kernel
theorem dX7_commonDivisor_26 : decode cX7_commonDivisor 26 = .ok (.lcmp, 1) := by decide +kernel
theorem dX7_commonDivisor_27 : decode cX7_commonDivisor 27 = .ok (.ifCond .eq 24, 3) := by decide +kernel
theorem dX7_commonDivisor_30 : decode cX7_commonDivisor 30 = .ok (.lload 4, 2) := by decide +kernel
theorem dX7_commonDivisor_32 : decode cX7_commonDivisor 32 = .ok (.lload 6, 2) := by decide +kernel
theorem dX7_commonDivisor_34 : decode cX7_commonDivisor 34 = .ok (.lrem, 1) := by decide +kernel
theorem dX7_commonDivisor_35 : decode cX7_commonDivisor 35 = .ok (.lstore 9, 2) := by decide +kernel
theorem dX7_commonDivisor_37 : decode cX7_commonDivisor 37 = .ok (.lload 6, 2) := by decide +kernel
theorem dX7_commonDivisor_39 : decode cX7_commonDivisor 39 = .ok (.lstore 4, 2) := by decide +kernel
theorem dX7_commonDivisor_41 : decode cX7_commonDivisor 41 = .ok (.lload 9, 2) := by decide +kernel
theorem dX7_commonDivisor_43 : decode cX7_commonDivisor 43 = .ok (.lstore 6, 2) := by decide +kernel
theorem dX7_commonDivisor_45 : decode cX7_commonDivisor 45 = .ok (.iinc 8 1, 3) := by decide +kernel
theorem dX7_commonDivisor_48 : decode cX7_commonDivisor 48 = .ok (.goto (-33), 3) := by decide +kernel
theorem dX7_commonDivisor_51 : decode cX7_commonDivisor 51 = .ok (.lload 4, 2) := by decide +kernel
theorem dX7_commonDivisor_53 : decode cX7_commonDivisor 53 = .ok (.lreturn, 1) := by decide +kernel
theorem dX8_init_0 : decode cX8_init 0 = .ok (.aload_n 0, 1) := by decide +kernel
theorem dX8_init_1 : decode cX8_init 1 = .ok (.invokespecial 1, 3) := by decide +kernel
theorem dX8_init_4 : decode cX8_init 4 = .ok (.aload_n 0, 1) := by decide +kernel
theorem dX8_init_5 : decode cX8_init 5 = .ok (.bipush 24, 2) := by decide +kernel
theorem dX8_init_7 : decode cX8_init 7 = .ok (.newarray .int, 2) := by decide +kernel
theorem dX8_init_9 : decode cX8_init 9 = .ok (.putfield 7, 3) := by decide +kernel
theorem dX8_init_12 : decode cX8_init 12 = .ok (.aload_n 0, 1) := by decide +kernel
theorem dX8_init_13 : decode cX8_init 13 = .ok (.bipush 24, 2) := by decide +kernel
theorem dX8_init_15 : decode cX8_init 15 = .ok (.newarray .int, 2) := by decide +kernel
theorem dX8_init_17 : decode cX8_init 17 = .ok (.putfield 13, 3) := by decide +kernel
theorem dX8_init_20 : decode cX8_init 20 = .ok (.aload_n 0, 1) := by decide +kernel
theorem dX8_init_21 : decode cX8_init 21 = .ok (.bipush 24, 2) := by decide +kernel
theorem dX8_init_23 : decode cX8_init 23 = .ok (.newarray .int, 2) := by decide +kernel
theorem dX8_init_25 : decode cX8_init 25 = .ok (.putfield 16, 3) := by decide +kernel
theorem dX8_init_28 : decode cX8_init 28 = .ok (.aload_n 0, 1) := by decide +kernel
theorem dX8_init_29 : decode cX8_init 29 = .ok (.bipush 24, 2) := by decide +kernel
theorem dX8_init_31 : decode cX8_init 31 = .ok (.newarray .int, 2) := by decide +kernel
theorem dX8_init_33 : decode cX8_init 33 = .ok (.putfield 19, 3) := by decide +kernel
theorem dX8_init_36 : decode cX8_init 36 = .ok (.aload_n 0, 1) := by decide +kernel
theorem dX8_init_37 : decode cX8_init 37 = .ok (.sipush 700, 3) := by decide +kernel
theorem dX8_init_40 : decode cX8_init 40 = .ok (.newarray .int, 2) := by decide +kernel
theorem dX8_init_42 : decode cX8_init 42 = .ok (.putfield 22, 3) := by decide +kernel
theorem dX8_init_45 : decode cX8_init 45 = .ok (.aload_n 0, 1) := by decide +kernel
theorem dX8_init_46 : decode cX8_init 46 = .ok (.sipush 700, 3) := by decide +kernel
theorem dX8_init_49 : decode cX8_init 49 = .ok (.newarray .long, 2) := by decide +kernel
theorem dX8_init_51 : decode cX8_init 51 = .ok (.putfield 25, 3) := by decide +kernel
theorem dX8_init_54 : decode cX8_init 54 = .ok (.aload_n 0, 1) := by decide +kernel
theorem dX8_init_55 : decode cX8_init 55 = .ok (.sipush 700, 3) := by decide +kernel
theorem dX8_init_58 : decode cX8_init 58 = .ok (.newarray .long, 2) := by decide +kernel
theorem dX8_init_60 : decode cX8_init 60 = .ok (.putfield 29, 3) := by decide +kernel
theorem dX8_init_63 : decode cX8_init 63 = .ok (.aload_n 0, 1) := by decide +kernel
theorem dX8_init_64 : decode cX8_init 64 = .ok (.sipush 700, 3) := by decide +kernel
theorem dX8_init_67 : decode cX8_init 67 = .ok (.newarray .long, 2) := by decide +kernel
theorem dX8_init_69 : decode cX8_init 69 = .ok (.putfield 32, 3) := by decide +kernel
theorem dX8_init_72 : decode cX8_init 72 = .ok (.aload_n 0, 1) := by decide +kernel
theorem dX8_init_73 : decode cX8_init 73 = .ok (.sipush 700, 3) := by decide +kernel
theorem dX8_init_76 : decode cX8_init 76 = .ok (.newarray .long, 2) := by decide +kernel
theorem dX8_init_78 : decode cX8_init 78 = .ok (.putfield 35, 3) := by decide +kernel
theorem dX8_init_81 : decode cX8_init 81 = .ok (.aload_n 0, 1) := by decide +kernel
theorem dX8_init_82 : decode cX8_init 82 = .ok (.sipush 700, 3) := by decide +kernel
theorem dX8_init_85 : decode cX8_init 85 = .ok (.newarray .int, 2) := by decide +kernel
theorem dX8_init_87 : decode cX8_init 87 = .ok (.putfield 38, 3) := by decide +kernel
theorem dX8_init_90 : decode cX8_init 90 = .ok (.aload_n 0, 1) := by decide +kernel
theorem dX8_init_91 : decode cX8_init 91 = .ok (.sipush 700, 3) := by decide +kernel
theorem dX8_init_94 : decode cX8_init 94 = .ok (.newarray .int, 2) := by decide +kernel
theorem dX8_init_96 : decode cX8_init 96 = .ok (.putfield 41, 3) := by decide +kernel
theorem dX8_init_99 : decode cX8_init 99 = .ok (.aload_n 0, 1) := by decide +kernel
theorem dX8_init_100 : decode cX8_init 100 = .ok (.sipush 700, 3) := by decide +kernel
theorem dX8_init_103 : decode cX8_init 103 = .ok (.newarray .boolean, 2) := by decide +kernel
theorem dX8_init_105 : decode cX8_init 105 = .ok (.putfield 44, 3) := by decide +kernel
theorem dX8_init_108 : decode cX8_init 108 = .ok (.aload_n 0, 1) := by decide +kernel
theorem dX8_init_109 : decode cX8_init 109 = .ok (.sipush 1400, 3) := by decide +kernel
theorem dX8_init_112 : decode cX8_init 112 = .ok (.newarray .int, 2) := by decide +kernel
theorem dX8_init_114 : decode cX8_init 114 = .ok (.putfield 48, 3) := by decide +kernel
theorem dX8_init_117 : decode cX8_init 117 = .ok (.aload_n 0, 1) := by decide +kernel
theorem dX8_init_118 : decode cX8_init 118 = .ok (.sipush 1400, 3) := by decide +kernel
theorem dX8_init_121 : decode cX8_init 121 = .ok (.newarray .long, 2) := by decide +kernel
theorem dX8_init_123 : decode cX8_init 123 = .ok (.putfield 51, 3) := by decide +kernel
theorem dX8_init_126 : decode cX8_init 126 = .ok (.aload_n 0, 1) := by decide +kernel
theorem dX8_init_127 : decode cX8_init 127 = .ok (.sipush 1400, 3) := by decide +kernel
theorem dX8_init_130 : decode cX8_init 130 = .ok (.newarray .long, 2) := by decide +kernel
theorem dX8_init_132 : decode cX8_init 132 = .ok (.putfield 54, 3) := by decide +kernel
theorem dX8_init_135 : decode cX8_init 135 = .ok (.aload_n 0, 1) := by decide +kernel
theorem dX8_init_136 : decode cX8_init 136 = .ok (.sipush 1400, 3) := by decide +kernel
theorem dX8_init_139 : decode cX8_init 139 = .ok (.newarray .long, 2) := by decide +kernel
theorem dX8_init_141 : decode cX8_init 141 = .ok (.putfield 57, 3) := by decide +kernel
theorem dX8_init_144 : decode cX8_init 144 = .ok (.aload_n 0, 1) := by decide +kernel
theorem dX8_init_145 : decode cX8_init 145 = .ok (.sipush 1400, 3) := by decide +kernel
theorem dX8_init_148 : decode cX8_init 148 = .ok (.newarray .long, 2) := by decide +kernel
theorem dX8_init_150 : decode cX8_init 150 = .ok (.putfield 60, 3) := by decide +kernel
theorem dX8_init_153 : decode cX8_init 153 = .ok (.aload_n 0, 1) := by decide +kernel
theorem dX8_init_154 : decode cX8_init 154 = .ok (.sipush 700, 3) := by decide +kernel
theorem dX8_init_157 : decode cX8_init 157 = .ok (.newarray .int, 2) := by decide +kernel
theorem dX8_init_159 : decode cX8_init 159 = .ok (.putfield 63, 3) := by decide +kernel
theorem dX8_init_162 : decode cX8_init 162 = .ok (.aload_n 0, 1) := by decide +kernel
theorem dX8_init_163 : decode cX8_init 163 = .ok (.sipush 700, 3) := by decide +kernel
theorem dX8_init_166 : decode cX8_init 166 = .ok (.newarray .int, 2) := by decide +kernel
theorem dX8_init_168 : decode cX8_init 168 = .ok (.putfield 66, 3) := by decide +kernel
theorem dX8_init_171 : decode cX8_init 171 = .ok (.aload_n 0, 1) := by decide +kernel
theorem dX8_init_172 : decode cX8_init 172 = .ok (.sipush 700, 3) := by decide +kernel
theorem dX8_init_175 : decode cX8_init 175 = .ok (.newarray .int, 2) := by decide +kernel
theorem dX8_init_177 : decode cX8_init 177 = .ok (.putfield 69, 3) := by decide +kernel
theorem dX8_init_180 : decode cX8_init 180 = .ok (.aload_n 0, 1) := by decide +kernel
theorem dX8_init_181 : decode cX8_init 181 = .ok (.sipush 700, 3) := by decide +kernel
theorem dX8_init_184 : decode cX8_init 184 = .ok (.newarray .int, 2) := by decide +kernel
theorem dX8_init_186 : decode cX8_init 186 = .ok (.putfield 72, 3) := by decide +kernel
theorem dX8_init_189 : decode cX8_init 189 = .ok (.aload_n 0, 1) := by decide +kernel
theorem dX8_init_190 : decode cX8_init 190 = .ok (.sipush 700, 3) := by decide +kernel
theorem dX8_init_193 : decode cX8_init 193 = .ok (.newarray .int, 2) := by decide +kernel
theorem dX8_init_195 : decode cX8_init 195 = .ok (.putfield 75, 3) := by decide +kernel
theorem dX8_init_198 : decode cX8_init 198 = .ok (.aload_n 0, 1) := by decide +kernel
theorem dX8_init_199 : decode cX8_init 199 = .ok (.sipush 700, 3) := by decide +kernel
theorem dX8_init_202 : decode cX8_init 202 = .ok (.newarray .int, 2) := by decide +kernel
theorem dX8_init_204 : decode cX8_init 204 = .ok (.putfield 78, 3) := by decide +kernel
theorem dX8_init_207 : decode cX8_init 207 = .ok (.aload_n 0, 1) := by decide +kernel
theorem dX8_init_208 : decode cX8_init 208 = .ok (.sipush 700, 3) := by decide +kernel
theorem dX8_init_211 : decode cX8_init 211 = .ok (.newarray .int, 2) := by decide +kernel
theorem dX8_init_213 : decode cX8_init 213 = .ok (.putfield 81, 3) := by decide +kernel
theorem dX8_init_216 : decode cX8_init 216 = .ok (.aload_n 0, 1) := by decide +kernel
theorem dX8_init_217 : decode cX8_init 217 = .ok (.sipush 700, 3) := by decide +kernel
theorem dX8_init_220 : decode cX8_init 220 = .ok (.newarray .int, 2) := by decide +kernel
theorem dX8_init_222 : decode cX8_init 222 = .ok (.putfield 84, 3) := by decide +kernel
theorem dX8_init_225 : decode cX8_init 225 = .ok (.aload_n 0, 1) := by decide +kernel
theorem dX8_init_226 : decode cX8_init 226 = .ok (.sipush 700, 3) := by decide +kernel
theorem dX8_init_229 : decode cX8_init 229 = .ok (.newarray .long, 2) := by decide +kernel
theorem dX8_init_231 : decode cX8_init 231 = .ok (.putfield 87, 3) := by decide +kernel
theorem dX8_init_234 : decode cX8_init 234 = .ok (.aload_n 0, 1) := by decide +kernel
theorem dX8_init_235 : decode cX8_init 235 = .ok (.sipush 700, 3) := by decide +kernel
theorem dX8_init_238 : decode cX8_init 238 = .ok (.newarray .long, 2) := by decide +kernel
theorem dX8_init_240 : decode cX8_init 240 = .ok (.putfield 90, 3) := by decide +kernel
theorem dX8_init_243 : decode cX8_init 243 = .ok (.aload_n 0, 1) := by decide +kernel
theorem dX8_init_244 : decode cX8_init 244 = .ok (.sipush 700, 3) := by decide +kernel
theorem dX8_init_247 : decode cX8_init 247 = .ok (.newarray .long, 2) := by decide +kernel
theorem dX8_init_249 : decode cX8_init 249 = .ok (.putfield 93, 3) := by decide +kernel
theorem dX8_init_252 : decode cX8_init 252 = .ok (.aload_n 0, 1) := by decide +kernel
theorem dX8_init_253 : decode cX8_init 253 = .ok (.sipush 700, 3) := by decide +kernel
theorem dX8_init_256 : decode cX8_init 256 = .ok (.newarray .long, 2) := by decide +kernel
theorem dX8_init_258 : decode cX8_init 258 = .ok (.putfield 96, 3) := by decide +kernel
theorem dX8_init_261 : decode cX8_init 261 = .ok (.aload_n 0, 1) := by decide +kernel
theorem dX8_init_262 : decode cX8_init 262 = .ok (.bipush 24, 2) := by decide +kernel
theorem dX8_init_264 : decode cX8_init 264 = .ok (.newarray .int, 2) := by decide +kernel
theorem dX8_init_266 : decode cX8_init 266 = .ok (.putfield 99, 3) := by decide +kernel
theorem dX8_init_269 : decode cX8_init 269 = .ok (.aload_n 0, 1) := by decide +kernel
theorem dX8_init_270 : decode cX8_init 270 = .ok (.sipush 700, 3) := by decide +kernel
theorem dX8_init_273 : decode cX8_init 273 = .ok (.newarray .int, 2) := by decide +kernel
theorem dX8_init_275 : decode cX8_init 275 = .ok (.putfield 102, 3) := by decide +kernel
theorem dX8_init_278 : decode cX8_init 278 = .ok (.aload_n 0, 1) := by decide +kernel
theorem dX8_init_279 : decode cX8_init 279 = .ok (.sipush 1400, 3) := by decide +kernel
theorem dX8_init_282 : decode cX8_init 282 = .ok (.newarray .int, 2) := by decide +kernel
theorem dX8_init_284 : decode cX8_init 284 = .ok (.putfield 105, 3) := by decide +kernel
theorem dX8_init_287 : decode cX8_init 287 = .ok (.aload_n 0, 1) := by decide +kernel
theorem dX8_init_288 : decode cX8_init 288 = .ok (.sipush 1400, 3) := by decide +kernel
theorem dX8_init_291 : decode cX8_init 291 = .ok (.newarray .boolean, 2) := by decide +kernel
theorem dX8_init_293 : decode cX8_init 293 = .ok (.putfield 108, 3) := by decide +kernel
theorem dX8_init_296 : decode cX8_init 296 = .ok (.aload_n 0, 1) := by decide +kernel
theorem dX8_init_297 : decode cX8_init 297 = .ok (.bipush 24, 2) := by decide +kernel
theorem dX8_init_299 : decode cX8_init 299 = .ok (.newarray .int, 2) := by decide +kernel
theorem dX8_init_301 : decode cX8_init 301 = .ok (.putfield 111, 3) := by decide +kernel
theorem dX8_init_304 : decode cX8_init 304 = .ok (.aload_n 0, 1) := by decide +kernel
theorem dX8_init_305 : decode cX8_init 305 = .ok (.bipush 24, 2) := by decide +kernel
theorem dX8_init_307 : decode cX8_init 307 = .ok (.newarray .long, 2) := by decide +kernel
theorem dX8_init_309 : decode cX8_init 309 = .ok (.putfield 114, 3) := by decide +kernel
theorem dX8_init_312 : decode cX8_init 312 = .ok (.aload_n 0, 1) := by decide +kernel
theorem dX8_init_313 : decode cX8_init 313 = .ok (.bipush 24, 2) := by decide +kernel
theorem dX8_init_315 : decode cX8_init 315 = .ok (.newarray .long, 2) := by decide +kernel
theorem dX8_init_317 : decode cX8_init 317 = .ok (.putfield 117, 3) := by decide +kernel
theorem dX8_init_320 : decode cX8_init 320 = .ok (.aload_n 0, 1) := by decide +kernel
theorem dX8_init_321 : decode cX8_init 321 = .ok (.sipush 243, 3) := by decide +kernel
theorem dX8_init_324 : decode cX8_init 324 = .ok (.newarray .int, 2) := by decide +kernel
theorem dX8_init_326 : decode cX8_init 326 = .ok (.putfield 120, 3) := by decide +kernel
theorem dX8_init_329 : decode cX8_init 329 = .ok (.return_, 1) := by decide +kernel
theorem dX8_thrown_0 : decode cX8_thrown 0 = .ok (.aload_n 0, 1) := by decide +kernel
theorem dX8_thrown_1 : decode cX8_thrown 1 = .ok (.getfield 123, 3) := by decide +kernel
theorem dX8_thrown_4 : decode cX8_thrown 4 = .ok (.ireturn, 1) := by decide +kernel
theorem dX8_isPlace_0 : decode cX8_isPlace 0 = .ok (.iload_n 0, 1) := by decide +kernel
theorem dX8_isPlace_1 : decode cX8_isPlace 1 = .ok (.sipush (-1000), 3) := by decide +kernel
theorem dX8_isPlace_4 : decode cX8_isPlace 4 = .ok (.if_icmp .lt 28, 3) := by decide +kernel
theorem dX8_isPlace_7 : decode cX8_isPlace 7 = .ok (.iload_n 0, 1) := by decide +kernel
theorem dX8_isPlace_8 : decode cX8_isPlace 8 = .ok (.sipush 1000, 3) := by decide +kernel
theorem dX8_isPlace_11 : decode cX8_isPlace 11 = .ok (.if_icmp .gt 21, 3) := by decide +kernel
theorem dX8_isPlace_14 : decode cX8_isPlace 14 = .ok (.iload_n 1, 1) := by decide +kernel
theorem dX8_isPlace_15 : decode cX8_isPlace 15 = .ok (.sipush (-1000), 3) := by decide +kernel
theorem dX8_isPlace_18 : decode cX8_isPlace 18 = .ok (.if_icmp .lt 14, 3) := by decide +kernel
theorem dX8_isPlace_21 : decode cX8_isPlace 21 = .ok (.iload_n 1, 1) := by decide +kernel
theorem dX8_isPlace_22 : decode cX8_isPlace 22 = .ok (.sipush 1000, 3) := by decide +kernel
theorem dX8_isPlace_25 : decode cX8_isPlace 25 = .ok (.if_icmp .gt 7, 3) := by decide +kernel
theorem dX8_isPlace_28 : decode cX8_isPlace 28 = .ok (.iconst 1, 1) := by decide +kernel
theorem dX8_isPlace_29 : decode cX8_isPlace 29 = .ok (.goto 4, 3) := by decide +kernel
theorem dX8_isPlace_32 : decode cX8_isPlace 32 = .ok (.iconst 0, 1) := by decide +kernel
theorem dX8_isPlace_33 : decode cX8_isPlace 33 = .ok (.ireturn, 1) := by decide +kernel
theorem dX8_piece_0 : decode cX8_piece 0 = .ok (.aload_n 0, 1) := by decide +kernel
theorem dX8_piece_1 : decode cX8_piece 1 = .ok (.iconst 0, 1) := by decide +kernel
theorem dX8_piece_2 : decode cX8_piece 2 = .ok (.putfield 123, 3) := by decide +kernel
theorem dX8_piece_5 : decode cX8_piece 5 = .ok (.aload_n 0, 1) := by decide +kernel
theorem dX8_piece_6 : decode cX8_piece 6 = .ok (.getfield 127, 3) := by decide +kernel
theorem dX8_piece_9 : decode cX8_piece 9 = .ok (.bipush 24, 2) := by decide +kernel
theorem dX8_piece_11 : decode cX8_piece 11 = .ok (.if_icmp .eq 31, 3) := by decide +kernel
theorem dX8_piece_14 : decode cX8_piece 14 = .ok (.iload_n 1, 1) := by decide +kernel
theorem dX8_piece_15 : decode cX8_piece 15 = .ok (.iload_n 2, 1) := by decide +kernel
theorem dX8_piece_16 : decode cX8_piece 16 = .ok (.invokestatic 130, 3) := by decide +kernel
theorem dX8_piece_19 : decode cX8_piece 19 = .ok (.ifCond .eq 23, 3) := by decide +kernel
theorem dX8_piece_22 : decode cX8_piece 22 = .ok (.iload_n 3, 1) := by decide +kernel
theorem dX8_piece_23 : decode cX8_piece 23 = .ok (.iload 4, 2) := by decide +kernel
theorem dX8_piece_25 : decode cX8_piece 25 = .ok (.invokestatic 130, 3) := by decide +kernel
theorem dX8_piece_28 : decode cX8_piece 28 = .ok (.ifCond .eq 14, 3) := by decide +kernel
theorem dX8_piece_31 : decode cX8_piece 31 = .ok (.iload_n 1, 1) := by decide +kernel
theorem dX8_piece_32 : decode cX8_piece 32 = .ok (.iload_n 3, 1) := by decide +kernel
theorem dX8_piece_33 : decode cX8_piece 33 = .ok (.if_icmp .ne 11, 3) := by decide +kernel
theorem dX8_piece_36 : decode cX8_piece 36 = .ok (.iload_n 2, 1) := by decide +kernel
theorem dX8_piece_37 : decode cX8_piece 37 = .ok (.iload 4, 2) := by decide +kernel
theorem dX8_piece_39 : decode cX8_piece 39 = .ok (.if_icmp .ne 5, 3) := by decide +kernel
theorem dX8_piece_42 : decode cX8_piece 42 = .ok (.iconst (-1), 1) := by decide +kernel
theorem dX8_piece_43 : decode cX8_piece 43 = .ok (.ireturn, 1) := by decide +kernel
theorem dX8_piece_44 : decode cX8_piece 44 = .ok (.aload_n 0, 1) := by decide +kernel
theorem dX8_piece_45 : decode cX8_piece 45 = .ok (.getfield 7, 3) := by decide +kernel
theorem dX8_piece_48 : decode cX8_piece 48 = .ok (.aload_n 0, 1) := by decide +kernel
theorem dX8_piece_49 : decode cX8_piece 49 = .ok (.getfield 127, 3) := by decide +kernel
theorem dX8_piece_52 : decode cX8_piece 52 = .ok (.iload_n 1, 1) := by decide +kernel
theorem dX8_piece_53 : decode cX8_piece 53 = .ok (.iastore, 1) := by decide +kernel
theorem dX8_piece_54 : decode cX8_piece 54 = .ok (.aload_n 0, 1) := by decide +kernel
theorem dX8_piece_55 : decode cX8_piece 55 = .ok (.getfield 13, 3) := by decide +kernel
theorem dX8_piece_58 : decode cX8_piece 58 = .ok (.aload_n 0, 1) := by decide +kernel
theorem dX8_piece_59 : decode cX8_piece 59 = .ok (.getfield 127, 3) := by decide +kernel
theorem dX8_piece_62 : decode cX8_piece 62 = .ok (.iload_n 2, 1) := by decide +kernel
theorem dX8_piece_63 : decode cX8_piece 63 = .ok (.iastore, 1) := by decide +kernel
theorem dX8_piece_64 : decode cX8_piece 64 = .ok (.aload_n 0, 1) := by decide +kernel
theorem dX8_piece_65 : decode cX8_piece 65 = .ok (.getfield 16, 3) := by decide +kernel
theorem dX8_piece_68 : decode cX8_piece 68 = .ok (.aload_n 0, 1) := by decide +kernel
theorem dX8_piece_69 : decode cX8_piece 69 = .ok (.getfield 127, 3) := by decide +kernel
theorem dX8_piece_72 : decode cX8_piece 72 = .ok (.iload_n 3, 1) := by decide +kernel
theorem dX8_piece_73 : decode cX8_piece 73 = .ok (.iload_n 1, 1) := by decide +kernel
theorem dX8_piece_74 : decode cX8_piece 74 = .ok (.isub, 1) := by decide +kernel
theorem dX8_piece_75 : decode cX8_piece 75 = .ok (.iastore, 1) := by decide +kernel
theorem dX8_piece_76 : decode cX8_piece 76 = .ok (.aload_n 0, 1) := by decide +kernel
theorem dX8_piece_77 : decode cX8_piece 77 = .ok (.getfield 19, 3) := by decide +kernel
theorem dX8_piece_80 : decode cX8_piece 80 = .ok (.aload_n 0, 1) := by decide +kernel
theorem dX8_piece_81 : decode cX8_piece 81 = .ok (.getfield 127, 3) := by decide +kernel
theorem dX8_piece_84 : decode cX8_piece 84 = .ok (.iload 4, 2) := by decide +kernel
theorem dX8_piece_86 : decode cX8_piece 86 = .ok (.iload_n 2, 1) := by decide +kernel
theorem dX8_piece_87 : decode cX8_piece 87 = .ok (.isub, 1) := by decide +kernel
theorem dX8_piece_88 : decode cX8_piece 88 = .ok (.iastore, 1) := by decide +kernel
theorem dX8_piece_89 : decode cX8_piece 89 = .ok (.aload_n 0, 1) := by decide +kernel
theorem dX8_piece_90 : decode cX8_piece 90 = .ok (.dup, 1) := by decide +kernel
theorem dX8_piece_91 : decode cX8_piece 91 = .ok (.getfield 127, 3) := by decide +kernel
theorem dX8_piece_94 : decode cX8_piece 94 = .ok (.iconst 1, 1) := by decide +kernel
theorem dX8_piece_95 : decode cX8_piece 95 = .ok (.iadd, 1) := by decide +kernel
theorem dX8_piece_96 : decode cX8_piece 96 = .ok (.putfield 127, 3) := by decide +kernel
theorem dX8_piece_99 : decode cX8_piece 99 = .ok (.aload_n 0, 1) := by decide +kernel
theorem dX8_piece_100 : decode cX8_piece 100 = .ok (.invokevirtual 134, 3) := by decide +kernel
theorem dX8_piece_103 : decode cX8_piece 103 = .ok (.aload_n 0, 1) := by decide +kernel
theorem dX8_piece_104 : decode cX8_piece 104 = .ok (.getfield 127, 3) := by decide +kernel
theorem dX8_piece_107 : decode cX8_piece 107 = .ok (.iconst 1, 1) := by decide +kernel
theorem dX8_piece_108 : decode cX8_piece 108 = .ok (.isub, 1) := by decide +kernel
theorem dX8_piece_109 : decode cX8_piece 109 = .ok (.ireturn, 1) := by decide +kernel
theorem dX8_drop_0 : decode cX8_drop 0 = .ok (.aload_n 0, 1) := by decide +kernel
theorem dX8_drop_1 : decode cX8_drop 1 = .ok (.iconst 0, 1) := by decide +kernel
theorem dX8_drop_2 : decode cX8_drop 2 = .ok (.putfield 123, 3) := by decide +kernel
theorem dX8_drop_5 : decode cX8_drop 5 = .ok (.aload_n 0, 1) := by decide +kernel
theorem dX8_drop_6 : decode cX8_drop 6 = .ok (.getfield 127, 3) := by decide +kernel
theorem dX8_drop_9 : decode cX8_drop 9 = .ok (.ifCond .ne 5, 3) := by decide +kernel
theorem dX8_drop_12 : decode cX8_drop 12 = .ok (.iconst (-1), 1) := by decide +kernel
theorem dX8_drop_13 : decode cX8_drop 13 = .ok (.ireturn, 1) := by decide +kernel
theorem dX8_drop_14 : decode cX8_drop 14 = .ok (.aload_n 0, 1) := by decide +kernel
theorem dX8_drop_15 : decode cX8_drop 15 = .ok (.dup, 1) := by decide +kernel
theorem dX8_drop_16 : decode cX8_drop 16 = .ok (.getfield 127, 3) := by decide +kernel
theorem dX8_drop_19 : decode cX8_drop 19 = .ok (.iconst 1, 1) := by decide +kernel
theorem dX8_drop_20 : decode cX8_drop 20 = .ok (.isub, 1) := by decide +kernel
theorem dX8_drop_21 : decode cX8_drop 21 = .ok (.putfield 127, 3) := by decide +kernel
theorem dX8_drop_24 : decode cX8_drop 24 = .ok (.aload_n 0, 1) := by decide +kernel
theorem dX8_drop_25 : decode cX8_drop 25 = .ok (.invokevirtual 134, 3) := by decide +kernel
theorem dX8_drop_28 : decode cX8_drop 28 = .ok (.aload_n 0, 1) := by decide +kernel
theorem dX8_drop_29 : decode cX8_drop 29 = .ok (.getfield 127, 3) := by decide +kernel
theorem dX8_drop_32 : decode cX8_drop 32 = .ok (.ireturn, 1) := by decide +kernel
theorem dX8_noTree_0 : decode cX8_noTree 0 = .ok (.aload_n 0, 1) := by decide +kernel
theorem dX8_noTree_1 : decode cX8_noTree 1 = .ok (.iconst 0, 1) := by decide +kernel
theorem dX8_noTree_2 : decode cX8_noTree 2 = .ok (.putfield 137, 3) := by decide +kernel
theorem dX8_noTree_5 : decode cX8_noTree 5 = .ok (.aload_n 0, 1) := by decide +kernel
theorem dX8_noTree_6 : decode cX8_noTree 6 = .ok (.iconst 0, 1) := by decide +kernel
theorem dX8_noTree_7 : decode cX8_noTree 7 = .ok (.putfield 141, 3) := by decide +kernel
theorem dX8_noTree_10 : decode cX8_noTree 10 = .ok (.aload_n 0, 1) := by decide +kernel
theorem dX8_noTree_11 : decode cX8_noTree 11 = .ok (.iconst 0, 1) := by decide +kernel
theorem dX8_noTree_12 : decode cX8_noTree 12 = .ok (.putfield 144, 3) := by decide +kernel
theorem dX8_noTree_15 : decode cX8_noTree 15 = .ok (.aload_n 0, 1) := by decide +kernel
theorem dX8_noTree_16 : decode cX8_noTree 16 = .ok (.iconst 0, 1) := by decide +kernel
theorem dX8_noTree_17 : decode cX8_noTree 17 = .ok (.putfield 147, 3) := by decide +kernel
theorem dX8_noTree_20 : decode cX8_noTree 20 = .ok (.aload_n 0, 1) := by decide +kernel
theorem dX8_noTree_21 : decode cX8_noTree 21 = .ok (.iconst 0, 1) := by decide +kernel
theorem dX8_noTree_22 : decode cX8_noTree 22 = .ok (.putfield 150, 3) := by decide +kernel
theorem dX8_noTree_25 : decode cX8_noTree 25 = .ok (.return_, 1) := by decide +kernel
theorem dX8_side_0 : decode cX8_side 0 = .ok (.aload_n 0, 1) := by decide +kernel
theorem dX8_side_1 : decode cX8_side 1 = .ok (.getfield 16, 3) := by decide +kernel
theorem dX8_side_4 : decode cX8_side 4 = .ok (.iload_n 1, 1) := by decide +kernel
theorem dX8_side_5 : decode cX8_side 5 = .ok (.iaload, 1) := by decide +kernel
theorem dX8_side_6 : decode cX8_side 6 = .ok (.i2l, 1) := by decide +kernel
theorem dX8_side_7 : decode cX8_side 7 = .ok (.lload 4, 2) := by decide +kernel
theorem dX8_side_9 : decode cX8_side 9 = .ok (.aload_n 0, 1) := by decide +kernel
theorem dX8_side_10 : decode cX8_side 10 = .ok (.getfield 13, 3) := by decide +kernel
theorem dX8_side_13 : decode cX8_side 13 = .ok (.iload_n 1, 1) := by decide +kernel
theorem dX8_side_14 : decode cX8_side 14 = .ok (.iaload, 1) := by decide +kernel
theorem dX8_side_15 : decode cX8_side 15 = .ok (.i2l, 1) := by decide +kernel
theorem dX8_side_16 : decode cX8_side 16 = .ok (.lsub, 1) := by decide +kernel
theorem dX8_side_17 : decode cX8_side 17 = .ok (.lmul, 1) := by decide +kernel
theorem dX8_side_18 : decode cX8_side 18 = .ok (.aload_n 0, 1) := by decide +kernel
theorem dX8_side_19 : decode cX8_side 19 = .ok (.getfield 19, 3) := by decide +kernel
theorem dX8_side_22 : decode cX8_side 22 = .ok (.iload_n 1, 1) := by decide +kernel
theorem dX8_side_23 : decode cX8_side 23 = .ok (.iaload, 1) := by decide +kernel
theorem dX8_side_24 : decode cX8_side 24 = .ok (.i2l, 1) := by decide +kernel
theorem dX8_side_25 : decode cX8_side 25 = .ok (.lload_n 2, 1) := by decide +kernel
theorem dX8_side_26 : decode cX8_side 26 = .ok (.aload_n 0, 1) := by decide +kernel
theorem dX8_side_27 : decode cX8_side 27 = .ok (.getfield 7, 3) := by decide +kernel
theorem dX8_side_30 : decode cX8_side 30 = .ok (.iload_n 1, 1) := by decide +kernel
theorem dX8_side_31 : decode cX8_side 31 = .ok (.iaload, 1) := by decide +kernel
theorem dX8_side_32 : decode cX8_side 32 = .ok (.i2l, 1) := by decide +kernel
theorem dX8_side_33 : decode cX8_side 33 = .ok (.lsub, 1) := by decide +kernel
theorem dX8_side_34 : decode cX8_side 34 = .ok (.lmul, 1) := by decide +kernel
theorem dX8_side_35 : decode cX8_side 35 = .ok (.lsub, 1) := by decide +kernel
theorem dX8_side_36 : decode cX8_side 36 = .ok (.lreturn, 1) := by decide +kernel
theorem dX8_slope_0 : decode cX8_slope 0 = .ok (.aload_n 0, 1) := by decide +kernel
theorem dX8_slope_1 : decode cX8_slope 1 = .ok (.getfield 16, 3) := by decide +kernel
theorem dX8_slope_4 : decode cX8_slope 4 = .ok (.iload_n 1, 1) := by decide +kernel
theorem dX8_slope_5 : decode cX8_slope 5 = .ok (.iaload, 1) := by decide +kernel
theorem dX8_slope_6 : decode cX8_slope 6 = .ok (.i2l, 1) := by decide +kernel
theorem dX8_slope_7 : decode cX8_slope 7 = .ok (.aload_n 0, 1) := by decide +kernel
theorem dX8_slope_8 : decode cX8_slope 8 = .ok (.getfield 19, 3) := by decide +kernel
theorem dX8_slope_11 : decode cX8_slope 11 = .ok (.iload_n 2, 1) := by decide +kernel
theorem dX8_slope_12 : decode cX8_slope 12 = .ok (.iaload, 1) := by decide +kernel
theorem dX8_slope_13 : decode cX8_slope 13 = .ok (.i2l, 1) := by decide +kernel
theorem dX8_slope_14 : decode cX8_slope 14 = .ok (.lmul, 1) := by decide +kernel
theorem dX8_slope_15 : decode cX8_slope 15 = .ok (.aload_n 0, 1) := by decide +kernel
theorem dX8_slope_16 : decode cX8_slope 16 = .ok (.getfield 19, 3) := by decide +kernel
theorem dX8_slope_19 : decode cX8_slope 19 = .ok (.iload_n 1, 1) := by decide +kernel
theorem dX8_slope_20 : decode cX8_slope 20 = .ok (.iaload, 1) := by decide +kernel
theorem dX8_slope_21 : decode cX8_slope 21 = .ok (.i2l, 1) := by decide +kernel
theorem dX8_slope_22 : decode cX8_slope 22 = .ok (.aload_n 0, 1) := by decide +kernel
theorem dX8_slope_23 : decode cX8_slope 23 = .ok (.getfield 16, 3) := by decide +kernel
theorem dX8_slope_26 : decode cX8_slope 26 = .ok (.iload_n 2, 1) := by decide +kernel
theorem dX8_slope_27 : decode cX8_slope 27 = .ok (.iaload, 1) := by decide +kernel
theorem dX8_slope_28 : decode cX8_slope 28 = .ok (.i2l, 1) := by decide +kernel
theorem dX8_slope_29 : decode cX8_slope 29 = .ok (.lmul, 1) := by decide +kernel
theorem dX8_slope_30 : decode cX8_slope 30 = .ok (.lsub, 1) := by decide +kernel
theorem dX8_slope_31 : decode cX8_slope 31 = .ok (.lreturn, 1) := by decide +kernel
theorem dX8_sideAt_0 : decode cX8_sideAt 0 = .ok (.aload_n 0, 1) := by decide +kernel
theorem dX8_sideAt_1 : decode cX8_sideAt 1 = .ok (.iload_n 1, 1) := by decide +kernel
theorem dX8_sideAt_2 : decode cX8_sideAt 2 = .ok (.aload_n 0, 1) := by decide +kernel
theorem dX8_sideAt_3 : decode cX8_sideAt 3 = .ok (.getfield 7, 3) := by decide +kernel
theorem dX8_sideAt_6 : decode cX8_sideAt 6 = .ok (.iload_n 2, 1) := by decide +kernel
theorem dX8_sideAt_7 : decode cX8_sideAt 7 = .ok (.iaload, 1) := by decide +kernel
theorem dX8_sideAt_8 : decode cX8_sideAt 8 = .ok (.i2l, 1) := by decide +kernel
theorem dX8_sideAt_9 : decode cX8_sideAt 9 = .ok (.aload_n 0, 1) := by decide +kernel
theorem dX8_sideAt_10 : decode cX8_sideAt 10 = .ok (.getfield 13, 3) := by decide +kernel
theorem dX8_sideAt_13 : decode cX8_sideAt 13 = .ok (.iload_n 2, 1) := by decide +kernel
theorem dX8_sideAt_14 : decode cX8_sideAt 14 = .ok (.iaload, 1) := by decide +kernel
theorem dX8_sideAt_15 : decode cX8_sideAt 15 = .ok (.i2l, 1) := by decide +kernel
theorem dX8_sideAt_16 : decode cX8_sideAt 16 = .ok (.invokevirtual 153, 3) := by decide +kernel
theorem dX8_sideAt_19 : decode cX8_sideAt 19 = .ok (.lload 5, 2) := by decide +kernel
theorem dX8_sideAt_21 : decode cX8_sideAt 21 = .ok (.lmul, 1) := by decide +kernel
theorem dX8_sideAt_22 : decode cX8_sideAt 22 = .ok (.aload_n 0, 1) := by decide +kernel
theorem dX8_sideAt_23 : decode cX8_sideAt 23 = .ok (.iload_n 1, 1) := by decide +kernel
theorem dX8_sideAt_24 : decode cX8_sideAt 24 = .ok (.iload_n 2, 1) := by decide +kernel
theorem dX8_sideAt_25 : decode cX8_sideAt 25 = .ok (.invokevirtual 157, 3) := by decide +kernel
theorem dX8_sideAt_28 : decode cX8_sideAt 28 = .ok (.lload_n 3, 1) := by decide +kernel
theorem dX8_sideAt_29 : decode cX8_sideAt 29 = .ok (.lmul, 1) := by decide +kernel
theorem dX8_sideAt_30 : decode cX8_sideAt 30 = .ok (.ladd, 1) := by decide +kernel
theorem dX8_sideAt_31 : decode cX8_sideAt 31 = .ok (.lreturn, 1) := by decide +kernel
theorem dX8_does_0 : decode cX8_does 0 = .ok (.aload_n 0, 1) := by decide +kernel
theorem dX8_does_1 : decode cX8_does 1 = .ok (.iload_n 1, 1) := by decide +kernel
theorem dX8_does_2 : decode cX8_does 2 = .ok (.iload_n 2, 1) := by decide +kernel
theorem dX8_does_3 : decode cX8_does 3 = .ok (.lload_n 3, 1) := by decide +kernel
theorem dX8_does_4 : decode cX8_does 4 = .ok (.lload 5, 2) := by decide +kernel
theorem dX8_does_6 : decode cX8_does 6 = .ok (.invokevirtual 161, 3) := by decide +kernel
theorem dX8_does_9 : decode cX8_does 9 = .ok (.lstore 11, 2) := by decide +kernel
theorem dX8_does_11 : decode cX8_does 11 = .ok (.aload_n 0, 1) := by decide +kernel
theorem dX8_does_12 : decode cX8_does 12 = .ok (.iload_n 1, 1) := by decide +kernel
theorem dX8_does_13 : decode cX8_does 13 = .ok (.iload_n 2, 1) := by decide +kernel
theorem dX8_does_14 : decode cX8_does 14 = .ok (.lload 7, 2) := by decide +kernel
theorem dX8_does_16 : decode cX8_does 16 = .ok (.lload 9, 2) := by decide +kernel
theorem dX8_does_18 : decode cX8_does 18 = .ok (.invokevirtual 161, 3) := by decide +kernel
theorem dX8_does_21 : decode cX8_does 21 = .ok (.lstore 13, 2) := by decide +kernel
theorem dX8_does_23 : decode cX8_does 23 = .ok (.lload 11, 2) := by decide +kernel
theorem dX8_does_25 : decode cX8_does 25 = .ok (.lconst 0, 1) := by decide +kernel
theorem dX8_does_26 : decode cX8_does 26 = .ok (.lcmp, 1) := by decide +kernel
theorem dX8_does_27 : decode cX8_does 27 = .ok (.ifCond .ne 12, 3) := by decide +kernel
theorem dX8_does_30 : decode cX8_does 30 = .ok (.lload 13, 2) := by decide +kernel
theorem dX8_does_32 : decode cX8_does 32 = .ok (.lconst 0, 1) := by decide +kernel
theorem dX8_does_33 : decode cX8_does 33 = .ok (.lcmp, 1) := by decide +kernel
theorem dX8_does_34 : decode cX8_does 34 = .ok (.ifCond .ne 5, 3) := by decide +kernel
theorem dX8_does_37 : decode cX8_does 37 = .ok (.iconst 0, 1) := by decide +kernel
theorem dX8_does_38 : decode cX8_does 38 = .ok (.ireturn, 1) := by decide +kernel
theorem dX8_does_39 : decode cX8_does 39 = .ok (.lload 11, 2) := by decide +kernel
theorem dX8_does_41 : decode cX8_does 41 = .ok (.lconst 0, 1) := by decide +kernel
theorem dX8_does_42 : decode cX8_does 42 = .ok (.lcmp, 1) := by decide +kernel
theorem dX8_does_43 : decode cX8_does 43 = .ok (.ifCond .lt 12, 3) := by decide +kernel
theorem dX8_does_46 : decode cX8_does 46 = .ok (.lload 13, 2) := by decide +kernel
theorem dX8_does_48 : decode cX8_does 48 = .ok (.lconst 0, 1) := by decide +kernel
theorem dX8_does_49 : decode cX8_does 49 = .ok (.lcmp, 1) := by decide +kernel
theorem dX8_does_50 : decode cX8_does 50 = .ok (.ifCond .lt 5, 3) := by decide +kernel
theorem dX8_does_53 : decode cX8_does 53 = .ok (.iconst 1, 1) := by decide +kernel
theorem dX8_does_54 : decode cX8_does 54 = .ok (.ireturn, 1) := by decide +kernel
theorem dX8_does_55 : decode cX8_does 55 = .ok (.lload 11, 2) := by decide +kernel
theorem dX8_does_57 : decode cX8_does 57 = .ok (.lconst 0, 1) := by decide +kernel
theorem dX8_does_58 : decode cX8_does 58 = .ok (.lcmp, 1) := by decide +kernel
theorem dX8_does_59 : decode cX8_does 59 = .ok (.ifCond .gt 12, 3) := by decide +kernel
theorem dX8_does_62 : decode cX8_does 62 = .ok (.lload 13, 2) := by decide +kernel
theorem dX8_does_64 : decode cX8_does 64 = .ok (.lconst 0, 1) := by decide +kernel
theorem dX8_does_65 : decode cX8_does 65 = .ok (.lcmp, 1) := by decide +kernel
theorem dX8_does_66 : decode cX8_does 66 = .ok (.ifCond .gt 5, 3) := by decide +kernel
theorem dX8_does_69 : decode cX8_does 69 = .ok (.iconst 2, 1) := by decide +kernel
theorem dX8_does_70 : decode cX8_does 70 = .ok (.ireturn, 1) := by decide +kernel
theorem dX8_does_71 : decode cX8_does 71 = .ok (.lload 11, 2) := by decide +kernel
theorem dX8_does_73 : decode cX8_does 73 = .ok (.lconst 0, 1) := by decide +kernel
theorem dX8_does_74 : decode cX8_does 74 = .ok (.lcmp, 1) := by decide +kernel
theorem dX8_does_75 : decode cX8_does 75 = .ok (.ifCond .le 7, 3) := by decide +kernel
theorem dX8_does_78 : decode cX8_does 78 = .ok (.iconst 3, 1) := by decide +kernel
theorem dX8_does_79 : decode cX8_does 79 = .ok (.goto 4, 3) := by decide +kernel
theorem dX8_does_82 : decode cX8_does 82 = .ok (.iconst 4, 1) := by decide +kernel
theorem dX8_does_83 : decode cX8_does 83 = .ok (.ireturn, 1) := by decide +kernel
theorem dX8_rowDoes_0 : decode cX8_rowDoes 0 = .ok (.aload_n 0, 1) := by decide +kernel
theorem dX8_rowDoes_1 : decode cX8_rowDoes 1 = .ok (.iload_n 1, 1) := by decide +kernel
theorem dX8_rowDoes_2 : decode cX8_rowDoes 2 = .ok (.aload_n 0, 1) := by decide +kernel
theorem dX8_rowDoes_3 : decode cX8_rowDoes 3 = .ok (.getfield 22, 3) := by decide +kernel
theorem dX8_rowDoes_6 : decode cX8_rowDoes 6 = .ok (.iload_n 2, 1) := by decide +kernel
theorem dX8_rowDoes_7 : decode cX8_rowDoes 7 = .ok (.iaload, 1) := by decide +kernel
theorem dX8_rowDoes_8 : decode cX8_rowDoes 8 = .ok (.aload_n 0, 1) := by decide +kernel
theorem dX8_rowDoes_9 : decode cX8_rowDoes 9 = .ok (.getfield 25, 3) := by decide +kernel
theorem dX8_rowDoes_12 : decode cX8_rowDoes 12 = .ok (.iload_n 2, 1) := by decide +kernel
theorem dX8_rowDoes_13 : decode cX8_rowDoes 13 = .ok (.laload, 1) := by decide +kernel
theorem dX8_rowDoes_14 : decode cX8_rowDoes 14 = .ok (.aload_n 0, 1) := by decide +kernel
theorem dX8_rowDoes_15 : decode cX8_rowDoes 15 = .ok (.getfield 29, 3) := by decide +kernel
theorem dX8_rowDoes_18 : decode cX8_rowDoes 18 = .ok (.iload_n 2, 1) := by decide +kernel
theorem dX8_rowDoes_19 : decode cX8_rowDoes 19 = .ok (.laload, 1) := by decide +kernel
theorem dX8_rowDoes_20 : decode cX8_rowDoes 20 = .ok (.aload_n 0, 1) := by decide +kernel
theorem dX8_rowDoes_21 : decode cX8_rowDoes 21 = .ok (.getfield 32, 3) := by decide +kernel
theorem dX8_rowDoes_24 : decode cX8_rowDoes 24 = .ok (.iload_n 2, 1) := by decide +kernel
theorem dX8_rowDoes_25 : decode cX8_rowDoes 25 = .ok (.laload, 1) := by decide +kernel
theorem dX8_rowDoes_26 : decode cX8_rowDoes 26 = .ok (.aload_n 0, 1) := by decide +kernel
theorem dX8_rowDoes_27 : decode cX8_rowDoes 27 = .ok (.getfield 35, 3) := by decide +kernel
theorem dX8_rowDoes_30 : decode cX8_rowDoes 30 = .ok (.iload_n 2, 1) := by decide +kernel
theorem dX8_rowDoes_31 : decode cX8_rowDoes 31 = .ok (.laload, 1) := by decide +kernel
theorem dX8_rowDoes_32 : decode cX8_rowDoes 32 = .ok (.invokevirtual 165, 3) := by decide +kernel
theorem dX8_rowDoes_35 : decode cX8_rowDoes 35 = .ok (.ireturn, 1) := by decide +kernel
theorem dX8_chosen_0 : decode cX8_chosen 0 = .ok (.iload_n 1, 1) := by decide +kernel
theorem dX8_chosen_1 : decode cX8_chosen 1 = .ok (.ifCond .ne 5, 3) := by decide +kernel
theorem dX8_chosen_4 : decode cX8_chosen 4 = .ok (.iload_n 2, 1) := by decide +kernel
theorem dX8_chosen_5 : decode cX8_chosen 5 = .ok (.ireturn, 1) := by decide +kernel
theorem dX8_chosen_6 : decode cX8_chosen 6 = .ok (.iload_n 1, 1) := by decide +kernel
theorem dX8_chosen_7 : decode cX8_chosen 7 = .ok (.iconst 2, 1) := by decide +kernel
theorem dX8_chosen_8 : decode cX8_chosen 8 = .ok (.if_icmp .ne 36, 3) := by decide +kernel
theorem dX8_chosen_11 : decode cX8_chosen 11 = .ok (.aload_n 0, 1) := by decide +kernel
theorem dX8_chosen_12 : decode cX8_chosen 12 = .ok (.ldc 169, 2) := by decide +kernel
theorem dX8_chosen_14 : decode cX8_chosen 14 = .ok (.aload_n 0, 1) := by decide +kernel
theorem dX8_chosen_15 : decode cX8_chosen 15 = .ok (.getfield 170, 3) := by decide +kernel
theorem dX8_chosen_18 : decode cX8_chosen 18 = .ok (.imul, 1) := by decide +kernel
theorem dX8_chosen_19 : decode cX8_chosen 19 = .ok (.sipush 12345, 3) := by decide +kernel
theorem dX8_chosen_22 : decode cX8_chosen 22 = .ok (.iadd, 1) := by decide +kernel
theorem dX8_chosen_23 : decode cX8_chosen 23 = .ok (.putfield 170, 3) := by decide +kernel
theorem dX8_chosen_26 : decode cX8_chosen 26 = .ok (.iload_n 2, 1) := by decide +kernel
theorem dX8_chosen_27 : decode cX8_chosen 27 = .ok (.aload_n 0, 1) := by decide +kernel
theorem dX8_chosen_28 : decode cX8_chosen 28 = .ok (.getfield 170, 3) := by decide +kernel
theorem dX8_chosen_31 : decode cX8_chosen 31 = .ok (.bipush 16, 2) := by decide +kernel
theorem dX8_chosen_33 : decode cX8_chosen 33 = .ok (.ishr, 1) := by decide +kernel
theorem dX8_chosen_34 : decode cX8_chosen 34 = .ok (.sipush 32767, 3) := by decide +kernel
theorem dX8_chosen_37 : decode cX8_chosen 37 = .ok (.iand, 1) := by decide +kernel
theorem dX8_chosen_38 : decode cX8_chosen 38 = .ok (.iload_n 3, 1) := by decide +kernel
theorem dX8_chosen_39 : decode cX8_chosen 39 = .ok (.iload_n 2, 1) := by decide +kernel
theorem dX8_chosen_40 : decode cX8_chosen 40 = .ok (.isub, 1) := by decide +kernel
theorem dX8_chosen_41 : decode cX8_chosen 41 = .ok (.irem, 1) := by decide +kernel
theorem dX8_chosen_42 : decode cX8_chosen 42 = .ok (.iadd, 1) := by decide +kernel
theorem dX8_chosen_43 : decode cX8_chosen 43 = .ok (.ireturn, 1) := by decide +kernel
theorem dX8_chosen_44 : decode cX8_chosen 44 = .ok (.iconst (-1), 1) := by decide +kernel
theorem dX8_chosen_45 : decode cX8_chosen 45 = .ok (.istore 4, 2) := by decide +kernel
theorem dX8_chosen_47 : decode cX8_chosen 47 = .ok (.iconst 0, 1) := by decide +kernel
theorem dX8_chosen_48 : decode cX8_chosen 48 = .ok (.istore 5, 2) := by decide +kernel
theorem dX8_chosen_50 : decode cX8_chosen 50 = .ok (.iconst 0, 1) := by decide +kernel
theorem dX8_chosen_51 : decode cX8_chosen 51 = .ok (.istore 6, 2) := by decide +kernel
theorem dX8_chosen_53 : decode cX8_chosen 53 = .ok (.iload_n 2, 1) := by decide +kernel
theorem dX8_chosen_54 : decode cX8_chosen 54 = .ok (.istore 7, 2) := by decide +kernel
theorem dX8_chosen_56 : decode cX8_chosen 56 = .ok (.iload 7, 2) := by decide +kernel
theorem dX8_chosen_58 : decode cX8_chosen 58 = .ok (.iload_n 3, 1) := by decide +kernel
theorem dX8_chosen_59 : decode cX8_chosen 59 = .ok (.if_icmp .ge 149, 3) := by decide +kernel
theorem dX8_chosen_62 : decode cX8_chosen 62 = .ok (.iconst 0, 1) := by decide +kernel
theorem dX8_chosen_63 : decode cX8_chosen 63 = .ok (.istore 8, 2) := by decide +kernel
theorem dX8_chosen_65 : decode cX8_chosen 65 = .ok (.iconst 0, 1) := by decide +kernel
theorem dX8_chosen_66 : decode cX8_chosen 66 = .ok (.istore 9, 2) := by decide +kernel
theorem dX8_chosen_68 : decode cX8_chosen 68 = .ok (.iload_n 2, 1) := by decide +kernel
theorem dX8_chosen_69 : decode cX8_chosen 69 = .ok (.istore 10, 2) := by decide +kernel
theorem dX8_chosen_71 : decode cX8_chosen 71 = .ok (.iload 10, 2) := by decide +kernel
theorem dX8_chosen_73 : decode cX8_chosen 73 = .ok (.iload_n 3, 1) := by decide +kernel
theorem dX8_chosen_74 : decode cX8_chosen 74 = .ok (.if_icmp .ge 66, 3) := by decide +kernel
theorem dX8_chosen_77 : decode cX8_chosen 77 = .ok (.aload_n 0, 1) := by decide +kernel
theorem dX8_chosen_78 : decode cX8_chosen 78 = .ok (.aload_n 0, 1) := by decide +kernel
theorem dX8_chosen_79 : decode cX8_chosen 79 = .ok (.getfield 22, 3) := by decide +kernel
theorem dX8_chosen_82 : decode cX8_chosen 82 = .ok (.iload 7, 2) := by decide +kernel
theorem dX8_chosen_84 : decode cX8_chosen 84 = .ok (.iaload, 1) := by decide +kernel
theorem dX8_chosen_85 : decode cX8_chosen 85 = .ok (.iload 10, 2) := by decide +kernel
theorem dX8_chosen_87 : decode cX8_chosen 87 = .ok (.invokevirtual 173, 3) := by decide +kernel
theorem dX8_chosen_90 : decode cX8_chosen 90 = .ok (.istore 11, 2) := by decide +kernel
theorem dX8_chosen_92 : decode cX8_chosen 92 = .ok (.iload 8, 2) := by decide +kernel
theorem dX8_chosen_94 : decode cX8_chosen 94 = .ok (.iload 11, 2) := by decide +kernel
theorem dX8_chosen_96 : decode cX8_chosen 96 = .ok (.iconst 1, 1) := by decide +kernel
theorem dX8_chosen_97 : decode cX8_chosen 97 = .ok (.if_icmp .ne 7, 3) := by decide +kernel
theorem dX8_chosen_100 : decode cX8_chosen 100 = .ok (.iconst 1, 1) := by decide +kernel
theorem dX8_chosen_101 : decode cX8_chosen 101 = .ok (.goto 14, 3) := by decide +kernel
theorem dX8_chosen_104 : decode cX8_chosen 104 = .ok (.iload 11, 2) := by decide +kernel
theorem dX8_chosen_106 : decode cX8_chosen 106 = .ok (.iconst 2, 1) := by decide +kernel
theorem dX8_chosen_107 : decode cX8_chosen 107 = .ok (.if_icmp .ne 7, 3) := by decide +kernel
theorem dX8_chosen_110 : decode cX8_chosen 110 = .ok (.iconst (-1), 1) := by decide +kernel
theorem dX8_chosen_111 : decode cX8_chosen 111 = .ok (.goto 4, 3) := by decide +kernel
theorem dX8_chosen_114 : decode cX8_chosen 114 = .ok (.iconst 0, 1) := by decide +kernel
theorem dX8_chosen_115 : decode cX8_chosen 115 = .ok (.iadd, 1) := by decide +kernel
theorem dX8_chosen_116 : decode cX8_chosen 116 = .ok (.istore 8, 2) := by decide +kernel
theorem dX8_chosen_118 : decode cX8_chosen 118 = .ok (.iload 9, 2) := by decide +kernel
theorem dX8_chosen_120 : decode cX8_chosen 120 = .ok (.iload 11, 2) := by decide +kernel
theorem dX8_chosen_122 : decode cX8_chosen 122 = .ok (.iconst 2, 1) := by decide +kernel
theorem dX8_chosen_123 : decode cX8_chosen 123 = .ok (.if_icmp .le 7, 3) := by decide +kernel
theorem dX8_chosen_126 : decode cX8_chosen 126 = .ok (.iconst 1, 1) := by decide +kernel
theorem dX8_chosen_127 : decode cX8_chosen 127 = .ok (.goto 4, 3) := by decide +kernel
theorem dX8_chosen_130 : decode cX8_chosen 130 = .ok (.iconst 0, 1) := by decide +kernel
theorem dX8_chosen_131 : decode cX8_chosen 131 = .ok (.iadd, 1) := by decide +kernel
theorem dX8_chosen_132 : decode cX8_chosen 132 = .ok (.istore 9, 2) := by decide +kernel
theorem dX8_chosen_134 : decode cX8_chosen 134 = .ok (.iinc 10 1, 3) := by decide +kernel
theorem dX8_chosen_137 : decode cX8_chosen 137 = .ok (.goto (-66), 3) := by decide +kernel
theorem dX8_chosen_140 : decode cX8_chosen 140 = .ok (.iload_n 1, 1) := by decide +kernel
theorem dX8_chosen_141 : decode cX8_chosen 141 = .ok (.iconst 1, 1) := by decide +kernel
theorem dX8_chosen_142 : decode cX8_chosen 142 = .ok (.if_icmp .ne 7, 3) := by decide +kernel
theorem dX8_chosen_145 : decode cX8_chosen 145 = .ok (.iconst 0, 1) := by decide +kernel
theorem dX8_chosen_146 : decode cX8_chosen 146 = .ok (.goto 16, 3) := by decide +kernel
theorem dX8_chosen_149 : decode cX8_chosen 149 = .ok (.iload 8, 2) := by decide +kernel
theorem dX8_chosen_151 : decode cX8_chosen 151 = .ok (.ifCond .ge 9, 3) := by decide +kernel
theorem dX8_chosen_154 : decode cX8_chosen 154 = .ok (.iload 8, 2) := by decide +kernel
theorem dX8_chosen_156 : decode cX8_chosen 156 = .ok (.ineg, 1) := by decide +kernel
theorem dX8_chosen_157 : decode cX8_chosen 157 = .ok (.goto 5, 3) := by decide +kernel
theorem dX8_chosen_160 : decode cX8_chosen 160 = .ok (.iload 8, 2) := by decide +kernel
theorem dX8_chosen_162 : decode cX8_chosen 162 = .ok (.istore 8, 2) := by decide +kernel
theorem dX8_chosen_164 : decode cX8_chosen 164 = .ok (.iload 4, 2) := by decide +kernel
theorem dX8_chosen_166 : decode cX8_chosen 166 = .ok (.ifCond .lt 24, 3) := by decide +kernel
theorem dX8_chosen_169 : decode cX8_chosen 169 = .ok (.iload 8, 2) := by decide +kernel
theorem dX8_chosen_171 : decode cX8_chosen 171 = .ok (.iload 5, 2) := by decide +kernel
theorem dX8_chosen_173 : decode cX8_chosen 173 = .ok (.if_icmp .lt 17, 3) := by decide +kernel
theorem dX8_chosen_176 : decode cX8_chosen 176 = .ok (.iload 8, 2) := by decide +kernel
theorem dX8_chosen_178 : decode cX8_chosen 178 = .ok (.iload 5, 2) := by decide +kernel
theorem dX8_chosen_180 : decode cX8_chosen 180 = .ok (.if_icmp .ne 22, 3) := by decide +kernel
theorem dX8_chosen_183 : decode cX8_chosen 183 = .ok (.iload 9, 2) := by decide +kernel
theorem dX8_chosen_185 : decode cX8_chosen 185 = .ok (.iload 6, 2) := by decide +kernel
theorem dX8_chosen_187 : decode cX8_chosen 187 = .ok (.if_icmp .ge 15, 3) := by decide +kernel
theorem dX8_chosen_190 : decode cX8_chosen 190 = .ok (.iload 7, 2) := by decide +kernel
theorem dX8_chosen_192 : decode cX8_chosen 192 = .ok (.istore 4, 2) := by decide +kernel
theorem dX8_chosen_194 : decode cX8_chosen 194 = .ok (.iload 8, 2) := by decide +kernel
theorem dX8_chosen_196 : decode cX8_chosen 196 = .ok (.istore 5, 2) := by decide +kernel
theorem dX8_chosen_198 : decode cX8_chosen 198 = .ok (.iload 9, 2) := by decide +kernel
theorem dX8_chosen_200 : decode cX8_chosen 200 = .ok (.istore 6, 2) := by decide +kernel
theorem dX8_chosen_202 : decode cX8_chosen 202 = .ok (.iinc 7 1, 3) := by decide +kernel
theorem dX8_chosen_205 : decode cX8_chosen 205 = .ok (.goto (-149), 3) := by decide +kernel
theorem dX8_chosen_208 : decode cX8_chosen 208 = .ok (.iload 4, 2) := by decide +kernel
theorem dX8_chosen_210 : decode cX8_chosen 210 = .ok (.ireturn, 1) := by decide +kernel
theorem dX8_put_0 : decode cX8_put 0 = .ok (.aload_n 0, 1) := by decide +kernel
theorem dX8_put_1 : decode cX8_put 1 = .ok (.getfield 48, 3) := by decide +kernel
theorem dX8_put_4 : decode cX8_put 4 = .ok (.iload_n 1, 1) := by decide +kernel
theorem dX8_put_5 : decode cX8_put 5 = .ok (.iload_n 2, 1) := by decide +kernel
theorem dX8_put_6 : decode cX8_put 6 = .ok (.iastore, 1) := by decide +kernel
theorem dX8_put_7 : decode cX8_put 7 = .ok (.aload_n 0, 1) := by decide +kernel
theorem dX8_put_8 : decode cX8_put 8 = .ok (.getfield 51, 3) := by decide +kernel
theorem dX8_put_11 : decode cX8_put 11 = .ok (.iload_n 1, 1) := by decide +kernel
theorem dX8_put_12 : decode cX8_put 12 = .ok (.lload_n 3, 1) := by decide +kernel
theorem dX8_put_13 : decode cX8_put 13 = .ok (.lastore, 1) := by decide +kernel
theorem dX8_put_14 : decode cX8_put 14 = .ok (.aload_n 0, 1) := by decide +kernel
theorem dX8_put_15 : decode cX8_put 15 = .ok (.getfield 54, 3) := by decide +kernel
theorem dX8_put_18 : decode cX8_put 18 = .ok (.iload_n 1, 1) := by decide +kernel
theorem dX8_put_19 : decode cX8_put 19 = .ok (.lload 5, 2) := by decide +kernel
theorem dX8_put_21 : decode cX8_put 21 = .ok (.lastore, 1) := by decide +kernel
theorem dX8_put_22 : decode cX8_put 22 = .ok (.aload_n 0, 1) := by decide +kernel
theorem dX8_put_23 : decode cX8_put 23 = .ok (.getfield 57, 3) := by decide +kernel
theorem dX8_put_26 : decode cX8_put 26 = .ok (.iload_n 1, 1) := by decide +kernel
theorem dX8_put_27 : decode cX8_put 27 = .ok (.lload 7, 2) := by decide +kernel
theorem dX8_put_29 : decode cX8_put 29 = .ok (.lastore, 1) := by decide +kernel
theorem dX8_put_30 : decode cX8_put 30 = .ok (.aload_n 0, 1) := by decide +kernel
theorem dX8_put_31 : decode cX8_put 31 = .ok (.getfield 60, 3) := by decide +kernel
theorem dX8_put_34 : decode cX8_put 34 = .ok (.iload_n 1, 1) := by decide +kernel
theorem dX8_put_35 : decode cX8_put 35 = .ok (.lload 9, 2) := by decide +kernel
theorem dX8_put_37 : decode cX8_put 37 = .ok (.lastore, 1) := by decide +kernel
theorem dX8_put_38 : decode cX8_put 38 = .ok (.return_, 1) := by decide +kernel
theorem dX8_back_0 : decode cX8_back 0 = .ok (.aload_n 0, 1) := by decide +kernel
theorem dX8_back_1 : decode cX8_back 1 = .ok (.getfield 22, 3) := by decide +kernel
theorem dX8_back_4 : decode cX8_back 4 = .ok (.aload_n 0, 1) := by decide +kernel
theorem dX8_back_5 : decode cX8_back 5 = .ok (.getfield 177, 3) := by decide +kernel
theorem dX8_back_8 : decode cX8_back 8 = .ok (.aload_n 0, 1) := by decide +kernel
theorem dX8_back_9 : decode cX8_back 9 = .ok (.getfield 48, 3) := by decide +kernel
theorem dX8_back_12 : decode cX8_back 12 = .ok (.iload_n 1, 1) := by decide +kernel
theorem dX8_back_13 : decode cX8_back 13 = .ok (.iaload, 1) := by decide +kernel
theorem dX8_back_14 : decode cX8_back 14 = .ok (.iastore, 1) := by decide +kernel
theorem dX8_back_15 : decode cX8_back 15 = .ok (.aload_n 0, 1) := by decide +kernel
theorem dX8_back_16 : decode cX8_back 16 = .ok (.getfield 25, 3) := by decide +kernel
theorem dX8_back_19 : decode cX8_back 19 = .ok (.aload_n 0, 1) := by decide +kernel
theorem dX8_back_20 : decode cX8_back 20 = .ok (.getfield 177, 3) := by decide +kernel
theorem dX8_back_23 : decode cX8_back 23 = .ok (.aload_n 0, 1) := by decide +kernel
theorem dX8_back_24 : decode cX8_back 24 = .ok (.getfield 51, 3) := by decide +kernel
theorem dX8_back_27 : decode cX8_back 27 = .ok (.iload_n 1, 1) := by decide +kernel
theorem dX8_back_28 : decode cX8_back 28 = .ok (.laload, 1) := by decide +kernel
theorem dX8_back_29 : decode cX8_back 29 = .ok (.lastore, 1) := by decide +kernel
theorem dX8_back_30 : decode cX8_back 30 = .ok (.aload_n 0, 1) := by decide +kernel
theorem dX8_back_31 : decode cX8_back 31 = .ok (.getfield 29, 3) := by decide +kernel
theorem dX8_back_34 : decode cX8_back 34 = .ok (.aload_n 0, 1) := by decide +kernel
theorem dX8_back_35 : decode cX8_back 35 = .ok (.getfield 177, 3) := by decide +kernel
theorem dX8_back_38 : decode cX8_back 38 = .ok (.aload_n 0, 1) := by decide +kernel
theorem dX8_back_39 : decode cX8_back 39 = .ok (.getfield 54, 3) := by decide +kernel
theorem dX8_back_42 : decode cX8_back 42 = .ok (.iload_n 1, 1) := by decide +kernel
theorem dX8_back_43 : decode cX8_back 43 = .ok (.laload, 1) := by decide +kernel
theorem dX8_back_44 : decode cX8_back 44 = .ok (.lastore, 1) := by decide +kernel
theorem dX8_back_45 : decode cX8_back 45 = .ok (.aload_n 0, 1) := by decide +kernel
theorem dX8_back_46 : decode cX8_back 46 = .ok (.getfield 32, 3) := by decide +kernel
theorem dX8_back_49 : decode cX8_back 49 = .ok (.aload_n 0, 1) := by decide +kernel
theorem dX8_back_50 : decode cX8_back 50 = .ok (.getfield 177, 3) := by decide +kernel
theorem dX8_back_53 : decode cX8_back 53 = .ok (.aload_n 0, 1) := by decide +kernel
theorem dX8_back_54 : decode cX8_back 54 = .ok (.getfield 57, 3) := by decide +kernel
theorem dX8_back_57 : decode cX8_back 57 = .ok (.iload_n 1, 1) := by decide +kernel
theorem dX8_back_58 : decode cX8_back 58 = .ok (.laload, 1) := by decide +kernel
theorem dX8_back_59 : decode cX8_back 59 = .ok (.lastore, 1) := by decide +kernel
theorem dX8_back_60 : decode cX8_back 60 = .ok (.aload_n 0, 1) := by decide +kernel
theorem dX8_back_61 : decode cX8_back 61 = .ok (.getfield 35, 3) := by decide +kernel
theorem dX8_back_64 : decode cX8_back 64 = .ok (.aload_n 0, 1) := by decide +kernel
theorem dX8_back_65 : decode cX8_back 65 = .ok (.getfield 177, 3) := by decide +kernel
theorem dX8_back_68 : decode cX8_back 68 = .ok (.aload_n 0, 1) := by decide +kernel
theorem dX8_back_69 : decode cX8_back 69 = .ok (.getfield 60, 3) := by decide +kernel
theorem dX8_back_72 : decode cX8_back 72 = .ok (.iload_n 1, 1) := by decide +kernel
theorem dX8_back_73 : decode cX8_back 73 = .ok (.laload, 1) := by decide +kernel
theorem dX8_back_74 : decode cX8_back 74 = .ok (.lastore, 1) := by decide +kernel
theorem dX8_back_75 : decode cX8_back 75 = .ok (.aload_n 0, 1) := by decide +kernel
theorem dX8_back_76 : decode cX8_back 76 = .ok (.dup, 1) := by decide +kernel
theorem dX8_back_77 : decode cX8_back 77 = .ok (.getfield 177, 3) := by decide +kernel
theorem dX8_back_80 : decode cX8_back 80 = .ok (.iconst 1, 1) := by decide +kernel
theorem dX8_back_81 : decode cX8_back 81 = .ok (.iadd, 1) := by decide +kernel
theorem dX8_back_82 : decode cX8_back 82 = .ok (.putfield 177, 3) := by decide +kernel
theorem dX8_back_85 : decode cX8_back 85 = .ok (.return_, 1) := by decide +kernel
theorem dX8_waitsNow_0 : decode cX8_waitsNow 0 = .ok (.aload_n 0, 1) := by decide +kernel
theorem dX8_waitsNow_1 : decode cX8_waitsNow 1 = .ok (.getfield 38, 3) := by decide +kernel
theorem dX8_waitsNow_4 : decode cX8_waitsNow 4 = .ok (.aload_n 0, 1) := by decide +kernel
theorem dX8_waitsNow_5 : decode cX8_waitsNow 5 = .ok (.getfield 180, 3) := by decide +kernel
theorem dX8_waitsNow_8 : decode cX8_waitsNow 8 = .ok (.aload_n 0, 1) := by decide +kernel
theorem dX8_waitsNow_9 : decode cX8_waitsNow 9 = .ok (.getfield 177, 3) := by decide +kernel
theorem dX8_waitsNow_12 : decode cX8_waitsNow 12 = .ok (.iastore, 1) := by decide +kernel
theorem dX8_waitsNow_13 : decode cX8_waitsNow 13 = .ok (.aload_n 0, 1) := by decide +kernel
theorem dX8_waitsNow_14 : decode cX8_waitsNow 14 = .ok (.getfield 41, 3) := by decide +kernel
theorem dX8_waitsNow_17 : decode cX8_waitsNow 17 = .ok (.aload_n 0, 1) := by decide +kernel
theorem dX8_waitsNow_18 : decode cX8_waitsNow 18 = .ok (.getfield 180, 3) := by decide +kernel
theorem dX8_waitsNow_21 : decode cX8_waitsNow 21 = .ok (.iload_n 1, 1) := by decide +kernel
theorem dX8_waitsNow_22 : decode cX8_waitsNow 22 = .ok (.iastore, 1) := by decide +kernel
theorem dX8_waitsNow_23 : decode cX8_waitsNow 23 = .ok (.aload_n 0, 1) := by decide +kernel
theorem dX8_waitsNow_24 : decode cX8_waitsNow 24 = .ok (.getfield 44, 3) := by decide +kernel
theorem dX8_waitsNow_27 : decode cX8_waitsNow 27 = .ok (.aload_n 0, 1) := by decide +kernel
theorem dX8_waitsNow_28 : decode cX8_waitsNow 28 = .ok (.getfield 180, 3) := by decide +kernel
theorem dX8_waitsNow_31 : decode cX8_waitsNow 31 = .ok (.iload_n 2, 1) := by decide +kernel
theorem dX8_waitsNow_32 : decode cX8_waitsNow 32 = .ok (.bastore, 1) := by decide +kernel
theorem dX8_waitsNow_33 : decode cX8_waitsNow 33 = .ok (.aload_n 0, 1) := by decide +kernel
theorem dX8_waitsNow_34 : decode cX8_waitsNow 34 = .ok (.dup, 1) := by decide +kernel
theorem dX8_waitsNow_35 : decode cX8_waitsNow 35 = .ok (.getfield 180, 3) := by decide +kernel
theorem dX8_waitsNow_38 : decode cX8_waitsNow 38 = .ok (.iconst 1, 1) := by decide +kernel
theorem dX8_waitsNow_39 : decode cX8_waitsNow 39 = .ok (.iadd, 1) := by decide +kernel
theorem dX8_waitsNow_40 : decode cX8_waitsNow 40 = .ok (.putfield 180, 3) := by decide +kernel
theorem dX8_waitsNow_43 : decode cX8_waitsNow 43 = .ok (.return_, 1) := by decide +kernel
theorem dX8_grow_0 : decode cX8_grow 0 = .ok (.aload_n 0, 1) := by decide +kernel
theorem dX8_grow_1 : decode cX8_grow 1 = .ok (.iconst 0, 1) := by decide +kernel
theorem dX8_grow_2 : decode cX8_grow 2 = .ok (.putfield 177, 3) := by decide +kernel
theorem dX8_grow_5 : decode cX8_grow 5 = .ok (.aload_n 0, 1) := by decide +kernel
theorem dX8_grow_6 : decode cX8_grow 6 = .ok (.iconst 0, 1) := by decide +kernel
theorem dX8_grow_7 : decode cX8_grow 7 = .ok (.putfield 180, 3) := by decide +kernel
theorem dX8_grow_10 : decode cX8_grow 10 = .ok (.aload_n 0, 1) := by decide +kernel
theorem dX8_grow_11 : decode cX8_grow 11 = .ok (.iconst 0, 1) := by decide +kernel
theorem dX8_grow_12 : decode cX8_grow 12 = .ok (.putfield 183, 3) := by decide +kernel
theorem dX8_grow_15 : decode cX8_grow 15 = .ok (.aload_n 0, 1) := by decide +kernel
theorem dX8_grow_16 : decode cX8_grow 16 = .ok (.iconst (-1), 1) := by decide +kernel
theorem dX8_grow_17 : decode cX8_grow 17 = .ok (.iconst 0, 1) := by decide +kernel
theorem dX8_grow_18 : decode cX8_grow 18 = .ok (.invokevirtual 186, 3) := by decide +kernel
theorem dX8_grow_21 : decode cX8_grow 21 = .ok (.iconst 0, 1) := by decide +kernel
theorem dX8_grow_22 : decode cX8_grow 22 = .ok (.istore_n 3, 1) := by decide +kernel
theorem dX8_grow_23 : decode cX8_grow 23 = .ok (.iload_n 3, 1) := by decide +kernel
theorem dX8_grow_24 : decode cX8_grow 24 = .ok (.aload_n 0, 1) := by decide +kernel
theorem dX8_grow_25 : decode cX8_grow 25 = .ok (.getfield 127, 3) := by decide +kernel
theorem dX8_grow_28 : decode cX8_grow 28 = .ok (.if_icmp .ge 29, 3) := by decide +kernel
theorem dX8_grow_31 : decode cX8_grow 31 = .ok (.aload_n 0, 1) := by decide +kernel
theorem dX8_grow_32 : decode cX8_grow 32 = .ok (.iconst 0, 1) := by decide +kernel
theorem dX8_grow_33 : decode cX8_grow 33 = .ok (.aload_n 0, 1) := by decide +kernel
theorem dX8_grow_34 : decode cX8_grow 34 = .ok (.getfield 99, 3) := by decide +kernel
theorem dX8_grow_37 : decode cX8_grow 37 = .ok (.iload_n 3, 1) := by decide +kernel
theorem dX8_grow_38 : decode cX8_grow 38 = .ok (.iaload, 1) := by decide +kernel
theorem dX8_grow_39 : decode cX8_grow 39 = .ok (.lconst 0, 1) := by decide +kernel
theorem dX8_grow_40 : decode cX8_grow 40 = .ok (.lconst 1, 1) := by decide +kernel
theorem dX8_grow_41 : decode cX8_grow 41 = .ok (.lconst 1, 1) := by decide +kernel
theorem dX8_grow_42 : decode cX8_grow 42 = .ok (.lconst 1, 1) := by decide +kernel
theorem dX8_grow_43 : decode cX8_grow 43 = .ok (.invokevirtual 190, 3) := by decide +kernel
theorem dX8_grow_46 : decode cX8_grow 46 = .ok (.aload_n 0, 1) := by decide +kernel
theorem dX8_grow_47 : decode cX8_grow 47 = .ok (.iconst 0, 1) := by decide +kernel
theorem dX8_grow_48 : decode cX8_grow 48 = .ok (.invokevirtual 194, 3) := by decide +kernel
theorem dX8_grow_51 : decode cX8_grow 51 = .ok (.iinc 3 1, 3) := by decide +kernel
theorem dX8_grow_54 : decode cX8_grow 54 = .ok (.goto (-31), 3) := by decide +kernel
theorem dX8_grow_57 : decode cX8_grow 57 = .ok (.aload_n 0, 1) := by decide +kernel
theorem dX8_grow_58 : decode cX8_grow 58 = .ok (.getfield 180, 3) := by decide +kernel
theorem dX8_grow_61 : decode cX8_grow 61 = .ok (.ifCond .le 607, 3) := by decide +kernel
theorem dX8_grow_64 : decode cX8_grow 64 = .ok (.aload_n 0, 1) := by decide +kernel
theorem dX8_grow_65 : decode cX8_grow 65 = .ok (.dup, 1) := by decide +kernel
theorem dX8_grow_66 : decode cX8_grow 66 = .ok (.getfield 180, 3) := by decide +kernel
theorem dX8_grow_69 : decode cX8_grow 69 = .ok (.iconst 1, 1) := by decide +kernel
theorem dX8_grow_70 : decode cX8_grow 70 = .ok (.isub, 1) := by decide +kernel
theorem dX8_grow_71 : decode cX8_grow 71 = .ok (.putfield 180, 3) := by decide +kernel
theorem dX8_grow_74 : decode cX8_grow 74 = .ok (.aload_n 0, 1) := by decide +kernel
theorem dX8_grow_75 : decode cX8_grow 75 = .ok (.getfield 38, 3) := by decide +kernel
theorem dX8_grow_78 : decode cX8_grow 78 = .ok (.aload_n 0, 1) := by decide +kernel
theorem dX8_grow_79 : decode cX8_grow 79 = .ok (.getfield 180, 3) := by decide +kernel
theorem dX8_grow_82 : decode cX8_grow 82 = .ok (.iaload, 1) := by decide +kernel
theorem dX8_grow_83 : decode cX8_grow 83 = .ok (.istore_n 3, 1) := by decide +kernel
theorem dX8_grow_84 : decode cX8_grow 84 = .ok (.aload_n 0, 1) := by decide +kernel
theorem dX8_grow_85 : decode cX8_grow 85 = .ok (.getfield 41, 3) := by decide +kernel
theorem dX8_grow_88 : decode cX8_grow 88 = .ok (.aload_n 0, 1) := by decide +kernel
theorem dX8_grow_89 : decode cX8_grow 89 = .ok (.getfield 180, 3) := by decide +kernel
theorem dX8_grow_92 : decode cX8_grow 92 = .ok (.iaload, 1) := by decide +kernel
theorem dX8_grow_93 : decode cX8_grow 93 = .ok (.istore 4, 2) := by decide +kernel
theorem dX8_grow_95 : decode cX8_grow 95 = .ok (.iconst (-1), 1) := by decide +kernel
theorem dX8_grow_96 : decode cX8_grow 96 = .ok (.istore 5, 2) := by decide +kernel
theorem dX8_grow_98 : decode cX8_grow 98 = .ok (.iload_n 3, 1) := by decide +kernel
theorem dX8_grow_99 : decode cX8_grow 99 = .ok (.aload_n 0, 1) := by decide +kernel
theorem dX8_grow_100 : decode cX8_grow 100 = .ok (.getfield 177, 3) := by decide +kernel
theorem dX8_grow_103 : decode cX8_grow 103 = .ok (.if_icmp .ne 29, 3) := by decide +kernel
theorem dX8_grow_106 : decode cX8_grow 106 = .ok (.iload_n 2, 1) := by decide +kernel
theorem dX8_grow_107 : decode cX8_grow 107 = .ok (.ifCond .eq 45, 3) := by decide +kernel
theorem dX8_grow_110 : decode cX8_grow 110 = .ok (.bipush (-2), 2) := by decide +kernel
theorem dX8_grow_112 : decode cX8_grow 112 = .ok (.aload_n 0, 1) := by decide +kernel
theorem dX8_grow_113 : decode cX8_grow 113 = .ok (.getfield 144, 3) := by decide +kernel
theorem dX8_grow_116 : decode cX8_grow 116 = .ok (.isub, 1) := by decide +kernel
theorem dX8_grow_117 : decode cX8_grow 117 = .ok (.istore 5, 2) := by decide +kernel
theorem dX8_grow_119 : decode cX8_grow 119 = .ok (.aload_n 0, 1) := by decide +kernel
theorem dX8_grow_120 : decode cX8_grow 120 = .ok (.dup, 1) := by decide +kernel
theorem dX8_grow_121 : decode cX8_grow 121 = .ok (.getfield 144, 3) := by decide +kernel
theorem dX8_grow_124 : decode cX8_grow 124 = .ok (.iconst 1, 1) := by decide +kernel
theorem dX8_grow_125 : decode cX8_grow 125 = .ok (.iadd, 1) := by decide +kernel
theorem dX8_grow_126 : decode cX8_grow 126 = .ok (.putfield 144, 3) := by decide +kernel
theorem dX8_grow_129 : decode cX8_grow 129 = .ok (.goto 23, 3) := by decide +kernel
theorem dX8_grow_132 : decode cX8_grow 132 = .ok (.iload_n 2, 1) := by decide +kernel
theorem dX8_grow_133 : decode cX8_grow 133 = .ok (.ifCond .eq 19, 3) := by decide +kernel
theorem dX8_grow_136 : decode cX8_grow 136 = .ok (.aload_n 0, 1) := by decide +kernel
theorem dX8_grow_137 : decode cX8_grow 137 = .ok (.getfield 141, 3) := by decide +kernel
theorem dX8_grow_140 : decode cX8_grow 140 = .ok (.istore 5, 2) := by decide +kernel
theorem dX8_grow_142 : decode cX8_grow 142 = .ok (.aload_n 0, 1) := by decide +kernel
theorem dX8_grow_143 : decode cX8_grow 143 = .ok (.dup, 1) := by decide +kernel
theorem dX8_grow_144 : decode cX8_grow 144 = .ok (.getfield 141, 3) := by decide +kernel
theorem dX8_grow_147 : decode cX8_grow 147 = .ok (.iconst 1, 1) := by decide +kernel
theorem dX8_grow_148 : decode cX8_grow 148 = .ok (.iadd, 1) := by decide +kernel
theorem dX8_grow_149 : decode cX8_grow 149 = .ok (.putfield 141, 3) := by decide +kernel
theorem dX8_grow_152 : decode cX8_grow 152 = .ok (.iload_n 2, 1) := by decide +kernel
theorem dX8_grow_153 : decode cX8_grow 153 = .ok (.ifCond .eq 32, 3) := by decide +kernel
theorem dX8_grow_156 : decode cX8_grow 156 = .ok (.iload 4, 2) := by decide +kernel
