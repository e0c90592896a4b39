theorem dX0_init_0 : decode cX0_init 0 = .ok (.aload_n 0, 1) := by decide +kernel
theorem dX0_init_1 : decode cX0_init 1 = .ok (.invokespecial 3, 3) := by decide +kernel
theorem dX0_init_4 : decode cX0_init 4 = .ok (.aload_n 0, 1) := by decide +kernel
theorem dX0_init_5 : decode cX0_init 5 = .ok (.new 9, 3) := by decide +kernel
theorem dX0_init_8 : decode cX0_init 8 = .ok (.dup, 1) := by decide +kernel
theorem dX0_init_9 : decode cX0_init 9 = .ok (.bipush 60, 2) := by decide +kernel
theorem dX0_init_11 : decode cX0_init 11 = .ok (.invokespecial 11, 3) := by decide +kernel
theorem dX0_init_14 : decode cX0_init 14 = .ok (.putfield 14, 3) := by decide +kernel
theorem dX0_init_17 : decode cX0_init 17 = .ok (.aload_n 0, 1) := by decide +kernel
theorem dX0_init_18 : decode cX0_init 18 = .ok (.new 9, 3) := by decide +kernel
theorem dX0_init_21 : decode cX0_init 21 = .ok (.dup, 1) := by decide +kernel
theorem dX0_init_22 : decode cX0_init 22 = .ok (.bipush 60, 2) := by decide +kernel
theorem dX0_init_24 : decode cX0_init 24 = .ok (.invokespecial 11, 3) := by decide +kernel
theorem dX0_init_27 : decode cX0_init 27 = .ok (.putfield 20, 3) := by decide +kernel
theorem dX0_init_30 : decode cX0_init 30 = .ok (.aload_n 0, 1) := by decide +kernel
theorem dX0_init_31 : decode cX0_init 31 = .ok (.new 9, 3) := by decide +kernel
theorem dX0_init_34 : decode cX0_init 34 = .ok (.dup, 1) := by decide +kernel
theorem dX0_init_35 : decode cX0_init 35 = .ok (.bipush 60, 2) := by decide +kernel
theorem dX0_init_37 : decode cX0_init 37 = .ok (.invokespecial 11, 3) := by decide +kernel
theorem dX0_init_40 : decode cX0_init 40 = .ok (.putfield 23, 3) := by decide +kernel
theorem dX0_init_43 : decode cX0_init 43 = .ok (.aload_n 0, 1) := by decide +kernel
theorem dX0_init_44 : decode cX0_init 44 = .ok (.new 9, 3) := by decide +kernel
theorem dX0_init_47 : decode cX0_init 47 = .ok (.dup, 1) := by decide +kernel
theorem dX0_init_48 : decode cX0_init 48 = .ok (.bipush 60, 2) := by decide +kernel
theorem dX0_init_50 : decode cX0_init 50 = .ok (.invokespecial 11, 3) := by decide +kernel
theorem dX0_init_53 : decode cX0_init 53 = .ok (.putfield 26, 3) := by decide +kernel
theorem dX0_init_56 : decode cX0_init 56 = .ok (.aload_n 0, 1) := by decide +kernel
theorem dX0_init_57 : decode cX0_init 57 = .ok (.new 9, 3) := by decide +kernel
theorem dX0_init_60 : decode cX0_init 60 = .ok (.dup, 1) := by decide +kernel
theorem dX0_init_61 : decode cX0_init 61 = .ok (.bipush 60, 2) := by decide +kernel
theorem dX0_init_63 : decode cX0_init 63 = .ok (.invokespecial 11, 3) := by decide +kernel
theorem dX0_init_66 : decode cX0_init 66 = .ok (.putfield 29, 3) := by decide +kernel
theorem dX0_init_69 : decode cX0_init 69 = .ok (.aload_n 0, 1) := by decide +kernel
theorem dX0_init_70 : decode cX0_init 70 = .ok (.new 9, 3) := by decide +kernel
theorem dX0_init_73 : decode cX0_init 73 = .ok (.dup, 1) := by decide +kernel
theorem dX0_init_74 : decode cX0_init 74 = .ok (.bipush 60, 2) := by decide +kernel
theorem dX0_init_76 : decode cX0_init 76 = .ok (.invokespecial 11, 3) := by decide +kernel
theorem dX0_init_79 : decode cX0_init 79 = .ok (.putfield 32, 3) := by decide +kernel
theorem dX0_init_82 : decode cX0_init 82 = .ok (.aload_n 0, 1) := by decide +kernel
theorem dX0_init_83 : decode cX0_init 83 = .ok (.new 35, 3) := by decide +kernel
theorem dX0_init_86 : decode cX0_init 86 = .ok (.dup, 1) := by decide +kernel
theorem dX0_init_87 : decode cX0_init 87 = .ok (.bipush 60, 2) := by decide +kernel
theorem dX0_init_89 : decode cX0_init 89 = .ok (.invokespecial 37, 3) := by decide +kernel
theorem dX0_init_92 : decode cX0_init 92 = .ok (.putfield 38, 3) := by decide +kernel
theorem dX0_init_95 : decode cX0_init 95 = .ok (.aload_n 0, 1) := by decide +kernel
theorem dX0_init_96 : decode cX0_init 96 = .ok (.new 9, 3) := by decide +kernel
theorem dX0_init_99 : decode cX0_init 99 = .ok (.dup, 1) := by decide +kernel
theorem dX0_init_100 : decode cX0_init 100 = .ok (.bipush 60, 2) := by decide +kernel
theorem dX0_init_102 : decode cX0_init 102 = .ok (.invokespecial 11, 3) := by decide +kernel
theorem dX0_init_105 : decode cX0_init 105 = .ok (.putfield 42, 3) := by decide +kernel
theorem dX0_init_108 : decode cX0_init 108 = .ok (.aload_n 0, 1) := by decide +kernel
theorem dX0_init_109 : decode cX0_init 109 = .ok (.new 9, 3) := by decide +kernel
theorem dX0_init_112 : decode cX0_init 112 = .ok (.dup, 1) := by decide +kernel
theorem dX0_init_113 : decode cX0_init 113 = .ok (.bipush 60, 2) := by decide +kernel
theorem dX0_init_115 : decode cX0_init 115 = .ok (.invokespecial 11, 3) := by decide +kernel
theorem dX0_init_118 : decode cX0_init 118 = .ok (.putfield 45, 3) := by decide +kernel
theorem dX0_init_121 : decode cX0_init 121 = .ok (.return_, 1) := by decide +kernel
theorem dX0_clear_0 : decode cX0_clear 0 = .ok (.aload_n 0, 1) := by decide +kernel
theorem dX0_clear_1 : decode cX0_clear 1 = .ok (.iconst 0, 1) := by decide +kernel
theorem dX0_clear_2 : decode cX0_clear 2 = .ok (.putfield 48, 3) := by decide +kernel
theorem dX0_clear_5 : decode cX0_clear 5 = .ok (.return_, 1) := by decide +kernel
theorem dX0_has_0 : decode cX0_has 0 = .ok (.iload_n 1, 1) := by decide +kernel
theorem dX0_has_1 : decode cX0_has 1 = .ok (.ifCond .lt 15, 3) := by decide +kernel
theorem dX0_has_4 : decode cX0_has 4 = .ok (.iload_n 1, 1) := by decide +kernel
theorem dX0_has_5 : decode cX0_has 5 = .ok (.aload_n 0, 1) := by decide +kernel
theorem dX0_has_6 : decode cX0_has 6 = .ok (.getfield 48, 3) := by decide +kernel
theorem dX0_has_9 : decode cX0_has 9 = .ok (.if_icmp .ge 7, 3) := by decide +kernel
theorem dX0_has_12 : decode cX0_has 12 = .ok (.iconst 1, 1) := by decide +kernel
theorem dX0_has_13 : decode cX0_has 13 = .ok (.goto 4, 3) := by decide +kernel
theorem dX0_has_16 : decode cX0_has 16 = .ok (.iconst 0, 1) := by decide +kernel
theorem dX0_has_17 : decode cX0_has 17 = .ok (.ireturn, 1) := by decide +kernel
theorem dX0_isLeaf_0 : decode cX0_isLeaf 0 = .ok (.aload_n 0, 1) := by decide +kernel
theorem dX0_isLeaf_1 : decode cX0_isLeaf 1 = .ok (.iload_n 1, 1) := by decide +kernel
theorem dX0_isLeaf_2 : decode cX0_isLeaf 2 = .ok (.invokevirtual 52, 3) := by decide +kernel
theorem dX0_isLeaf_5 : decode cX0_isLeaf 5 = .ok (.ifCond .eq 18, 3) := by decide +kernel
theorem dX0_isLeaf_8 : decode cX0_isLeaf 8 = .ok (.aload_n 0, 1) := by decide +kernel
theorem dX0_isLeaf_9 : decode cX0_isLeaf 9 = .ok (.getfield 42, 3) := by decide +kernel
theorem dX0_isLeaf_12 : decode cX0_isLeaf 12 = .ok (.iload_n 1, 1) := by decide +kernel
theorem dX0_isLeaf_13 : decode cX0_isLeaf 13 = .ok (.invokevirtual 56, 3) := by decide +kernel
theorem dX0_isLeaf_16 : decode cX0_isLeaf 16 = .ok (.ifCond .ne 7, 3) := by decide +kernel
theorem dX0_isLeaf_19 : decode cX0_isLeaf 19 = .ok (.iconst 1, 1) := by decide +kernel
theorem dX0_isLeaf_20 : decode cX0_isLeaf 20 = .ok (.goto 4, 3) := by decide +kernel
theorem dX0_isLeaf_23 : decode cX0_isLeaf 23 = .ok (.iconst 0, 1) := by decide +kernel
theorem dX0_isLeaf_24 : decode cX0_isLeaf 24 = .ok (.ireturn, 1) := by decide +kernel
theorem dX0_isShut_0 : decode cX0_isShut 0 = .ok (.aload_n 0, 1) := by decide +kernel
theorem dX0_isShut_1 : decode cX0_isShut 1 = .ok (.getfield 45, 3) := by decide +kernel
theorem dX0_isShut_4 : decode cX0_isShut 4 = .ok (.iload_n 1, 1) := by decide +kernel
theorem dX0_isShut_5 : decode cX0_isShut 5 = .ok (.invokevirtual 56, 3) := by decide +kernel
theorem dX0_isShut_8 : decode cX0_isShut 8 = .ok (.iconst 1, 1) := by decide +kernel
theorem dX0_isShut_9 : decode cX0_isShut 9 = .ok (.if_icmp .ne 7, 3) := by decide +kernel
theorem dX0_isShut_12 : decode cX0_isShut 12 = .ok (.iconst 1, 1) := by decide +kernel
theorem dX0_isShut_13 : decode cX0_isShut 13 = .ok (.goto 4, 3) := by decide +kernel
theorem dX0_isShut_16 : decode cX0_isShut 16 = .ok (.iconst 0, 1) := by decide +kernel
theorem dX0_isShut_17 : decode cX0_isShut 17 = .ok (.ireturn, 1) := by decide +kernel
theorem dX0_setShut_0 : decode cX0_setShut 0 = .ok (.aload_n 0, 1) := by decide +kernel
theorem dX0_setShut_1 : decode cX0_setShut 1 = .ok (.getfield 45, 3) := by decide +kernel
theorem dX0_setShut_4 : decode cX0_setShut 4 = .ok (.iload_n 1, 1) := by decide +kernel
theorem dX0_setShut_5 : decode cX0_setShut 5 = .ok (.iload_n 2, 1) := by decide +kernel
theorem dX0_setShut_6 : decode cX0_setShut 6 = .ok (.ifCond .eq 7, 3) := by decide +kernel
theorem dX0_setShut_9 : decode cX0_setShut 9 = .ok (.iconst 1, 1) := by decide +kernel
theorem dX0_setShut_10 : decode cX0_setShut 10 = .ok (.goto 4, 3) := by decide +kernel
theorem dX0_setShut_13 : decode cX0_setShut 13 = .ok (.iconst 0, 1) := by decide +kernel
theorem dX0_setShut_14 : decode cX0_setShut 14 = .ok (.invokevirtual 60, 3) := by decide +kernel
theorem dX0_setShut_17 : decode cX0_setShut 17 = .ok (.return_, 1) := by decide +kernel
theorem dX0_takesChild_0 : decode cX0_takesChild 0 = .ok (.aload_n 0, 1) := by decide +kernel
theorem dX0_takesChild_1 : decode cX0_takesChild 1 = .ok (.getfield 42, 3) := by decide +kernel
theorem dX0_takesChild_4 : decode cX0_takesChild 4 = .ok (.iload_n 1, 1) := by decide +kernel
theorem dX0_takesChild_5 : decode cX0_takesChild 5 = .ok (.invokevirtual 56, 3) := by decide +kernel
theorem dX0_takesChild_8 : decode cX0_takesChild 8 = .ok (.iconst 1, 1) := by decide +kernel
theorem dX0_takesChild_9 : decode cX0_takesChild 9 = .ok (.if_icmp .ne 31, 3) := by decide +kernel
theorem dX0_takesChild_12 : decode cX0_takesChild 12 = .ok (.aload_n 0, 1) := by decide +kernel
theorem dX0_takesChild_13 : decode cX0_takesChild 13 = .ok (.getfield 20, 3) := by decide +kernel
theorem dX0_takesChild_16 : decode cX0_takesChild 16 = .ok (.iload_n 1, 1) := by decide +kernel
theorem dX0_takesChild_17 : decode cX0_takesChild 17 = .ok (.invokevirtual 56, 3) := by decide +kernel
theorem dX0_takesChild_20 : decode cX0_takesChild 20 = .ok (.iload_n 2, 1) := by decide +kernel
theorem dX0_takesChild_21 : decode cX0_takesChild 21 = .ok (.if_icmp .ne 19, 3) := by decide +kernel
theorem dX0_takesChild_24 : decode cX0_takesChild 24 = .ok (.aload_n 0, 1) := by decide +kernel
theorem dX0_takesChild_25 : decode cX0_takesChild 25 = .ok (.getfield 26, 3) := by decide +kernel
theorem dX0_takesChild_28 : decode cX0_takesChild 28 = .ok (.iload_n 1, 1) := by decide +kernel
theorem dX0_takesChild_29 : decode cX0_takesChild 29 = .ok (.invokevirtual 56, 3) := by decide +kernel
theorem dX0_takesChild_32 : decode cX0_takesChild 32 = .ok (.iconst 5, 1) := by decide +kernel
theorem dX0_takesChild_33 : decode cX0_takesChild 33 = .ok (.if_icmp .ge 7, 3) := by decide +kernel
theorem dX0_takesChild_36 : decode cX0_takesChild 36 = .ok (.iconst 1, 1) := by decide +kernel
theorem dX0_takesChild_37 : decode cX0_takesChild 37 = .ok (.goto 4, 3) := by decide +kernel
theorem dX0_takesChild_40 : decode cX0_takesChild 40 = .ok (.iconst 0, 1) := by decide +kernel
theorem dX0_takesChild_41 : decode cX0_takesChild 41 = .ok (.ireturn, 1) := by decide +kernel
theorem dX0_hasCode_0 : decode cX0_hasCode 0 = .ok (.iconst 0, 1) := by decide +kernel
theorem dX0_hasCode_1 : decode cX0_hasCode 1 = .ok (.istore_n 2, 1) := by decide +kernel
theorem dX0_hasCode_2 : decode cX0_hasCode 2 = .ok (.iload_n 2, 1) := by decide +kernel
theorem dX0_hasCode_3 : decode cX0_hasCode 3 = .ok (.aload_n 0, 1) := by decide +kernel
theorem dX0_hasCode_4 : decode cX0_hasCode 4 = .ok (.getfield 48, 3) := by decide +kernel
theorem dX0_hasCode_7 : decode cX0_hasCode 7 = .ok (.if_icmp .ge 23, 3) := by decide +kernel
theorem dX0_hasCode_10 : decode cX0_hasCode 10 = .ok (.aload_n 0, 1) := by decide +kernel
theorem dX0_hasCode_11 : decode cX0_hasCode 11 = .ok (.getfield 14, 3) := by decide +kernel
theorem dX0_hasCode_14 : decode cX0_hasCode 14 = .ok (.iload_n 2, 1) := by decide +kernel
theorem dX0_hasCode_15 : decode cX0_hasCode 15 = .ok (.invokevirtual 56, 3) := by decide +kernel
theorem dX0_hasCode_18 : decode cX0_hasCode 18 = .ok (.iload_n 1, 1) := by decide +kernel
theorem dX0_hasCode_19 : decode cX0_hasCode 19 = .ok (.if_icmp .ne 5, 3) := by decide +kernel
theorem dX0_hasCode_22 : decode cX0_hasCode 22 = .ok (.iconst 1, 1) := by decide +kernel
theorem dX0_hasCode_23 : decode cX0_hasCode 23 = .ok (.ireturn, 1) := by decide +kernel
theorem dX0_hasCode_24 : decode cX0_hasCode 24 = .ok (.iinc 2 1, 3) := by decide +kernel
theorem dX0_hasCode_27 : decode cX0_hasCode 27 = .ok (.goto (-25), 3) := by decide +kernel
theorem dX0_hasCode_30 : decode cX0_hasCode 30 = .ok (.iconst 0, 1) := by decide +kernel
theorem dX0_hasCode_31 : decode cX0_hasCode 31 = .ok (.ireturn, 1) := by decide +kernel
theorem dX0_add_0 : decode cX0_add 0 = .ok (.aload_n 0, 1) := by decide +kernel
theorem dX0_add_1 : decode cX0_add 1 = .ok (.getfield 48, 3) := by decide +kernel
theorem dX0_add_4 : decode cX0_add 4 = .ok (.istore 5, 2) := by decide +kernel
theorem dX0_add_6 : decode cX0_add 6 = .ok (.aload_n 0, 1) := by decide +kernel
theorem dX0_add_7 : decode cX0_add 7 = .ok (.getfield 14, 3) := by decide +kernel
theorem dX0_add_10 : decode cX0_add 10 = .ok (.iload 5, 2) := by decide +kernel
theorem dX0_add_12 : decode cX0_add 12 = .ok (.iload_n 1, 1) := by decide +kernel
theorem dX0_add_13 : decode cX0_add 13 = .ok (.invokevirtual 60, 3) := by decide +kernel
theorem dX0_add_16 : decode cX0_add 16 = .ok (.aload_n 0, 1) := by decide +kernel
theorem dX0_add_17 : decode cX0_add 17 = .ok (.getfield 20, 3) := by decide +kernel
theorem dX0_add_20 : decode cX0_add 20 = .ok (.iload 5, 2) := by decide +kernel
theorem dX0_add_22 : decode cX0_add 22 = .ok (.iload_n 2, 1) := by decide +kernel
theorem dX0_add_23 : decode cX0_add 23 = .ok (.invokevirtual 60, 3) := by decide +kernel
theorem dX0_add_26 : decode cX0_add 26 = .ok (.aload_n 0, 1) := by decide +kernel
theorem dX0_add_27 : decode cX0_add 27 = .ok (.getfield 23, 3) := by decide +kernel
theorem dX0_add_30 : decode cX0_add 30 = .ok (.iload 5, 2) := by decide +kernel
theorem dX0_add_32 : decode cX0_add 32 = .ok (.iload_n 3, 1) := by decide +kernel
theorem dX0_add_33 : decode cX0_add 33 = .ok (.invokevirtual 60, 3) := by decide +kernel
theorem dX0_add_36 : decode cX0_add 36 = .ok (.aload_n 0, 1) := by decide +kernel
theorem dX0_add_37 : decode cX0_add 37 = .ok (.getfield 26, 3) := by decide +kernel
theorem dX0_add_40 : decode cX0_add 40 = .ok (.iload 5, 2) := by decide +kernel
theorem dX0_add_42 : decode cX0_add 42 = .ok (.iload_n 3, 1) := by decide +kernel
theorem dX0_add_43 : decode cX0_add 43 = .ok (.iconst (-1), 1) := by decide +kernel
theorem dX0_add_44 : decode cX0_add 44 = .ok (.if_icmp .ne 7, 3) := by decide +kernel
theorem dX0_add_47 : decode cX0_add 47 = .ok (.iconst 0, 1) := by decide +kernel
theorem dX0_add_48 : decode cX0_add 48 = .ok (.goto 13, 3) := by decide +kernel
theorem dX0_add_51 : decode cX0_add 51 = .ok (.aload_n 0, 1) := by decide +kernel
theorem dX0_add_52 : decode cX0_add 52 = .ok (.getfield 26, 3) := by decide +kernel
theorem dX0_add_55 : decode cX0_add 55 = .ok (.iload_n 3, 1) := by decide +kernel
theorem dX0_add_56 : decode cX0_add 56 = .ok (.invokevirtual 56, 3) := by decide +kernel
theorem dX0_add_59 : decode cX0_add 59 = .ok (.iconst 1, 1) := by decide +kernel
theorem dX0_add_60 : decode cX0_add 60 = .ok (.iadd, 1) := by decide +kernel
theorem dX0_add_61 : decode cX0_add 61 = .ok (.invokevirtual 60, 3) := by decide +kernel
theorem dX0_add_64 : decode cX0_add 64 = .ok (.aload_n 0, 1) := by decide +kernel
theorem dX0_add_65 : decode cX0_add 65 = .ok (.getfield 42, 3) := by decide +kernel
theorem dX0_add_68 : decode cX0_add 68 = .ok (.iload 5, 2) := by decide +kernel
theorem dX0_add_70 : decode cX0_add 70 = .ok (.iload 4, 2) := by decide +kernel
theorem dX0_add_72 : decode cX0_add 72 = .ok (.ifCond .eq 7, 3) := by decide +kernel
theorem dX0_add_75 : decode cX0_add 75 = .ok (.iconst 1, 1) := by decide +kernel
theorem dX0_add_76 : decode cX0_add 76 = .ok (.goto 4, 3) := by decide +kernel
theorem dX0_add_79 : decode cX0_add 79 = .ok (.iconst 0, 1) := by decide +kernel
theorem dX0_add_80 : decode cX0_add 80 = .ok (.invokevirtual 60, 3) := by decide +kernel
theorem dX0_add_83 : decode cX0_add 83 = .ok (.aload_n 0, 1) := by decide +kernel
theorem dX0_add_84 : decode cX0_add 84 = .ok (.getfield 45, 3) := by decide +kernel
theorem dX0_add_87 : decode cX0_add 87 = .ok (.iload 5, 2) := by decide +kernel
theorem dX0_add_89 : decode cX0_add 89 = .ok (.iconst 0, 1) := by decide +kernel
theorem dX0_add_90 : decode cX0_add 90 = .ok (.invokevirtual 60, 3) := by decide +kernel
theorem dX0_add_93 : decode cX0_add 93 = .ok (.aload_n 0, 1) := by decide +kernel
theorem dX0_add_94 : decode cX0_add 94 = .ok (.getfield 29, 3) := by decide +kernel
theorem dX0_add_97 : decode cX0_add 97 = .ok (.iload 5, 2) := by decide +kernel
theorem dX0_add_99 : decode cX0_add 99 = .ok (.iconst 0, 1) := by decide +kernel
theorem dX0_add_100 : decode cX0_add 100 = .ok (.invokevirtual 60, 3) := by decide +kernel
theorem dX0_add_103 : decode cX0_add 103 = .ok (.aload_n 0, 1) := by decide +kernel
theorem dX0_add_104 : decode cX0_add 104 = .ok (.getfield 38, 3) := by decide +kernel
theorem dX0_add_107 : decode cX0_add 107 = .ok (.iload 5, 2) := by decide +kernel
theorem dX0_add_109 : decode cX0_add 109 = .ok (.lconst 0, 1) := by decide +kernel
theorem dX0_add_110 : decode cX0_add 110 = .ok (.invokevirtual 64, 3) := by decide +kernel
theorem dX0_add_113 : decode cX0_add 113 = .ok (.aload_n 0, 1) := by decide +kernel
theorem dX0_add_114 : decode cX0_add 114 = .ok (.iload 5, 2) := by decide +kernel
theorem dX0_add_116 : decode cX0_add 116 = .ok (.invokevirtual 67, 3) := by decide +kernel
theorem dX0_add_119 : decode cX0_add 119 = .ok (.aload_n 0, 1) := by decide +kernel
theorem dX0_add_120 : decode cX0_add 120 = .ok (.dup, 1) := by decide +kernel
theorem dX0_add_121 : decode cX0_add 121 = .ok (.getfield 48, 3) := by decide +kernel
theorem dX0_add_124 : decode cX0_add 124 = .ok (.iconst 1, 1) := by decide +kernel
theorem dX0_add_125 : decode cX0_add 125 = .ok (.iadd, 1) := by decide +kernel
theorem dX0_add_126 : decode cX0_add 126 = .ok (.putfield 48, 3) := by decide +kernel
theorem dX0_add_129 : decode cX0_add 129 = .ok (.iload 5, 2) := by decide +kernel
theorem dX0_add_131 : decode cX0_add 131 = .ok (.ireturn, 1) := by decide +kernel
theorem dX0_putByCode_0 : decode cX0_putByCode 0 = .ok (.aload_n 0, 1) := by decide +kernel
theorem dX0_putByCode_1 : decode cX0_putByCode 1 = .ok (.getfield 48, 3) := by decide +kernel
theorem dX0_putByCode_4 : decode cX0_putByCode 4 = .ok (.istore_n 2, 1) := by decide +kernel
theorem dX0_putByCode_5 : decode cX0_putByCode 5 = .ok (.iload_n 2, 1) := by decide +kernel
theorem dX0_putByCode_6 : decode cX0_putByCode 6 = .ok (.ifCond .le 55, 3) := by decide +kernel
theorem dX0_putByCode_9 : decode cX0_putByCode 9 = .ok (.aload_n 0, 1) := by decide +kernel
theorem dX0_putByCode_10 : decode cX0_putByCode 10 = .ok (.getfield 14, 3) := by decide +kernel
theorem dX0_putByCode_13 : decode cX0_putByCode 13 = .ok (.aload_n 0, 1) := by decide +kernel
theorem dX0_putByCode_14 : decode cX0_putByCode 14 = .ok (.getfield 32, 3) := by decide +kernel
theorem dX0_putByCode_17 : decode cX0_putByCode 17 = .ok (.iload_n 2, 1) := by decide +kernel
theorem dX0_putByCode_18 : decode cX0_putByCode 18 = .ok (.iconst 1, 1) := by decide +kernel
theorem dX0_putByCode_19 : decode cX0_putByCode 19 = .ok (.isub, 1) := by decide +kernel
theorem dX0_putByCode_20 : decode cX0_putByCode 20 = .ok (.invokevirtual 56, 3) := by decide +kernel
theorem dX0_putByCode_23 : decode cX0_putByCode 23 = .ok (.invokevirtual 56, 3) := by decide +kernel
theorem dX0_putByCode_26 : decode cX0_putByCode 26 = .ok (.aload_n 0, 1) := by decide +kernel
theorem dX0_putByCode_27 : decode cX0_putByCode 27 = .ok (.getfield 14, 3) := by decide +kernel
theorem dX0_putByCode_30 : decode cX0_putByCode 30 = .ok (.iload_n 1, 1) := by decide +kernel
theorem dX0_putByCode_31 : decode cX0_putByCode 31 = .ok (.invokevirtual 56, 3) := by decide +kernel
theorem dX0_putByCode_34 : decode cX0_putByCode 34 = .ok (.if_icmp .le 27, 3) := by decide +kernel
theorem dX0_putByCode_37 : decode cX0_putByCode 37 = .ok (.aload_n 0, 1) := by decide +kernel
theorem dX0_putByCode_38 : decode cX0_putByCode 38 = .ok (.getfield 32, 3) := by decide +kernel
theorem dX0_putByCode_41 : decode cX0_putByCode 41 = .ok (.iload_n 2, 1) := by decide +kernel
theorem dX0_putByCode_42 : decode cX0_putByCode 42 = .ok (.aload_n 0, 1) := by decide +kernel
theorem dX0_putByCode_43 : decode cX0_putByCode 43 = .ok (.getfield 32, 3) := by decide +kernel
theorem dX0_putByCode_46 : decode cX0_putByCode 46 = .ok (.iload_n 2, 1) := by decide +kernel
theorem dX0_putByCode_47 : decode cX0_putByCode 47 = .ok (.iconst 1, 1) := by decide +kernel
theorem dX0_putByCode_48 : decode cX0_putByCode 48 = .ok (.isub, 1) := by decide +kernel
theorem dX0_putByCode_49 : decode cX0_putByCode 49 = .ok (.invokevirtual 56, 3) := by decide +kernel
theorem dX0_putByCode_52 : decode cX0_putByCode 52 = .ok (.invokevirtual 60, 3) := by decide +kernel
theorem dX0_putByCode_55 : decode cX0_putByCode 55 = .ok (.iinc 2 (-1), 3) := by decide +kernel
theorem dX0_putByCode_58 : decode cX0_putByCode 58 = .ok (.goto (-53), 3) := by decide +kernel
theorem dX0_putByCode_61 : decode cX0_putByCode 61 = .ok (.aload_n 0, 1) := by decide +kernel
theorem dX0_putByCode_62 : decode cX0_putByCode 62 = .ok (.getfield 32, 3) := by decide +kernel
theorem dX0_putByCode_65 : decode cX0_putByCode 65 = .ok (.iload_n 2, 1) := by decide +kernel
theorem dX0_putByCode_66 : decode cX0_putByCode 66 = .ok (.iload_n 1, 1) := by decide +kernel
theorem dX0_putByCode_67 : decode cX0_putByCode 67 = .ok (.invokevirtual 60, 3) := by decide +kernel
theorem dX0_putByCode_70 : decode cX0_putByCode 70 = .ok (.return_, 1) := by decide +kernel
theorem dX0_enterLine_0 : decode cX0_enterLine 0 = .ok (.aload_n 0, 1) := by decide +kernel
theorem dX0_enterLine_1 : decode cX0_enterLine 1 = .ok (.getfield 38, 3) := by decide +kernel
theorem dX0_enterLine_4 : decode cX0_enterLine 4 = .ok (.iload_n 1, 1) := by decide +kernel
theorem dX0_enterLine_5 : decode cX0_enterLine 5 = .ok (.aload_n 0, 1) := by decide +kernel
theorem dX0_enterLine_6 : decode cX0_enterLine 6 = .ok (.getfield 38, 3) := by decide +kernel
theorem dX0_enterLine_9 : decode cX0_enterLine 9 = .ok (.iload_n 1, 1) := by decide +kernel
theorem dX0_enterLine_10 : decode cX0_enterLine 10 = .ok (.invokevirtual 70, 3) := by decide +kernel
theorem dX0_enterLine_13 : decode cX0_enterLine 13 = .ok (.lload_n 2, 1) := by decide +kernel
theorem dX0_enterLine_14 : decode cX0_enterLine 14 = .ok (.ladd, 1) := by decide +kernel
theorem dX0_enterLine_15 : decode cX0_enterLine 15 = .ok (.invokevirtual 64, 3) := by decide +kernel
theorem dX0_enterLine_18 : decode cX0_enterLine 18 = .ok (.aload_n 0, 1) := by decide +kernel
theorem dX0_enterLine_19 : decode cX0_enterLine 19 = .ok (.getfield 29, 3) := by decide +kernel
theorem dX0_enterLine_22 : decode cX0_enterLine 22 = .ok (.iload_n 1, 1) := by decide +kernel
theorem dX0_enterLine_23 : decode cX0_enterLine 23 = .ok (.aload_n 0, 1) := by decide +kernel
theorem dX0_enterLine_24 : decode cX0_enterLine 24 = .ok (.getfield 29, 3) := by decide +kernel
theorem dX0_enterLine_27 : decode cX0_enterLine 27 = .ok (.iload_n 1, 1) := by decide +kernel
theorem dX0_enterLine_28 : decode cX0_enterLine 28 = .ok (.invokevirtual 56, 3) := by decide +kernel
theorem dX0_enterLine_31 : decode cX0_enterLine 31 = .ok (.iconst 1, 1) := by decide +kernel
theorem dX0_enterLine_32 : decode cX0_enterLine 32 = .ok (.iadd, 1) := by decide +kernel
theorem dX0_enterLine_33 : decode cX0_enterLine 33 = .ok (.invokevirtual 60, 3) := by decide +kernel
theorem dX0_enterLine_36 : decode cX0_enterLine 36 = .ok (.return_, 1) := by decide +kernel
theorem dX0_totalUnder_0 : decode cX0_totalUnder 0 = .ok (.aload_n 0, 1) := by decide +kernel
theorem dX0_totalUnder_1 : decode cX0_totalUnder 1 = .ok (.iload_n 1, 1) := by decide +kernel
theorem dX0_totalUnder_2 : decode cX0_totalUnder 2 = .ok (.invokevirtual 73, 3) := by decide +kernel
theorem dX0_totalUnder_5 : decode cX0_totalUnder 5 = .ok (.ifCond .eq 9, 3) := by decide +kernel
theorem dX0_totalUnder_8 : decode cX0_totalUnder 8 = .ok (.aload_n 2, 1) := by decide +kernel
theorem dX0_totalUnder_9 : decode cX0_totalUnder 9 = .ok (.iload_n 1, 1) := by decide +kernel
theorem dX0_totalUnder_10 : decode cX0_totalUnder 10 = .ok (.invokevirtual 70, 3) := by decide +kernel
theorem dX0_totalUnder_13 : decode cX0_totalUnder 13 = .ok (.lreturn, 1) := by decide +kernel
theorem dX0_totalUnder_14 : decode cX0_totalUnder 14 = .ok (.lconst 0, 1) := by decide +kernel
theorem dX0_totalUnder_15 : decode cX0_totalUnder 15 = .ok (.lstore_n 3, 1) := by decide +kernel
theorem dX0_totalUnder_16 : decode cX0_totalUnder 16 = .ok (.iconst 0, 1) := by decide +kernel
theorem dX0_totalUnder_17 : decode cX0_totalUnder 17 = .ok (.istore 5, 2) := by decide +kernel
theorem dX0_totalUnder_19 : decode cX0_totalUnder 19 = .ok (.iload 5, 2) := by decide +kernel
theorem dX0_totalUnder_21 : decode cX0_totalUnder 21 = .ok (.aload_n 0, 1) := by decide +kernel
theorem dX0_totalUnder_22 : decode cX0_totalUnder 22 = .ok (.getfield 48, 3) := by decide +kernel
theorem dX0_totalUnder_25 : decode cX0_totalUnder 25 = .ok (.if_icmp .ge 37, 3) := by decide +kernel
theorem dX0_totalUnder_28 : decode cX0_totalUnder 28 = .ok (.aload_n 0, 1) := by decide +kernel
theorem dX0_totalUnder_29 : decode cX0_totalUnder 29 = .ok (.iload 5, 2) := by decide +kernel
theorem dX0_totalUnder_31 : decode cX0_totalUnder 31 = .ok (.invokevirtual 73, 3) := by decide +kernel
theorem dX0_totalUnder_34 : decode cX0_totalUnder 34 = .ok (.ifCond .eq 22, 3) := by decide +kernel
theorem dX0_totalUnder_37 : decode cX0_totalUnder 37 = .ok (.aload_n 0, 1) := by decide +kernel
theorem dX0_totalUnder_38 : decode cX0_totalUnder 38 = .ok (.iload 5, 2) := by decide +kernel
theorem dX0_totalUnder_40 : decode cX0_totalUnder 40 = .ok (.iload_n 1, 1) := by decide +kernel
theorem dX0_totalUnder_41 : decode cX0_totalUnder 41 = .ok (.invokevirtual 76, 3) := by decide +kernel
theorem dX0_totalUnder_44 : decode cX0_totalUnder 44 = .ok (.ifCond .eq 12, 3) := by decide +kernel
theorem dX0_totalUnder_47 : decode cX0_totalUnder 47 = .ok (.lload_n 3, 1) := by decide +kernel
theorem dX0_totalUnder_48 : decode cX0_totalUnder 48 = .ok (.aload_n 2, 1) := by decide +kernel
theorem dX0_totalUnder_49 : decode cX0_totalUnder 49 = .ok (.iload 5, 2) := by decide +kernel
theorem dX0_totalUnder_51 : decode cX0_totalUnder 51 = .ok (.invokevirtual 70, 3) := by decide +kernel
theorem dX0_totalUnder_54 : decode cX0_totalUnder 54 = .ok (.ladd, 1) := by decide +kernel
theorem dX0_totalUnder_55 : decode cX0_totalUnder 55 = .ok (.lstore_n 3, 1) := by decide +kernel
theorem dX0_totalUnder_56 : decode cX0_totalUnder 56 = .ok (.iinc 5 1, 3) := by decide +kernel
theorem dX0_totalUnder_59 : decode cX0_totalUnder 59 = .ok (.goto (-40), 3) := by decide +kernel
theorem dX0_totalUnder_62 : decode cX0_totalUnder 62 = .ok (.lload_n 3, 1) := by decide +kernel
theorem dX0_totalUnder_63 : decode cX0_totalUnder 63 = .ok (.lreturn, 1) := by decide +kernel
theorem dX0_isUnder_0 : decode cX0_isUnder 0 = .ok (.aload_n 0, 1) := by decide +kernel
theorem dX0_isUnder_1 : decode cX0_isUnder 1 = .ok (.getfield 23, 3) := by decide +kernel
theorem dX0_isUnder_4 : decode cX0_isUnder 4 = .ok (.iload_n 1, 1) := by decide +kernel
theorem dX0_isUnder_5 : decode cX0_isUnder 5 = .ok (.invokevirtual 56, 3) := by decide +kernel
theorem dX0_isUnder_8 : decode cX0_isUnder 8 = .ok (.istore_n 3, 1) := by decide +kernel
theorem dX0_isUnder_9 : decode cX0_isUnder 9 = .ok (.iconst 0, 1) := by decide +kernel
theorem dX0_isUnder_10 : decode cX0_isUnder 10 = .ok (.istore 4, 2) := by decide +kernel
theorem dX0_isUnder_12 : decode cX0_isUnder 12 = .ok (.iload 4, 2) := by decide +kernel
theorem dX0_isUnder_14 : decode cX0_isUnder 14 = .ok (.iconst 5, 1) := by decide +kernel
theorem dX0_isUnder_15 : decode cX0_isUnder 15 = .ok (.if_icmp .ge 30, 3) := by decide +kernel
theorem dX0_isUnder_18 : decode cX0_isUnder 18 = .ok (.iload_n 3, 1) := by decide +kernel
theorem dX0_isUnder_19 : decode cX0_isUnder 19 = .ok (.iconst (-1), 1) := by decide +kernel
theorem dX0_isUnder_20 : decode cX0_isUnder 20 = .ok (.if_icmp .eq 25, 3) := by decide +kernel
theorem dX0_isUnder_23 : decode cX0_isUnder 23 = .ok (.iload_n 3, 1) := by decide +kernel
theorem dX0_isUnder_24 : decode cX0_isUnder 24 = .ok (.iload_n 2, 1) := by decide +kernel
theorem dX0_isUnder_25 : decode cX0_isUnder 25 = .ok (.if_icmp .ne 5, 3) := by decide +kernel
theorem dX0_isUnder_28 : decode cX0_isUnder 28 = .ok (.iconst 1, 1) := by decide +kernel
theorem dX0_isUnder_29 : decode cX0_isUnder 29 = .ok (.ireturn, 1) := by decide +kernel
theorem dX0_isUnder_30 : decode cX0_isUnder 30 = .ok (.aload_n 0, 1) := by decide +kernel
theorem dX0_isUnder_31 : decode cX0_isUnder 31 = .ok (.getfield 23, 3) := by decide +kernel
theorem dX0_isUnder_34 : decode cX0_isUnder 34 = .ok (.iload_n 3, 1) := by decide +kernel
theorem dX0_isUnder_35 : decode cX0_isUnder 35 = .ok (.invokevirtual 56, 3) := by decide +kernel
theorem dX0_isUnder_38 : decode cX0_isUnder 38 = .ok (.istore_n 3, 1) := by decide +kernel
theorem dX0_isUnder_39 : decode cX0_isUnder 39 = .ok (.iinc 4 1, 3) := by decide +kernel
theorem dX0_isUnder_42 : decode cX0_isUnder 42 = .ok (.goto (-30), 3) := by decide +kernel
theorem dX0_isUnder_45 : decode cX0_isUnder 45 = .ok (.iconst 0, 1) := by decide +kernel
theorem dX0_isUnder_46 : decode cX0_isUnder 46 = .ok (.ireturn, 1) := by decide +kernel
theorem dX0_totalOfKind_0 : decode cX0_totalOfKind 0 = .ok (.lconst 0, 1) := by decide +kernel
theorem dX0_totalOfKind_1 : decode cX0_totalOfKind 1 = .ok (.lstore_n 2, 1) := by decide +kernel
theorem dX0_totalOfKind_2 : decode cX0_totalOfKind 2 = .ok (.iconst 0, 1) := by decide +kernel
theorem dX0_totalOfKind_3 : decode cX0_totalOfKind 3 = .ok (.istore 4, 2) := by decide +kernel
theorem dX0_totalOfKind_5 : decode cX0_totalOfKind 5 = .ok (.iload 4, 2) := by decide +kernel
theorem dX0_totalOfKind_7 : decode cX0_totalOfKind 7 = .ok (.aload_n 0, 1) := by decide +kernel
theorem dX0_totalOfKind_8 : decode cX0_totalOfKind 8 = .ok (.getfield 48, 3) := by decide +kernel
theorem dX0_totalOfKind_11 : decode cX0_totalOfKind 11 = .ok (.if_icmp .ge 43, 3) := by decide +kernel
theorem dX0_totalOfKind_14 : decode cX0_totalOfKind 14 = .ok (.aload_n 0, 1) := by decide +kernel
theorem dX0_totalOfKind_15 : decode cX0_totalOfKind 15 = .ok (.iload 4, 2) := by decide +kernel
theorem dX0_totalOfKind_17 : decode cX0_totalOfKind 17 = .ok (.invokevirtual 73, 3) := by decide +kernel
theorem dX0_totalOfKind_20 : decode cX0_totalOfKind 20 = .ok (.ifCond .eq 28, 3) := by decide +kernel
theorem dX0_totalOfKind_23 : decode cX0_totalOfKind 23 = .ok (.aload_n 0, 1) := by decide +kernel
theorem dX0_totalOfKind_24 : decode cX0_totalOfKind 24 = .ok (.getfield 20, 3) := by decide +kernel
theorem dX0_totalOfKind_27 : decode cX0_totalOfKind 27 = .ok (.iload 4, 2) := by decide +kernel
theorem dX0_totalOfKind_29 : decode cX0_totalOfKind 29 = .ok (.invokevirtual 56, 3) := by decide +kernel
theorem dX0_totalOfKind_32 : decode cX0_totalOfKind 32 = .ok (.iload_n 1, 1) := by decide +kernel
theorem dX0_totalOfKind_33 : decode cX0_totalOfKind 33 = .ok (.if_icmp .ne 15, 3) := by decide +kernel
theorem dX0_totalOfKind_36 : decode cX0_totalOfKind 36 = .ok (.lload_n 2, 1) := by decide +kernel
theorem dX0_totalOfKind_37 : decode cX0_totalOfKind 37 = .ok (.aload_n 0, 1) := by decide +kernel
theorem dX0_totalOfKind_38 : decode cX0_totalOfKind 38 = .ok (.getfield 38, 3) := by decide +kernel
theorem dX0_totalOfKind_41 : decode cX0_totalOfKind 41 = .ok (.iload 4, 2) := by decide +kernel
theorem dX0_totalOfKind_43 : decode cX0_totalOfKind 43 = .ok (.invokevirtual 70, 3) := by decide +kernel
theorem dX0_totalOfKind_46 : decode cX0_totalOfKind 46 = .ok (.ladd, 1) := by decide +kernel
theorem dX0_totalOfKind_47 : decode cX0_totalOfKind 47 = .ok (.lstore_n 2, 1) := by decide +kernel
theorem dX0_totalOfKind_48 : decode cX0_totalOfKind 48 = .ok (.iinc 4 1, 3) := by decide +kernel
theorem dX0_totalOfKind_51 : decode cX0_totalOfKind 51 = .ok (.goto (-46), 3) := by decide +kernel
theorem dX0_totalOfKind_54 : decode cX0_totalOfKind 54 = .ok (.lload_n 2, 1) := by decide +kernel
theorem dX0_totalOfKind_55 : decode cX0_totalOfKind 55 = .ok (.lreturn, 1) := by decide +kernel
theorem dX0_told_0 : decode cX0_told 0 = .ok (.iload_n 2, 1) := by decide +kernel
theorem dX0_told_1 : decode cX0_told 1 = .ok (.tableswitch 106 0 6 #[43, 52, 61, 70, 79, 88, 97], 43) := by decide +kernel
theorem dX0_told_44 : decode cX0_told 44 = .ok (.aload_n 0, 1) := by decide +kernel
theorem dX0_told_45 : decode cX0_told 45 = .ok (.getfield 14, 3) := by decide +kernel
theorem dX0_told_48 : decode cX0_told 48 = .ok (.iload_n 1, 1) := by decide +kernel
theorem dX0_told_49 : decode cX0_told 49 = .ok (.invokevirtual 56, 3) := by decide +kernel
theorem dX0_told_52 : decode cX0_told 52 = .ok (.ireturn, 1) := by decide +kernel
theorem dX0_told_53 : decode cX0_told 53 = .ok (.aload_n 0, 1) := by decide +kernel
theorem dX0_told_54 : decode cX0_told 54 = .ok (.getfield 20, 3) := by decide +kernel
theorem dX0_told_57 : decode cX0_told 57 = .ok (.iload_n 1, 1) := by decide +kernel
theorem dX0_told_58 : decode cX0_told 58 = .ok (.invokevirtual 56, 3) := by decide +kernel
theorem dX0_told_61 : decode cX0_told 61 = .ok (.ireturn, 1) := by decide +kernel
theorem dX0_told_62 : decode cX0_told 62 = .ok (.aload_n 0, 1) := by decide +kernel
theorem dX0_told_63 : decode cX0_told 63 = .ok (.getfield 23, 3) := by decide +kernel
theorem dX0_told_66 : decode cX0_told 66 = .ok (.iload_n 1, 1) := by decide +kernel
theorem dX0_told_67 : decode cX0_told 67 = .ok (.invokevirtual 56, 3) := by decide +kernel
theorem dX0_told_70 : decode cX0_told 70 = .ok (.ireturn, 1) := by decide +kernel
theorem dX0_told_71 : decode cX0_told 71 = .ok (.aload_n 0, 1) := by decide +kernel
theorem dX0_told_72 : decode cX0_told 72 = .ok (.getfield 42, 3) := by decide +kernel
theorem dX0_told_75 : decode cX0_told 75 = .ok (.iload_n 1, 1) := by decide +kernel
theorem dX0_told_76 : decode cX0_told 76 = .ok (.invokevirtual 56, 3) := by decide +kernel
theorem dX0_told_79 : decode cX0_told 79 = .ok (.ireturn, 1) := by decide +kernel
theorem dX0_told_80 : decode cX0_told 80 = .ok (.aload_n 0, 1) := by decide +kernel
theorem dX0_told_81 : decode cX0_told 81 = .ok (.getfield 45, 3) := by decide +kernel
theorem dX0_told_84 : decode cX0_told 84 = .ok (.iload_n 1, 1) := by decide +kernel
theorem dX0_told_85 : decode cX0_told 85 = .ok (.invokevirtual 56, 3) := by decide +kernel
theorem dX0_told_88 : decode cX0_told 88 = .ok (.ireturn, 1) := by decide +kernel
theorem dX0_told_89 : decode cX0_told 89 = .ok (.aload_n 0, 1) := by decide +kernel
theorem dX0_told_90 : decode cX0_told 90 = .ok (.getfield 26, 3) := by decide +kernel
theorem dX0_told_93 : decode cX0_told 93 = .ok (.iload_n 1, 1) := by decide +kernel
theorem dX0_told_94 : decode cX0_told 94 = .ok (.invokevirtual 56, 3) := by decide +kernel
theorem dX0_told_97 : decode cX0_told 97 = .ok (.ireturn, 1) := by decide +kernel
theorem dX0_told_98 : decode cX0_told 98 = .ok (.aload_n 0, 1) := by decide +kernel
theorem dX0_told_99 : decode cX0_told 99 = .ok (.getfield 29, 3) := by decide +kernel
theorem dX0_told_102 : decode cX0_told 102 = .ok (.iload_n 1, 1) := by decide +kernel
theorem dX0_told_103 : decode cX0_told 103 = .ok (.invokevirtual 56, 3) := by decide +kernel
theorem dX0_told_106 : decode cX0_told 106 = .ok (.ireturn, 1) := by decide +kernel
theorem dX0_told_107 : decode cX0_told 107 = .ok (.bipush (-3), 2) := by decide +kernel
theorem dX0_told_109 : decode cX0_told 109 = .ok (.ireturn, 1) := by decide +kernel
theorem dX1_init_0 : decode cX1_init 0 = .ok (.aload_n 0, 1) := by decide +kernel
theorem dX1_init_1 : decode cX1_init 1 = .ok (.invokespecial 3, 3) := by decide +kernel
theorem dX1_init_4 : decode cX1_init 4 = .ok (.aload_n 0, 1) := by decide +kernel
theorem dX1_init_5 : decode cX1_init 5 = .ok (.new 9, 3) := by decide +kernel
theorem dX1_init_8 : decode cX1_init 8 = .ok (.dup, 1) := by decide +kernel
theorem dX1_init_9 : decode cX1_init 9 = .ok (.invokespecial 11, 3) := by decide +kernel
theorem dX1_init_12 : decode cX1_init 12 = .ok (.putfield 12, 3) := by decide +kernel
theorem dX1_init_15 : decode cX1_init 15 = .ok (.aload_n 0, 1) := by decide +kernel
theorem dX1_init_16 : decode cX1_init 16 = .ok (.new 18, 3) := by decide +kernel
theorem dX1_init_19 : decode cX1_init 19 = .ok (.dup, 1) := by decide +kernel
theorem dX1_init_20 : decode cX1_init 20 = .ok (.invokespecial 20, 3) := by decide +kernel
theorem dX1_init_23 : decode cX1_init 23 = .ok (.putfield 21, 3) := by decide +kernel
theorem dX1_init_26 : decode cX1_init 26 = .ok (.aload_n 0, 1) := by decide +kernel
theorem dX1_init_27 : decode cX1_init 27 = .ok (.new 25, 3) := by decide +kernel
theorem dX1_init_30 : decode cX1_init 30 = .ok (.dup, 1) := by decide +kernel
theorem dX1_init_31 : decode cX1_init 31 = .ok (.invokespecial 27, 3) := by decide +kernel
theorem dX1_init_34 : decode cX1_init 34 = .ok (.putfield 28, 3) := by decide +kernel
theorem dX1_init_37 : decode cX1_init 37 = .ok (.aload_n 0, 1) := by decide +kernel
theorem dX1_init_38 : decode cX1_init 38 = .ok (.iconst (-1), 1) := by decide +kernel
theorem dX1_init_39 : decode cX1_init 39 = .ok (.putfield 32, 3) := by decide +kernel
theorem dX1_init_42 : decode cX1_init 42 = .ok (.aload_n 0, 1) := by decide +kernel
theorem dX1_init_43 : decode cX1_init 43 = .ok (.new 36, 3) := by decide +kernel
theorem dX1_init_46 : decode cX1_init 46 = .ok (.dup, 1) := by decide +kernel
theorem dX1_init_47 : decode cX1_init 47 = .ok (.bipush 60, 2) := by decide +kernel
theorem dX1_init_49 : decode cX1_init 49 = .ok (.invokespecial 38, 3) := by decide +kernel
theorem dX1_init_52 : decode cX1_init 52 = .ok (.putfield 41, 3) := by decide +kernel
theorem dX1_init_55 : decode cX1_init 55 = .ok (.return_, 1) := by decide +kernel
theorem dX1_clear_0 : decode cX1_clear 0 = .ok (.aload_n 0, 1) := by decide +kernel
theorem dX1_clear_1 : decode cX1_clear 1 = .ok (.getfield 12, 3) := by decide +kernel
theorem dX1_clear_4 : decode cX1_clear 4 = .ok (.invokevirtual 45, 3) := by decide +kernel
theorem dX1_clear_7 : decode cX1_clear 7 = .ok (.aload_n 0, 1) := by decide +kernel
theorem dX1_clear_8 : decode cX1_clear 8 = .ok (.getfield 21, 3) := by decide +kernel
theorem dX1_clear_11 : decode cX1_clear 11 = .ok (.invokevirtual 48, 3) := by decide +kernel
theorem dX1_clear_14 : decode cX1_clear 14 = .ok (.aload_n 0, 1) := by decide +kernel
theorem dX1_clear_15 : decode cX1_clear 15 = .ok (.getfield 28, 3) := by decide +kernel
theorem dX1_clear_18 : decode cX1_clear 18 = .ok (.invokevirtual 49, 3) := by decide +kernel
theorem dX1_clear_21 : decode cX1_clear 21 = .ok (.aload_n 0, 1) := by decide +kernel
theorem dX1_clear_22 : decode cX1_clear 22 = .ok (.iconst (-1), 1) := by decide +kernel
theorem dX1_clear_23 : decode cX1_clear 23 = .ok (.putfield 32, 3) := by decide +kernel
theorem dX1_clear_26 : decode cX1_clear 26 = .ok (.return_, 1) := by decide +kernel
theorem dX1_refusesAccount_0 : decode cX1_refusesAccount 0 = .ok (.iload_n 3, 1) := by decide +kernel
theorem dX1_refusesAccount_1 : decode cX1_refusesAccount 1 = .ok (.iconst (-1), 1) := by decide +kernel
theorem dX1_refusesAccount_2 : decode cX1_refusesAccount 2 = .ok (.if_icmp .eq 17, 3) := by decide +kernel
theorem dX1_refusesAccount_5 : decode cX1_refusesAccount 5 = .ok (.aload_n 0, 1) := by decide +kernel
theorem dX1_refusesAccount_6 : decode cX1_refusesAccount 6 = .ok (.getfield 12, 3) := by decide +kernel
theorem dX1_refusesAccount_9 : decode cX1_refusesAccount 9 = .ok (.iload_n 3, 1) := by decide +kernel
theorem dX1_refusesAccount_10 : decode cX1_refusesAccount 10 = .ok (.invokevirtual 50, 3) := by decide +kernel
theorem dX1_refusesAccount_13 : decode cX1_refusesAccount 13 = .ok (.ifCond .ne 6, 3) := by decide +kernel
theorem dX1_refusesAccount_16 : decode cX1_refusesAccount 16 = .ok (.bipush (-2), 2) := by decide +kernel
theorem dX1_refusesAccount_18 : decode cX1_refusesAccount 18 = .ok (.ireturn, 1) := by decide +kernel
theorem dX1_refusesAccount_19 : decode cX1_refusesAccount 19 = .ok (.iload_n 1, 1) := by decide +kernel
theorem dX1_refusesAccount_20 : decode cX1_refusesAccount 20 = .ok (.iconst 1, 1) := by decide +kernel
theorem dX1_refusesAccount_21 : decode cX1_refusesAccount 21 = .ok (.if_icmp .lt 19, 3) := by decide +kernel
theorem dX1_refusesAccount_24 : decode cX1_refusesAccount 24 = .ok (.iload_n 1, 1) := by decide +kernel
theorem dX1_refusesAccount_25 : decode cX1_refusesAccount 25 = .ok (.sipush 9999, 3) := by decide +kernel
theorem dX1_refusesAccount_28 : decode cX1_refusesAccount 28 = .ok (.if_icmp .gt 12, 3) := by decide +kernel
theorem dX1_refusesAccount_31 : decode cX1_refusesAccount 31 = .ok (.iload_n 2, 1) := by decide +kernel
theorem dX1_refusesAccount_32 : decode cX1_refusesAccount 32 = .ok (.ifCond .lt 8, 3) := by decide +kernel
theorem dX1_refusesAccount_35 : decode cX1_refusesAccount 35 = .ok (.iload_n 2, 1) := by decide +kernel
theorem dX1_refusesAccount_36 : decode cX1_refusesAccount 36 = .ok (.iconst 5, 1) := by decide +kernel
theorem dX1_refusesAccount_37 : decode cX1_refusesAccount 37 = .ok (.if_icmp .lt 6, 3) := by decide +kernel
theorem dX1_refusesAccount_40 : decode cX1_refusesAccount 40 = .ok (.bipush (-3), 2) := by decide +kernel
theorem dX1_refusesAccount_42 : decode cX1_refusesAccount 42 = .ok (.ireturn, 1) := by decide +kernel
theorem dX1_refusesAccount_43 : decode cX1_refusesAccount 43 = .ok (.iload_n 3, 1) := by decide +kernel
theorem dX1_refusesAccount_44 : decode cX1_refusesAccount 44 = .ok (.iconst (-1), 1) := by decide +kernel
theorem dX1_refusesAccount_45 : decode cX1_refusesAccount 45 = .ok (.if_icmp .eq 18, 3) := by decide +kernel
theorem dX1_refusesAccount_48 : decode cX1_refusesAccount 48 = .ok (.aload_n 0, 1) := by decide +kernel
theorem dX1_refusesAccount_49 : decode cX1_refusesAccount 49 = .ok (.getfield 12, 3) := by decide +kernel
theorem dX1_refusesAccount_52 : decode cX1_refusesAccount 52 = .ok (.iload_n 3, 1) := by decide +kernel
theorem dX1_refusesAccount_53 : decode cX1_refusesAccount 53 = .ok (.iload_n 2, 1) := by decide +kernel
theorem dX1_refusesAccount_54 : decode cX1_refusesAccount 54 = .ok (.invokevirtual 54, 3) := by decide +kernel
theorem dX1_refusesAccount_57 : decode cX1_refusesAccount 57 = .ok (.ifCond .ne 6, 3) := by decide +kernel
theorem dX1_refusesAccount_60 : decode cX1_refusesAccount 60 = .ok (.bipush (-4), 2) := by decide +kernel
theorem dX1_refusesAccount_62 : decode cX1_refusesAccount 62 = .ok (.ireturn, 1) := by decide +kernel
theorem dX1_refusesAccount_63 : decode cX1_refusesAccount 63 = .ok (.aload_n 0, 1) := by decide +kernel
theorem dX1_refusesAccount_64 : decode cX1_refusesAccount 64 = .ok (.getfield 12, 3) := by decide +kernel
theorem dX1_refusesAccount_67 : decode cX1_refusesAccount 67 = .ok (.iload_n 1, 1) := by decide +kernel
theorem dX1_refusesAccount_68 : decode cX1_refusesAccount 68 = .ok (.invokevirtual 58, 3) := by decide +kernel
theorem dX1_refusesAccount_71 : decode cX1_refusesAccount 71 = .ok (.ifCond .eq 6, 3) := by decide +kernel
theorem dX1_refusesAccount_74 : decode cX1_refusesAccount 74 = .ok (.bipush (-5), 2) := by decide +kernel
theorem dX1_refusesAccount_76 : decode cX1_refusesAccount 76 = .ok (.ireturn, 1) := by decide +kernel
theorem dX1_refusesAccount_77 : decode cX1_refusesAccount 77 = .ok (.aload_n 0, 1) := by decide +kernel
theorem dX1_refusesAccount_78 : decode cX1_refusesAccount 78 = .ok (.getfield 12, 3) := by decide +kernel
theorem dX1_refusesAccount_81 : decode cX1_refusesAccount 81 = .ok (.getfield 61, 3) := by decide +kernel
theorem dX1_refusesAccount_84 : decode cX1_refusesAccount 84 = .ok (.bipush 60, 2) := by decide +kernel
theorem dX1_refusesAccount_86 : decode cX1_refusesAccount 86 = .ok (.if_icmp .lt 8, 3) := by decide +kernel
theorem dX1_refusesAccount_89 : decode cX1_refusesAccount 89 = .ok (.bipush (-13), 2) := by decide +kernel
theorem dX1_refusesAccount_91 : decode cX1_refusesAccount 91 = .ok (.goto 4, 3) := by decide +kernel
theorem dX1_refusesAccount_94 : decode cX1_refusesAccount 94 = .ok (.iconst 0, 1) := by decide +kernel
theorem dX1_refusesAccount_95 : decode cX1_refusesAccount 95 = .ok (.ireturn, 1) := by decide +kernel
theorem dX1_refusesShut_0 : decode cX1_refusesShut 0 = .ok (.aload_n 0, 1) := by decide +kernel
theorem dX1_refusesShut_1 : decode cX1_refusesShut 1 = .ok (.getfield 12, 3) := by decide +kernel
theorem dX1_refusesShut_4 : decode cX1_refusesShut 4 = .ok (.iload_n 1, 1) := by decide +kernel
theorem dX1_refusesShut_5 : decode cX1_refusesShut 5 = .ok (.invokevirtual 50, 3) := by decide +kernel
theorem dX1_refusesShut_8 : decode cX1_refusesShut 8 = .ok (.ifCond .ne 6, 3) := by decide +kernel
theorem dX1_refusesShut_11 : decode cX1_refusesShut 11 = .ok (.bipush (-2), 2) := by decide +kernel
theorem dX1_refusesShut_13 : decode cX1_refusesShut 13 = .ok (.ireturn, 1) := by decide +kernel
theorem dX1_refusesShut_14 : decode cX1_refusesShut 14 = .ok (.aload_n 0, 1) := by decide +kernel
theorem dX1_refusesShut_15 : decode cX1_refusesShut 15 = .ok (.getfield 12, 3) := by decide +kernel
theorem dX1_refusesShut_18 : decode cX1_refusesShut 18 = .ok (.iload_n 1, 1) := by decide +kernel
theorem dX1_refusesShut_19 : decode cX1_refusesShut 19 = .ok (.invokevirtual 64, 3) := by decide +kernel
theorem dX1_refusesShut_22 : decode cX1_refusesShut 22 = .ok (.ifCond .ne 6, 3) := by decide +kernel
theorem dX1_refusesShut_25 : decode cX1_refusesShut 25 = .ok (.bipush (-4), 2) := by decide +kernel
theorem dX1_refusesShut_27 : decode cX1_refusesShut 27 = .ok (.ireturn, 1) := by decide +kernel
theorem dX1_refusesShut_28 : decode cX1_refusesShut 28 = .ok (.aload_n 0, 1) := by decide +kernel
theorem dX1_refusesShut_29 : decode cX1_refusesShut 29 = .ok (.getfield 12, 3) := by decide +kernel
theorem dX1_refusesShut_32 : decode cX1_refusesShut 32 = .ok (.iload_n 1, 1) := by decide +kernel
theorem dX1_refusesShut_33 : decode cX1_refusesShut 33 = .ok (.invokevirtual 67, 3) := by decide +kernel
theorem dX1_refusesShut_36 : decode cX1_refusesShut 36 = .ok (.iload_n 2, 1) := by decide +kernel
theorem dX1_refusesShut_37 : decode cX1_refusesShut 37 = .ok (.if_icmp .ne 8, 3) := by decide +kernel
theorem dX1_refusesShut_40 : decode cX1_refusesShut 40 = .ok (.bipush (-6), 2) := by decide +kernel
theorem dX1_refusesShut_42 : decode cX1_refusesShut 42 = .ok (.goto 4, 3) := by decide +kernel
theorem dX1_refusesShut_45 : decode cX1_refusesShut 45 = .ok (.iconst 0, 1) := by decide +kernel
theorem dX1_refusesShut_46 : decode cX1_refusesShut 46 = .ok (.ireturn, 1) := by decide +kernel
theorem dX1_refusesPeriod_0 : decode cX1_refusesPeriod 0 = .ok (.iload_n 1, 1) := by decide +kernel
theorem dX1_refusesPeriod_1 : decode cX1_refusesPeriod 1 = .ok (.aload_n 0, 1) := by decide +kernel
theorem dX1_refusesPeriod_2 : decode cX1_refusesPeriod 2 = .ok (.getfield 21, 3) := by decide +kernel
theorem dX1_refusesPeriod_5 : decode cX1_refusesPeriod 5 = .ok (.invokevirtual 70, 3) := by decide +kernel
theorem dX1_refusesPeriod_8 : decode cX1_refusesPeriod 8 = .ok (.if_icmp .lt 10, 3) := by decide +kernel
theorem dX1_refusesPeriod_11 : decode cX1_refusesPeriod 11 = .ok (.iload_n 1, 1) := by decide +kernel
theorem dX1_refusesPeriod_12 : decode cX1_refusesPeriod 12 = .ok (.sipush 9999, 3) := by decide +kernel
theorem dX1_refusesPeriod_15 : decode cX1_refusesPeriod 15 = .ok (.if_icmp .le 6, 3) := by decide +kernel
theorem dX1_refusesPeriod_18 : decode cX1_refusesPeriod 18 = .ok (.bipush (-3), 2) := by decide +kernel
theorem dX1_refusesPeriod_20 : decode cX1_refusesPeriod 20 = .ok (.ireturn, 1) := by decide +kernel
theorem dX1_refusesPeriod_21 : decode cX1_refusesPeriod 21 = .ok (.aload_n 0, 1) := by decide +kernel
theorem dX1_refusesPeriod_22 : decode cX1_refusesPeriod 22 = .ok (.getfield 21, 3) := by decide +kernel
theorem dX1_refusesPeriod_25 : decode cX1_refusesPeriod 25 = .ok (.getfield 74, 3) := by decide +kernel
theorem dX1_refusesPeriod_28 : decode cX1_refusesPeriod 28 = .ok (.bipush 24, 2) := by decide +kernel
theorem dX1_refusesPeriod_30 : decode cX1_refusesPeriod 30 = .ok (.if_icmp .lt 8, 3) := by decide +kernel
theorem dX1_refusesPeriod_33 : decode cX1_refusesPeriod 33 = .ok (.bipush (-13), 2) := by decide +kernel
theorem dX1_refusesPeriod_35 : decode cX1_refusesPeriod 35 = .ok (.goto 4, 3) := by decide +kernel
theorem dX1_refusesPeriod_38 : decode cX1_refusesPeriod 38 = .ok (.iconst 0, 1) := by decide +kernel
theorem dX1_refusesPeriod_39 : decode cX1_refusesPeriod 39 = .ok (.ireturn, 1) := by decide +kernel
theorem dX1_refusesOwner_0 : decode cX1_refusesOwner 0 = .ok (.aload_n 0, 1) := by decide +kernel
theorem dX1_refusesOwner_1 : decode cX1_refusesOwner 1 = .ok (.getfield 12, 3) := by decide +kernel
theorem dX1_refusesOwner_4 : decode cX1_refusesOwner 4 = .ok (.iload_n 1, 1) := by decide +kernel
theorem dX1_refusesOwner_5 : decode cX1_refusesOwner 5 = .ok (.invokevirtual 50, 3) := by decide +kernel
theorem dX1_refusesOwner_8 : decode cX1_refusesOwner 8 = .ok (.ifCond .ne 6, 3) := by decide +kernel
theorem dX1_refusesOwner_11 : decode cX1_refusesOwner 11 = .ok (.bipush (-2), 2) := by decide +kernel
theorem dX1_refusesOwner_13 : decode cX1_refusesOwner 13 = .ok (.ireturn, 1) := by decide +kernel
theorem dX1_refusesOwner_14 : decode cX1_refusesOwner 14 = .ok (.aload_n 0, 1) := by decide +kernel
theorem dX1_refusesOwner_15 : decode cX1_refusesOwner 15 = .ok (.getfield 12, 3) := by decide +kernel
theorem dX1_refusesOwner_18 : decode cX1_refusesOwner 18 = .ok (.iload_n 1, 1) := by decide +kernel
theorem dX1_refusesOwner_19 : decode cX1_refusesOwner 19 = .ok (.invokevirtual 64, 3) := by decide +kernel
theorem dX1_refusesOwner_22 : decode cX1_refusesOwner 22 = .ok (.ifCond .eq 22, 3) := by decide +kernel
theorem dX1_refusesOwner_25 : decode cX1_refusesOwner 25 = .ok (.aload_n 0, 1) := by decide +kernel
theorem dX1_refusesOwner_26 : decode cX1_refusesOwner 26 = .ok (.getfield 12, 3) := by decide +kernel
theorem dX1_refusesOwner_29 : decode cX1_refusesOwner 29 = .ok (.getfield 75, 3) := by decide +kernel
theorem dX1_refusesOwner_32 : decode cX1_refusesOwner 32 = .ok (.iload_n 1, 1) := by decide +kernel
theorem dX1_refusesOwner_33 : decode cX1_refusesOwner 33 = .ok (.invokevirtual 79, 3) := by decide +kernel
theorem dX1_refusesOwner_36 : decode cX1_refusesOwner 36 = .ok (.iconst 2, 1) := by decide +kernel
theorem dX1_refusesOwner_37 : decode cX1_refusesOwner 37 = .ok (.if_icmp .ne 7, 3) := by decide +kernel
theorem dX1_refusesOwner_40 : decode cX1_refusesOwner 40 = .ok (.iconst 0, 1) := by decide +kernel
theorem dX1_refusesOwner_41 : decode cX1_refusesOwner 41 = .ok (.goto 5, 3) := by decide +kernel
theorem dX1_refusesOwner_44 : decode cX1_refusesOwner 44 = .ok (.bipush (-4), 2) := by decide +kernel
theorem dX1_refusesOwner_46 : decode cX1_refusesOwner 46 = .ok (.ireturn, 1) := by decide +kernel
theorem dX1_changeOwner_0 : decode cX1_changeOwner 0 = .ok (.aload_n 0, 1) := by decide +kernel
theorem dX1_changeOwner_1 : decode cX1_changeOwner 1 = .ok (.getfield 32, 3) := by decide +kernel
theorem dX1_changeOwner_4 : decode cX1_changeOwner 4 = .ok (.istore_n 2, 1) := by decide +kernel
theorem dX1_changeOwner_5 : decode cX1_changeOwner 5 = .ok (.aload_n 0, 1) := by decide +kernel
theorem dX1_changeOwner_6 : decode cX1_changeOwner 6 = .ok (.iload_n 1, 1) := by decide +kernel
theorem dX1_changeOwner_7 : decode cX1_changeOwner 7 = .ok (.putfield 32, 3) := by decide +kernel
theorem dX1_changeOwner_10 : decode cX1_changeOwner 10 = .ok (.iload_n 2, 1) := by decide +kernel
theorem dX1_changeOwner_11 : decode cX1_changeOwner 11 = .ok (.ireturn, 1) := by decide +kernel
theorem dX1_refusesLine_0 : decode cX1_refusesLine 0 = .ok (.aload_n 0, 1) := by decide +kernel
theorem dX1_refusesLine_1 : decode cX1_refusesLine 1 = .ok (.getfield 12, 3) := by decide +kernel
theorem dX1_refusesLine_4 : decode cX1_refusesLine 4 = .ok (.iload_n 1, 1) := by decide +kernel
theorem dX1_refusesLine_5 : decode cX1_refusesLine 5 = .ok (.invokevirtual 50, 3) := by decide +kernel
theorem dX1_refusesLine_8 : decode cX1_refusesLine 8 = .ok (.ifCond .ne 6, 3) := by decide +kernel
theorem dX1_refusesLine_11 : decode cX1_refusesLine 11 = .ok (.bipush (-2), 2) := by decide +kernel
theorem dX1_refusesLine_13 : decode cX1_refusesLine 13 = .ok (.ireturn, 1) := by decide +kernel
theorem dX1_refusesLine_14 : decode cX1_refusesLine 14 = .ok (.lload_n 2, 1) := by decide +kernel
theorem dX1_refusesLine_15 : decode cX1_refusesLine 15 = .ok (.invokestatic 85, 3) := by decide +kernel
theorem dX1_refusesLine_18 : decode cX1_refusesLine 18 = .ok (.ifCond .ne 6, 3) := by decide +kernel
theorem dX1_refusesLine_21 : decode cX1_refusesLine 21 = .ok (.bipush (-3), 2) := by decide +kernel
theorem dX1_refusesLine_23 : decode cX1_refusesLine 23 = .ok (.ireturn, 1) := by decide +kernel
theorem dX1_refusesLine_24 : decode cX1_refusesLine 24 = .ok (.aload_n 0, 1) := by decide +kernel
theorem dX1_refusesLine_25 : decode cX1_refusesLine 25 = .ok (.getfield 12, 3) := by decide +kernel
theorem dX1_refusesLine_28 : decode cX1_refusesLine 28 = .ok (.iload_n 1, 1) := by decide +kernel
theorem dX1_refusesLine_29 : decode cX1_refusesLine 29 = .ok (.invokevirtual 64, 3) := by decide +kernel
theorem dX1_refusesLine_32 : decode cX1_refusesLine 32 = .ok (.ifCond .eq 7, 3) := by decide +kernel
theorem dX1_refusesLine_35 : decode cX1_refusesLine 35 = .ok (.iconst 0, 1) := by decide +kernel
theorem dX1_refusesLine_36 : decode cX1_refusesLine 36 = .ok (.goto 5, 3) := by decide +kernel
theorem dX1_refusesLine_39 : decode cX1_refusesLine 39 = .ok (.bipush (-4), 2) := by decide +kernel
theorem dX1_refusesLine_41 : decode cX1_refusesLine 41 = .ok (.ireturn, 1) := by decide +kernel
theorem dX1_judge_0 : decode cX1_judge 0 = .ok (.aload_n 1, 1) := by decide +kernel
theorem dX1_judge_1 : decode cX1_judge 1 = .ok (.getfield 89, 3) := by decide +kernel
theorem dX1_judge_4 : decode cX1_judge 4 = .ok (.iconst 2, 1) := by decide +kernel
theorem dX1_judge_5 : decode cX1_judge 5 = .ok (.if_icmp .ge 6, 3) := by decide +kernel
theorem dX1_judge_8 : decode cX1_judge 8 = .ok (.bipush (-7), 2) := by decide +kernel
theorem dX1_judge_10 : decode cX1_judge 10 = .ok (.ireturn, 1) := by decide +kernel
theorem dX1_judge_11 : decode cX1_judge 11 = .ok (.aload_n 1, 1) := by decide +kernel
theorem dX1_judge_12 : decode cX1_judge 12 = .ok (.invokevirtual 92, 3) := by decide +kernel
theorem dX1_judge_15 : decode cX1_judge 15 = .ok (.lconst 0, 1) := by decide +kernel
theorem dX1_judge_16 : decode cX1_judge 16 = .ok (.lcmp, 1) := by decide +kernel
theorem dX1_judge_17 : decode cX1_judge 17 = .ok (.ifCond .eq 6, 3) := by decide +kernel
theorem dX1_judge_20 : decode cX1_judge 20 = .ok (.bipush (-8), 2) := by decide +kernel
theorem dX1_judge_22 : decode cX1_judge 22 = .ok (.ireturn, 1) := by decide +kernel
theorem dX1_judge_23 : decode cX1_judge 23 = .ok (.aload_n 0, 1) := by decide +kernel
theorem dX1_judge_24 : decode cX1_judge 24 = .ok (.getfield 21, 3) := by decide +kernel
theorem dX1_judge_27 : decode cX1_judge 27 = .ok (.iload_n 2, 1) := by decide +kernel
theorem dX1_judge_28 : decode cX1_judge 28 = .ok (.invokevirtual 96, 3) := by decide +kernel
theorem dX1_judge_31 : decode cX1_judge 31 = .ok (.istore_n 3, 1) := by decide +kernel
theorem dX1_judge_32 : decode cX1_judge 32 = .ok (.iload_n 3, 1) := by decide +kernel
theorem dX1_judge_33 : decode cX1_judge 33 = .ok (.iconst (-1), 1) := by decide +kernel
theorem dX1_judge_34 : decode cX1_judge 34 = .ok (.if_icmp .ne 6, 3) := by decide +kernel
theorem dX1_judge_37 : decode cX1_judge 37 = .ok (.bipush (-9), 2) := by decide +kernel
theorem dX1_judge_39 : decode cX1_judge 39 = .ok (.ireturn, 1) := by decide +kernel
theorem dX1_judge_40 : decode cX1_judge 40 = .ok (.iload_n 3, 1) := by decide +kernel
theorem dX1_judge_41 : decode cX1_judge 41 = .ok (.aload_n 0, 1) := by decide +kernel
theorem dX1_judge_42 : decode cX1_judge 42 = .ok (.getfield 21, 3) := by decide +kernel
theorem dX1_judge_45 : decode cX1_judge 45 = .ok (.getfield 99, 3) := by decide +kernel
theorem dX1_judge_48 : decode cX1_judge 48 = .ok (.if_icmp .ge 6, 3) := by decide +kernel
theorem dX1_judge_51 : decode cX1_judge 51 = .ok (.bipush (-10), 2) := by decide +kernel
theorem dX1_judge_53 : decode cX1_judge 53 = .ok (.ireturn, 1) := by decide +kernel
theorem dX1_judge_54 : decode cX1_judge 54 = .ok (.aload_n 0, 1) := by decide +kernel
theorem dX1_judge_55 : decode cX1_judge 55 = .ok (.aload_n 1, 1) := by decide +kernel
theorem dX1_judge_56 : decode cX1_judge 56 = .ok (.invokevirtual 102, 3) := by decide +kernel
theorem dX1_judge_59 : decode cX1_judge 59 = .ok (.ifCond .eq 8, 3) := by decide +kernel
theorem dX1_judge_62 : decode cX1_judge 62 = .ok (.bipush (-11), 2) := by decide +kernel
theorem dX1_judge_64 : decode cX1_judge 64 = .ok (.goto 8, 3) := by decide +kernel
theorem dX1_judge_67 : decode cX1_judge 67 = .ok (.aload_n 0, 1) := by decide +kernel
theorem dX1_judge_68 : decode cX1_judge 68 = .ok (.aload_n 1, 1) := by decide +kernel
theorem dX1_judge_69 : decode cX1_judge 69 = .ok (.invokevirtual 106, 3) := by decide +kernel
theorem dX1_judge_72 : decode cX1_judge 72 = .ok (.ireturn, 1) := by decide +kernel
theorem dX1_refusesUnjudged_0 : decode cX1_refusesUnjudged 0 = .ok (.aload_n 0, 1) := by decide +kernel
theorem dX1_refusesUnjudged_1 : decode cX1_refusesUnjudged 1 = .ok (.aload_n 1, 1) := by decide +kernel
theorem dX1_refusesUnjudged_2 : decode cX1_refusesUnjudged 2 = .ok (.invokevirtual 110, 3) := by decide +kernel
theorem dX1_refusesUnjudged_5 : decode cX1_refusesUnjudged 5 = .ok (.ifCond .eq 6, 3) := by decide +kernel
theorem dX1_refusesUnjudged_8 : decode cX1_refusesUnjudged 8 = .ok (.bipush (-12), 2) := by decide +kernel
theorem dX1_refusesUnjudged_10 : decode cX1_refusesUnjudged 10 = .ok (.ireturn, 1) := by decide +kernel
theorem dX1_refusesUnjudged_11 : decode cX1_refusesUnjudged 11 = .ok (.aload_n 1, 1) := by decide +kernel
theorem dX1_refusesUnjudged_12 : decode cX1_refusesUnjudged 12 = .ok (.getfield 89, 3) := by decide +kernel
theorem dX1_refusesUnjudged_15 : decode cX1_refusesUnjudged 15 = .ok (.ifCond .le 21, 3) := by decide +kernel
theorem dX1_refusesUnjudged_18 : decode cX1_refusesUnjudged 18 = .ok (.aload_n 0, 1) := by decide +kernel
theorem dX1_refusesUnjudged_19 : decode cX1_refusesUnjudged 19 = .ok (.getfield 28, 3) := by decide +kernel
theorem dX1_refusesUnjudged_22 : decode cX1_refusesUnjudged 22 = .ok (.getfield 113, 3) := by decide +kernel
theorem dX1_refusesUnjudged_25 : decode cX1_refusesUnjudged 25 = .ok (.sipush 400, 3) := by decide +kernel
theorem dX1_refusesUnjudged_28 : decode cX1_refusesUnjudged 28 = .ok (.if_icmp .lt 8, 3) := by decide +kernel
theorem dX1_refusesUnjudged_31 : decode cX1_refusesUnjudged 31 = .ok (.bipush (-13), 2) := by decide +kernel
theorem dX1_refusesUnjudged_33 : decode cX1_refusesUnjudged 33 = .ok (.goto 4, 3) := by decide +kernel
theorem dX1_refusesUnjudged_36 : decode cX1_refusesUnjudged 36 = .ok (.iconst 0, 1) := by decide +kernel
theorem dX1_refusesUnjudged_37 : decode cX1_refusesUnjudged 37 = .ok (.ireturn, 1) := by decide +kernel
theorem dX1_hasShut_0 : decode cX1_hasShut 0 = .ok (.iconst 0, 1) := by decide +kernel
theorem dX1_hasShut_1 : decode cX1_hasShut 1 = .ok (.istore_n 2, 1) := by decide +kernel
theorem dX1_hasShut_2 : decode cX1_hasShut 2 = .ok (.iload_n 2, 1) := by decide +kernel
theorem dX1_hasShut_3 : decode cX1_hasShut 3 = .ok (.aload_n 1, 1) := by decide +kernel
theorem dX1_hasShut_4 : decode cX1_hasShut 4 = .ok (.getfield 89, 3) := by decide +kernel
theorem dX1_hasShut_7 : decode cX1_hasShut 7 = .ok (.if_icmp .ge 29, 3) := by decide +kernel
theorem dX1_hasShut_10 : decode cX1_hasShut 10 = .ok (.aload_n 0, 1) := by decide +kernel
theorem dX1_hasShut_11 : decode cX1_hasShut 11 = .ok (.getfield 12, 3) := by decide +kernel
theorem dX1_hasShut_14 : decode cX1_hasShut 14 = .ok (.aload_n 1, 1) := by decide +kernel
theorem dX1_hasShut_15 : decode cX1_hasShut 15 = .ok (.getfield 114, 3) := by decide +kernel
theorem dX1_hasShut_18 : decode cX1_hasShut 18 = .ok (.iload_n 2, 1) := by decide +kernel
theorem dX1_hasShut_19 : decode cX1_hasShut 19 = .ok (.invokevirtual 79, 3) := by decide +kernel
theorem dX1_hasShut_22 : decode cX1_hasShut 22 = .ok (.invokevirtual 67, 3) := by decide +kernel
theorem dX1_hasShut_25 : decode cX1_hasShut 25 = .ok (.ifCond .eq 5, 3) := by decide +kernel
theorem dX1_hasShut_28 : decode cX1_hasShut 28 = .ok (.iconst 1, 1) := by decide +kernel
theorem dX1_hasShut_29 : decode cX1_hasShut 29 = .ok (.ireturn, 1) := by decide +kernel
theorem dX1_hasShut_30 : decode cX1_hasShut 30 = .ok (.iinc 2 1, 3) := by decide +kernel
theorem dX1_hasShut_33 : decode cX1_hasShut 33 = .ok (.goto (-31), 3) := by decide +kernel
theorem dX1_hasShut_36 : decode cX1_hasShut 36 = .ok (.iconst 0, 1) := by decide +kernel
theorem dX1_hasShut_37 : decode cX1_hasShut 37 = .ok (.ireturn, 1) := by decide +kernel
theorem dX1_goesOver_0 : decode cX1_goesOver 0 = .ok (.iconst 0, 1) := by decide +kernel
theorem dX1_goesOver_1 : decode cX1_goesOver 1 = .ok (.istore_n 2, 1) := by decide +kernel
theorem dX1_goesOver_2 : decode cX1_goesOver 2 = .ok (.iload_n 2, 1) := by decide +kernel
theorem dX1_goesOver_3 : decode cX1_goesOver 3 = .ok (.aload_n 1, 1) := by decide +kernel
theorem dX1_goesOver_4 : decode cX1_goesOver 4 = .ok (.getfield 89, 3) := by decide +kernel
theorem dX1_goesOver_7 : decode cX1_goesOver 7 = .ok (.if_icmp .ge 93, 3) := by decide +kernel
theorem dX1_goesOver_10 : decode cX1_goesOver 10 = .ok (.aload_n 1, 1) := by decide +kernel
theorem dX1_goesOver_11 : decode cX1_goesOver 11 = .ok (.getfield 114, 3) := by decide +kernel
theorem dX1_goesOver_14 : decode cX1_goesOver 14 = .ok (.iload_n 2, 1) := by decide +kernel
theorem dX1_goesOver_15 : decode cX1_goesOver 15 = .ok (.invokevirtual 79, 3) := by decide +kernel
theorem dX1_goesOver_18 : decode cX1_goesOver 18 = .ok (.istore_n 3, 1) := by decide +kernel
theorem dX1_goesOver_19 : decode cX1_goesOver 19 = .ok (.aload_n 0, 1) := by decide +kernel
theorem dX1_goesOver_20 : decode cX1_goesOver 20 = .ok (.getfield 12, 3) := by decide +kernel
theorem dX1_goesOver_23 : decode cX1_goesOver 23 = .ok (.getfield 116, 3) := by decide +kernel
theorem dX1_goesOver_26 : decode cX1_goesOver 26 = .ok (.iload_n 3, 1) := by decide +kernel
theorem dX1_goesOver_27 : decode cX1_goesOver 27 = .ok (.invokevirtual 119, 3) := by decide +kernel
theorem dX1_goesOver_30 : decode cX1_goesOver 30 = .ok (.lstore 4, 2) := by decide +kernel
theorem dX1_goesOver_32 : decode cX1_goesOver 32 = .ok (.iconst 0, 1) := by decide +kernel
theorem dX1_goesOver_33 : decode cX1_goesOver 33 = .ok (.istore 6, 2) := by decide +kernel
theorem dX1_goesOver_35 : decode cX1_goesOver 35 = .ok (.iload 6, 2) := by decide +kernel
theorem dX1_goesOver_37 : decode cX1_goesOver 37 = .ok (.aload_n 1, 1) := by decide +kernel
theorem dX1_goesOver_38 : decode cX1_goesOver 38 = .ok (.getfield 89, 3) := by decide +kernel
theorem dX1_goesOver_41 : decode cX1_goesOver 41 = .ok (.if_icmp .ge 40, 3) := by decide +kernel
theorem dX1_goesOver_44 : decode cX1_goesOver 44 = .ok (.lload 4, 2) := by decide +kernel
theorem dX1_goesOver_46 : decode cX1_goesOver 46 = .ok (.aload_n 1, 1) := by decide +kernel
theorem dX1_goesOver_47 : decode cX1_goesOver 47 = .ok (.getfield 114, 3) := by decide +kernel
theorem dX1_goesOver_50 : decode cX1_goesOver 50 = .ok (.iload 6, 2) := by decide +kernel
theorem dX1_goesOver_52 : decode cX1_goesOver 52 = .ok (.invokevirtual 79, 3) := by decide +kernel
theorem dX1_goesOver_55 : decode cX1_goesOver 55 = .ok (.iload_n 3, 1) := by decide +kernel
theorem dX1_goesOver_56 : decode cX1_goesOver 56 = .ok (.if_icmp .ne 15, 3) := by decide +kernel
theorem dX1_goesOver_59 : decode cX1_goesOver 59 = .ok (.aload_n 1, 1) := by decide +kernel
theorem dX1_goesOver_60 : decode cX1_goesOver 60 = .ok (.getfield 122, 3) := by decide +kernel
theorem dX1_goesOver_63 : decode cX1_goesOver 63 = .ok (.iload 6, 2) := by decide +kernel
theorem dX1_goesOver_65 : decode cX1_goesOver 65 = .ok (.invokevirtual 119, 3) := by decide +kernel
theorem dX1_goesOver_68 : decode cX1_goesOver 68 = .ok (.goto 4, 3) := by decide +kernel
theorem dX1_goesOver_71 : decode cX1_goesOver 71 = .ok (.lconst 0, 1) := by decide +kernel
theorem dX1_goesOver_72 : decode cX1_goesOver 72 = .ok (.ladd, 1) := by decide +kernel
theorem dX1_goesOver_73 : decode cX1_goesOver 73 = .ok (.lstore 4, 2) := by decide +kernel
theorem dX1_goesOver_75 : decode cX1_goesOver 75 = .ok (.iinc 6 1, 3) := by decide +kernel
theorem dX1_goesOver_78 : decode cX1_goesOver 78 = .ok (.goto (-43), 3) := by decide +kernel
theorem dX1_goesOver_81 : decode cX1_goesOver 81 = .ok (.lload 4, 2) := by decide +kernel
theorem dX1_goesOver_83 : decode cX1_goesOver 83 = .ok (.ldc2_w 125, 3) := by decide +kernel
theorem dX1_goesOver_86 : decode cX1_goesOver 86 = .ok (.invokestatic 127, 3) := by decide +kernel
theorem dX1_goesOver_89 : decode cX1_goesOver 89 = .ok (.ifCond .ne 5, 3) := by decide +kernel
theorem dX1_goesOver_92 : decode cX1_goesOver 92 = .ok (.iconst 1, 1) := by decide +kernel
theorem dX1_goesOver_93 : decode cX1_goesOver 93 = .ok (.ireturn, 1) := by decide +kernel
theorem dX1_goesOver_94 : decode cX1_goesOver 94 = .ok (.iinc 2 1, 3) := by decide +kernel
theorem dX1_goesOver_97 : decode cX1_goesOver 97 = .ok (.goto (-95), 3) := by decide +kernel
theorem dX1_goesOver_100 : decode cX1_goesOver 100 = .ok (.iconst 0, 1) := by decide +kernel
theorem dX1_goesOver_101 : decode cX1_goesOver 101 = .ok (.ireturn, 1) := by decide +kernel
theorem dX1_enter_0 : decode cX1_enter 0 = .ok (.iconst 0, 1) := by decide +kernel
theorem dX1_enter_1 : decode cX1_enter 1 = .ok (.istore 6, 2) := by decide +kernel
theorem dX1_enter_3 : decode cX1_enter 3 = .ok (.iload 6, 2) := by decide +kernel
theorem dX1_enter_5 : decode cX1_enter 5 = .ok (.aload_n 1, 1) := by decide +kernel
theorem dX1_enter_6 : decode cX1_enter 6 = .ok (.getfield 89, 3) := by decide +kernel
theorem dX1_enter_9 : decode cX1_enter 9 = .ok (.if_icmp .ge 34, 3) := by decide +kernel
theorem dX1_enter_12 : decode cX1_enter 12 = .ok (.aload_n 0, 1) := by decide +kernel
theorem dX1_enter_13 : decode cX1_enter 13 = .ok (.getfield 12, 3) := by decide +kernel
theorem dX1_enter_16 : decode cX1_enter 16 = .ok (.aload_n 1, 1) := by decide +kernel
theorem dX1_enter_17 : decode cX1_enter 17 = .ok (.getfield 114, 3) := by decide +kernel
theorem dX1_enter_20 : decode cX1_enter 20 = .ok (.iload 6, 2) := by decide +kernel
theorem dX1_enter_22 : decode cX1_enter 22 = .ok (.invokevirtual 79, 3) := by decide +kernel
theorem dX1_enter_25 : decode cX1_enter 25 = .ok (.aload_n 1, 1) := by decide +kernel
theorem dX1_enter_26 : decode cX1_enter 26 = .ok (.getfield 122, 3) := by decide +kernel
theorem dX1_enter_29 : decode cX1_enter 29 = .ok (.iload 6, 2) := by decide +kernel
theorem dX1_enter_31 : decode cX1_enter 31 = .ok (.invokevirtual 119, 3) := by decide +kernel
theorem dX1_enter_34 : decode cX1_enter 34 = .ok (.invokevirtual 131, 3) := by decide +kernel
theorem dX1_enter_37 : decode cX1_enter 37 = .ok (.iinc 6 1, 3) := by decide +kernel
theorem dX1_enter_40 : decode cX1_enter 40 = .ok (.goto (-37), 3) := by decide +kernel
theorem dX1_enter_43 : decode cX1_enter 43 = .ok (.aload_n 0, 1) := by decide +kernel
theorem dX1_enter_44 : decode cX1_enter 44 = .ok (.getfield 28, 3) := by decide +kernel
theorem dX1_enter_47 : decode cX1_enter 47 = .ok (.aload_n 1, 1) := by decide +kernel
theorem dX1_enter_48 : decode cX1_enter 48 = .ok (.iload_n 2, 1) := by decide +kernel
theorem dX1_enter_49 : decode cX1_enter 49 = .ok (.iload_n 3, 1) := by decide +kernel
theorem dX1_enter_50 : decode cX1_enter 50 = .ok (.iload 4, 2) := by decide +kernel
theorem dX1_enter_52 : decode cX1_enter 52 = .ok (.iload 5, 2) := by decide +kernel
theorem dX1_enter_54 : decode cX1_enter 54 = .ok (.invokevirtual 135, 3) := by decide +kernel
theorem dX1_enter_57 : decode cX1_enter 57 = .ok (.ireturn, 1) := by decide +kernel
theorem dX1_refusesBack_0 : decode cX1_refusesBack 0 = .ok (.aload_n 0, 1) := by decide +kernel
theorem dX1_refusesBack_1 : decode cX1_refusesBack 1 = .ok (.getfield 28, 3) := by decide +kernel
theorem dX1_refusesBack_4 : decode cX1_refusesBack 4 = .ok (.iload_n 1, 1) := by decide +kernel
theorem dX1_refusesBack_5 : decode cX1_refusesBack 5 = .ok (.invokevirtual 139, 3) := by decide +kernel
theorem dX1_refusesBack_8 : decode cX1_refusesBack 8 = .ok (.ifCond .ne 6, 3) := by decide +kernel
theorem dX1_refusesBack_11 : decode cX1_refusesBack 11 = .ok (.bipush (-2), 2) := by decide +kernel
theorem dX1_refusesBack_13 : decode cX1_refusesBack 13 = .ok (.ireturn, 1) := by decide +kernel
theorem dX1_refusesBack_14 : decode cX1_refusesBack 14 = .ok (.aload_n 0, 1) := by decide +kernel
theorem dX1_refusesBack_15 : decode cX1_refusesBack 15 = .ok (.getfield 28, 3) := by decide +kernel
theorem dX1_refusesBack_18 : decode cX1_refusesBack 18 = .ok (.getfield 140, 3) := by decide +kernel
theorem dX1_refusesBack_21 : decode cX1_refusesBack 21 = .ok (.iload_n 1, 1) := by decide +kernel
theorem dX1_refusesBack_22 : decode cX1_refusesBack 22 = .ok (.invokevirtual 79, 3) := by decide +kernel
theorem dX1_refusesBack_25 : decode cX1_refusesBack 25 = .ok (.ifCond .eq 6, 3) := by decide +kernel
theorem dX1_refusesBack_28 : decode cX1_refusesBack 28 = .ok (.bipush (-4), 2) := by decide +kernel
theorem dX1_refusesBack_30 : decode cX1_refusesBack 30 = .ok (.ireturn, 1) := by decide +kernel
theorem dX1_refusesBack_31 : decode cX1_refusesBack 31 = .ok (.aload_n 0, 1) := by decide +kernel
theorem dX1_refusesBack_32 : decode cX1_refusesBack 32 = .ok (.getfield 28, 3) := by decide +kernel
theorem dX1_refusesBack_35 : decode cX1_refusesBack 35 = .ok (.getfield 143, 3) := by decide +kernel
theorem dX1_refusesBack_38 : decode cX1_refusesBack 38 = .ok (.iload_n 1, 1) := by decide +kernel
theorem dX1_refusesBack_39 : decode cX1_refusesBack 39 = .ok (.invokevirtual 79, 3) := by decide +kernel
theorem dX1_refusesBack_42 : decode cX1_refusesBack 42 = .ok (.iconst (-1), 1) := by decide +kernel
theorem dX1_refusesBack_43 : decode cX1_refusesBack 43 = .ok (.if_icmp .eq 6, 3) := by decide +kernel
theorem dX1_refusesBack_46 : decode cX1_refusesBack 46 = .ok (.bipush (-5), 2) := by decide +kernel
theorem dX1_refusesBack_48 : decode cX1_refusesBack 48 = .ok (.ireturn, 1) := by decide +kernel
theorem dX1_refusesBack_49 : decode cX1_refusesBack 49 = .ok (.aload_n 0, 1) := by decide +kernel
theorem dX1_refusesBack_50 : decode cX1_refusesBack 50 = .ok (.getfield 28, 3) := by decide +kernel
theorem dX1_refusesBack_53 : decode cX1_refusesBack 53 = .ok (.iload_n 1, 1) := by decide +kernel
theorem dX1_refusesBack_54 : decode cX1_refusesBack 54 = .ok (.aload_n 3, 1) := by decide +kernel
theorem dX1_refusesBack_55 : decode cX1_refusesBack 55 = .ok (.invokevirtual 146, 3) := by decide +kernel
theorem dX1_refusesBack_58 : decode cX1_refusesBack 58 = .ok (.aload_n 0, 1) := by decide +kernel
theorem dX1_refusesBack_59 : decode cX1_refusesBack 59 = .ok (.aload_n 3, 1) := by decide +kernel
theorem dX1_refusesBack_60 : decode cX1_refusesBack 60 = .ok (.iload_n 2, 1) := by decide +kernel
theorem dX1_refusesBack_61 : decode cX1_refusesBack 61 = .ok (.invokevirtual 150, 3) := by decide +kernel
theorem dX1_refusesBack_64 : decode cX1_refusesBack 64 = .ok (.ireturn, 1) := by decide +kernel
theorem dX1_turnBack_0 : decode cX1_turnBack 0 = .ok (.aload_n 0, 1) := by decide +kernel
theorem dX1_turnBack_1 : decode cX1_turnBack 1 = .ok (.aload_n 3, 1) := by decide +kernel
theorem dX1_turnBack_2 : decode cX1_turnBack 2 = .ok (.iload_n 2, 1) := by decide +kernel
theorem dX1_turnBack_3 : decode cX1_turnBack 3 = .ok (.aload_n 0, 1) := by decide +kernel
theorem dX1_turnBack_4 : decode cX1_turnBack 4 = .ok (.getfield 28, 3) := by decide +kernel
theorem dX1_turnBack_7 : decode cX1_turnBack 7 = .ok (.getfield 154, 3) := by decide +kernel
theorem dX1_turnBack_10 : decode cX1_turnBack 10 = .ok (.iload_n 1, 1) := by decide +kernel
theorem dX1_turnBack_11 : decode cX1_turnBack 11 = .ok (.invokevirtual 79, 3) := by decide +kernel
theorem dX1_turnBack_14 : decode cX1_turnBack 14 = .ok (.iconst 1, 1) := by decide +kernel
theorem dX1_turnBack_15 : decode cX1_turnBack 15 = .ok (.iload_n 1, 1) := by decide +kernel
theorem dX1_turnBack_16 : decode cX1_turnBack 16 = .ok (.invokevirtual 157, 3) := by decide +kernel
theorem dX1_turnBack_19 : decode cX1_turnBack 19 = .ok (.istore 4, 2) := by decide +kernel
theorem dX1_turnBack_21 : decode cX1_turnBack 21 = .ok (.aload_n 0, 1) := by decide +kernel
theorem dX1_turnBack_22 : decode cX1_turnBack 22 = .ok (.getfield 28, 3) := by decide +kernel
theorem dX1_turnBack_25 : decode cX1_turnBack 25 = .ok (.getfield 143, 3) := by decide +kernel
theorem dX1_turnBack_28 : decode cX1_turnBack 28 = .ok (.iload_n 1, 1) := by decide +kernel
theorem dX1_turnBack_29 : decode cX1_turnBack 29 = .ok (.iload 4, 2) := by decide +kernel
theorem dX1_turnBack_31 : decode cX1_turnBack 31 = .ok (.invokevirtual 160, 3) := by decide +kernel
theorem dX1_turnBack_34 : decode cX1_turnBack 34 = .ok (.iload 4, 2) := by decide +kernel
theorem dX1_turnBack_36 : decode cX1_turnBack 36 = .ok (.ireturn, 1) := by decide +kernel
theorem dX1_refusesClose_0 : decode cX1_refusesClose 0 = .ok (.aload_n 0, 1) := by decide +kernel
theorem dX1_refusesClose_1 : decode cX1_refusesClose 1 = .ok (.getfield 21, 3) := by decide +kernel
theorem dX1_refusesClose_4 : decode cX1_refusesClose 4 = .ok (.getfield 99, 3) := by decide +kernel
theorem dX1_refusesClose_7 : decode cX1_refusesClose 7 = .ok (.aload_n 0, 1) := by decide +kernel
theorem dX1_refusesClose_8 : decode cX1_refusesClose 8 = .ok (.getfield 21, 3) := by decide +kernel
theorem dX1_refusesClose_11 : decode cX1_refusesClose 11 = .ok (.getfield 74, 3) := by decide +kernel
theorem dX1_refusesClose_14 : decode cX1_refusesClose 14 = .ok (.if_icmp .ge 11, 3) := by decide +kernel
theorem dX1_refusesClose_17 : decode cX1_refusesClose 17 = .ok (.aload_n 0, 1) := by decide +kernel
theorem dX1_refusesClose_18 : decode cX1_refusesClose 18 = .ok (.getfield 32, 3) := by decide +kernel
theorem dX1_refusesClose_21 : decode cX1_refusesClose 21 = .ok (.iconst (-1), 1) := by decide +kernel
theorem dX1_refusesClose_22 : decode cX1_refusesClose 22 = .ok (.if_icmp .ne 6, 3) := by decide +kernel
theorem dX1_refusesClose_25 : decode cX1_refusesClose 25 = .ok (.bipush (-6), 2) := by decide +kernel
theorem dX1_refusesClose_27 : decode cX1_refusesClose 27 = .ok (.ireturn, 1) := by decide +kernel
theorem dX1_refusesClose_28 : decode cX1_refusesClose 28 = .ok (.aload_n 0, 1) := by decide +kernel
theorem dX1_refusesClose_29 : decode cX1_refusesClose 29 = .ok (.aload_n 0, 1) := by decide +kernel
theorem dX1_refusesClose_30 : decode cX1_refusesClose 30 = .ok (.getfield 21, 3) := by decide +kernel
theorem dX1_refusesClose_33 : decode cX1_refusesClose 33 = .ok (.getfield 99, 3) := by decide +kernel
theorem dX1_refusesClose_36 : decode cX1_refusesClose 36 = .ok (.aload_n 1, 1) := by decide +kernel
theorem dX1_refusesClose_37 : decode cX1_refusesClose 37 = .ok (.invokevirtual 164, 3) := by decide +kernel
theorem dX1_refusesClose_40 : decode cX1_refusesClose 40 = .ok (.aload_n 0, 1) := by decide +kernel
theorem dX1_refusesClose_41 : decode cX1_refusesClose 41 = .ok (.aload_n 1, 1) := by decide +kernel
theorem dX1_refusesClose_42 : decode cX1_refusesClose 42 = .ok (.invokevirtual 106, 3) := by decide +kernel
theorem dX1_refusesClose_45 : decode cX1_refusesClose 45 = .ok (.ireturn, 1) := by decide +kernel
theorem dX1_fillClosing_0 : decode cX1_fillClosing 0 = .ok (.aload_n 0, 1) := by decide +kernel
theorem dX1_fillClosing_1 : decode cX1_fillClosing 1 = .ok (.getfield 28, 3) := by decide +kernel
theorem dX1_fillClosing_4 : decode cX1_fillClosing 4 = .ok (.aload_n 0, 1) := by decide +kernel
theorem dX1_fillClosing_5 : decode cX1_fillClosing 5 = .ok (.getfield 21, 3) := by decide +kernel
theorem dX1_fillClosing_8 : decode cX1_fillClosing 8 = .ok (.iload_n 1, 1) := by decide +kernel
theorem dX1_fillClosing_9 : decode cX1_fillClosing 9 = .ok (.invokevirtual 167, 3) := by decide +kernel
theorem dX1_fillClosing_12 : decode cX1_fillClosing 12 = .ok (.aload_n 0, 1) := by decide +kernel
theorem dX1_fillClosing_13 : decode cX1_fillClosing 13 = .ok (.getfield 21, 3) := by decide +kernel
theorem dX1_fillClosing_16 : decode cX1_fillClosing 16 = .ok (.iload_n 1, 1) := by decide +kernel
theorem dX1_fillClosing_17 : decode cX1_fillClosing 17 = .ok (.invokevirtual 170, 3) := by decide +kernel
theorem dX1_fillClosing_20 : decode cX1_fillClosing 20 = .ok (.aload_n 0, 1) := by decide +kernel
theorem dX1_fillClosing_21 : decode cX1_fillClosing 21 = .ok (.getfield 41, 3) := by decide +kernel
theorem dX1_fillClosing_24 : decode cX1_fillClosing 24 = .ok (.invokevirtual 173, 3) := by decide +kernel
theorem dX1_fillClosing_27 : decode cX1_fillClosing 27 = .ok (.aload_n 2, 1) := by decide +kernel
theorem dX1_fillClosing_28 : decode cX1_fillClosing 28 = .ok (.invokevirtual 177, 3) := by decide +kernel
theorem dX1_fillClosing_31 : decode cX1_fillClosing 31 = .ok (.iconst 0, 1) := by decide +kernel
theorem dX1_fillClosing_32 : decode cX1_fillClosing 32 = .ok (.istore_n 3, 1) := by decide +kernel
theorem dX1_fillClosing_33 : decode cX1_fillClosing 33 = .ok (.iload_n 3, 1) := by decide +kernel
theorem dX1_fillClosing_34 : decode cX1_fillClosing 34 = .ok (.aload_n 0, 1) := by decide +kernel
theorem dX1_fillClosing_35 : decode cX1_fillClosing 35 = .ok (.getfield 12, 3) := by decide +kernel
theorem dX1_fillClosing_38 : decode cX1_fillClosing 38 = .ok (.getfield 61, 3) := by decide +kernel
theorem dX1_fillClosing_41 : decode cX1_fillClosing 41 = .ok (.if_icmp .ge 61, 3) := by decide +kernel
theorem dX1_fillClosing_44 : decode cX1_fillClosing 44 = .ok (.aload_n 0, 1) := by decide +kernel
theorem dX1_fillClosing_45 : decode cX1_fillClosing 45 = .ok (.getfield 12, 3) := by decide +kernel
theorem dX1_fillClosing_48 : decode cX1_fillClosing 48 = .ok (.getfield 178, 3) := by decide +kernel
theorem dX1_fillClosing_51 : decode cX1_fillClosing 51 = .ok (.iload_n 3, 1) := by decide +kernel
theorem dX1_fillClosing_52 : decode cX1_fillClosing 52 = .ok (.invokevirtual 79, 3) := by decide +kernel
theorem dX1_fillClosing_55 : decode cX1_fillClosing 55 = .ok (.istore 4, 2) := by decide +kernel
theorem dX1_fillClosing_57 : decode cX1_fillClosing 57 = .ok (.aload_n 0, 1) := by decide +kernel
theorem dX1_fillClosing_58 : decode cX1_fillClosing 58 = .ok (.iload 4, 2) := by decide +kernel
theorem dX1_fillClosing_60 : decode cX1_fillClosing 60 = .ok (.invokevirtual 181, 3) := by decide +kernel
theorem dX1_fillClosing_63 : decode cX1_fillClosing 63 = .ok (.ifCond .eq 33, 3) := by decide +kernel
theorem dX1_fillClosing_66 : decode cX1_fillClosing 66 = .ok (.aload_n 0, 1) := by decide +kernel
theorem dX1_fillClosing_67 : decode cX1_fillClosing 67 = .ok (.getfield 41, 3) := by decide +kernel
theorem dX1_fillClosing_70 : decode cX1_fillClosing 70 = .ok (.iload 4, 2) := by decide +kernel
theorem dX1_fillClosing_72 : decode cX1_fillClosing 72 = .ok (.invokevirtual 119, 3) := by decide +kernel
theorem dX1_fillClosing_75 : decode cX1_fillClosing 75 = .ok (.lconst 0, 1) := by decide +kernel
theorem dX1_fillClosing_76 : decode cX1_fillClosing 76 = .ok (.lcmp, 1) := by decide +kernel
theorem dX1_fillClosing_77 : decode cX1_fillClosing 77 = .ok (.ifCond .eq 19, 3) := by decide +kernel
theorem dX1_fillClosing_80 : decode cX1_fillClosing 80 = .ok (.aload_n 2, 1) := by decide +kernel
theorem dX1_fillClosing_81 : decode cX1_fillClosing 81 = .ok (.iload 4, 2) := by decide +kernel
theorem dX1_fillClosing_83 : decode cX1_fillClosing 83 = .ok (.aload_n 0, 1) := by decide +kernel
theorem dX1_fillClosing_84 : decode cX1_fillClosing 84 = .ok (.getfield 41, 3) := by decide +kernel
theorem dX1_fillClosing_87 : decode cX1_fillClosing 87 = .ok (.iload 4, 2) := by decide +kernel
theorem dX1_fillClosing_89 : decode cX1_fillClosing 89 = .ok (.invokevirtual 119, 3) := by decide +kernel
theorem dX1_fillClosing_92 : decode cX1_fillClosing 92 = .ok (.lneg, 1) := by decide +kernel
theorem dX1_fillClosing_93 : decode cX1_fillClosing 93 = .ok (.invokevirtual 184, 3) := by decide +kernel
theorem dX1_fillClosing_96 : decode cX1_fillClosing 96 = .ok (.iinc 3 1, 3) := by decide +kernel
theorem dX1_fillClosing_99 : decode cX1_fillClosing 99 = .ok (.goto (-66), 3) := by decide +kernel
theorem dX1_fillClosing_102 : decode cX1_fillClosing 102 = .ok (.aload_n 2, 1) := by decide +kernel
theorem dX1_fillClosing_103 : decode cX1_fillClosing 103 = .ok (.invokevirtual 92, 3) := by decide +kernel
theorem dX1_fillClosing_106 : decode cX1_fillClosing 106 = .ok (.lstore_n 3, 1) := by decide +kernel
theorem dX1_fillClosing_107 : decode cX1_fillClosing 107 = .ok (.lload_n 3, 1) := by decide +kernel
theorem dX1_fillClosing_108 : decode cX1_fillClosing 108 = .ok (.lconst 0, 1) := by decide +kernel
theorem dX1_fillClosing_109 : decode cX1_fillClosing 109 = .ok (.lcmp, 1) := by decide +kernel
theorem dX1_fillClosing_110 : decode cX1_fillClosing 110 = .ok (.ifCond .eq 13, 3) := by decide +kernel
theorem dX1_fillClosing_113 : decode cX1_fillClosing 113 = .ok (.aload_n 2, 1) := by decide +kernel
theorem dX1_fillClosing_114 : decode cX1_fillClosing 114 = .ok (.aload_n 0, 1) := by decide +kernel
theorem dX1_fillClosing_115 : decode cX1_fillClosing 115 = .ok (.getfield 32, 3) := by decide +kernel
theorem dX1_fillClosing_118 : decode cX1_fillClosing 118 = .ok (.lload_n 3, 1) := by decide +kernel
theorem dX1_fillClosing_119 : decode cX1_fillClosing 119 = .ok (.lneg, 1) := by decide +kernel
theorem dX1_fillClosing_120 : decode cX1_fillClosing 120 = .ok (.invokevirtual 184, 3) := by decide +kernel
theorem dX1_fillClosing_123 : decode cX1_fillClosing 123 = .ok (.return_, 1) := by decide +kernel
theorem dX1_isClosedOut_0 : decode cX1_isClosedOut 0 = .ok (.aload_n 0, 1) := by decide +kernel
theorem dX1_isClosedOut_1 : decode cX1_isClosedOut 1 = .ok (.getfield 12, 3) := by decide +kernel
theorem dX1_isClosedOut_4 : decode cX1_isClosedOut 4 = .ok (.getfield 75, 3) := by decide +kernel
theorem dX1_isClosedOut_7 : decode cX1_isClosedOut 7 = .ok (.iload_n 1, 1) := by decide +kernel
theorem dX1_isClosedOut_8 : decode cX1_isClosedOut 8 = .ok (.invokevirtual 79, 3) := by decide +kernel
theorem dX1_isClosedOut_11 : decode cX1_isClosedOut 11 = .ok (.istore_n 2, 1) := by decide +kernel
theorem dX1_isClosedOut_12 : decode cX1_isClosedOut 12 = .ok (.aload_n 0, 1) := by decide +kernel
theorem dX1_isClosedOut_13 : decode cX1_isClosedOut 13 = .ok (.getfield 12, 3) := by decide +kernel
theorem dX1_isClosedOut_16 : decode cX1_isClosedOut 16 = .ok (.iload_n 1, 1) := by decide +kernel
theorem dX1_isClosedOut_17 : decode cX1_isClosedOut 17 = .ok (.invokevirtual 64, 3) := by decide +kernel
theorem dX1_isClosedOut_20 : decode cX1_isClosedOut 20 = .ok (.ifCond .eq 17, 3) := by decide +kernel
theorem dX1_isClosedOut_23 : decode cX1_isClosedOut 23 = .ok (.iload_n 2, 1) := by decide +kernel
theorem dX1_isClosedOut_24 : decode cX1_isClosedOut 24 = .ok (.iconst 3, 1) := by decide +kernel
theorem dX1_isClosedOut_25 : decode cX1_isClosedOut 25 = .ok (.if_icmp .eq 8, 3) := by decide +kernel
theorem dX1_isClosedOut_28 : decode cX1_isClosedOut 28 = .ok (.iload_n 2, 1) := by decide +kernel
theorem dX1_isClosedOut_29 : decode cX1_isClosedOut 29 = .ok (.iconst 4, 1) := by decide +kernel
theorem dX1_isClosedOut_30 : decode cX1_isClosedOut 30 = .ok (.if_icmp .ne 7, 3) := by decide +kernel
theorem dX1_isClosedOut_33 : decode cX1_isClosedOut 33 = .ok (.iconst 1, 1) := by decide +kernel
theorem dX1_isClosedOut_34 : decode cX1_isClosedOut 34 = .ok (.goto 4, 3) := by decide +kernel
theorem dX1_isClosedOut_37 : decode cX1_isClosedOut 37 = .ok (.iconst 0, 1) := by decide +kernel
theorem dX1_isClosedOut_38 : decode cX1_isClosedOut 38 = .ok (.ireturn, 1) := by decide +kernel
theorem dX1_closePeriod_0 : decode cX1_closePeriod 0 = .ok (.aload_n 0, 1) := by decide +kernel
theorem dX1_closePeriod_1 : decode cX1_closePeriod 1 = .ok (.getfield 21, 3) := by decide +kernel
theorem dX1_closePeriod_4 : decode cX1_closePeriod 4 = .ok (.getfield 99, 3) := by decide +kernel
theorem dX1_closePeriod_7 : decode cX1_closePeriod 7 = .ok (.istore_n 2, 1) := by decide +kernel
theorem dX1_closePeriod_8 : decode cX1_closePeriod 8 = .ok (.iconst (-1), 1) := by decide +kernel
theorem dX1_closePeriod_9 : decode cX1_closePeriod 9 = .ok (.istore_n 3, 1) := by decide +kernel
theorem dX1_closePeriod_10 : decode cX1_closePeriod 10 = .ok (.aload_n 1, 1) := by decide +kernel
theorem dX1_closePeriod_11 : decode cX1_closePeriod 11 = .ok (.getfield 89, 3) := by decide +kernel
theorem dX1_closePeriod_14 : decode cX1_closePeriod 14 = .ok (.ifCond .le 20, 3) := by decide +kernel
theorem dX1_closePeriod_17 : decode cX1_closePeriod 17 = .ok (.aload_n 0, 1) := by decide +kernel
theorem dX1_closePeriod_18 : decode cX1_closePeriod 18 = .ok (.aload_n 1, 1) := by decide +kernel
theorem dX1_closePeriod_19 : decode cX1_closePeriod 19 = .ok (.aload_n 0, 1) := by decide +kernel
theorem dX1_closePeriod_20 : decode cX1_closePeriod 20 = .ok (.getfield 21, 3) := by decide +kernel
theorem dX1_closePeriod_23 : decode cX1_closePeriod 23 = .ok (.iload_n 2, 1) := by decide +kernel
theorem dX1_closePeriod_24 : decode cX1_closePeriod 24 = .ok (.invokevirtual 170, 3) := by decide +kernel
theorem dX1_closePeriod_27 : decode cX1_closePeriod 27 = .ok (.iconst 0, 1) := by decide +kernel
theorem dX1_closePeriod_28 : decode cX1_closePeriod 28 = .ok (.iconst 2, 1) := by decide +kernel
theorem dX1_closePeriod_29 : decode cX1_closePeriod 29 = .ok (.iload_n 2, 1) := by decide +kernel
theorem dX1_closePeriod_30 : decode cX1_closePeriod 30 = .ok (.invokevirtual 157, 3) := by decide +kernel
theorem dX1_closePeriod_33 : decode cX1_closePeriod 33 = .ok (.istore_n 3, 1) := by decide +kernel
theorem dX1_closePeriod_34 : decode cX1_closePeriod 34 = .ok (.aload_n 0, 1) := by decide +kernel
theorem dX1_closePeriod_35 : decode cX1_closePeriod 35 = .ok (.getfield 21, 3) := by decide +kernel
theorem dX1_closePeriod_38 : decode cX1_closePeriod 38 = .ok (.iload_n 3, 1) := by decide +kernel
theorem dX1_closePeriod_39 : decode cX1_closePeriod 39 = .ok (.invokevirtual 186, 3) := by decide +kernel
theorem dX1_closePeriod_42 : decode cX1_closePeriod 42 = .ok (.iload_n 2, 1) := by decide +kernel
theorem dX1_closePeriod_43 : decode cX1_closePeriod 43 = .ok (.ireturn, 1) := by decide +kernel
theorem dX1_refusesReopen_0 : decode cX1_refusesReopen 0 = .ok (.aload_n 0, 1) := by decide +kernel
theorem dX1_refusesReopen_1 : decode cX1_refusesReopen 1 = .ok (.getfield 21, 3) := by decide +kernel
theorem dX1_refusesReopen_4 : decode cX1_refusesReopen 4 = .ok (.getfield 99, 3) := by decide +kernel
theorem dX1_refusesReopen_7 : decode cX1_refusesReopen 7 = .ok (.ifCond .gt 6, 3) := by decide +kernel
theorem dX1_refusesReopen_10 : decode cX1_refusesReopen 10 = .ok (.bipush (-6), 2) := by decide +kernel
theorem dX1_refusesReopen_12 : decode cX1_refusesReopen 12 = .ok (.ireturn, 1) := by decide +kernel
theorem dX1_refusesReopen_13 : decode cX1_refusesReopen 13 = .ok (.aload_n 1, 1) := by decide +kernel
theorem dX1_refusesReopen_14 : decode cX1_refusesReopen 14 = .ok (.invokevirtual 177, 3) := by decide +kernel
theorem dX1_refusesReopen_17 : decode cX1_refusesReopen 17 = .ok (.aload_n 0, 1) := by decide +kernel
theorem dX1_refusesReopen_18 : decode cX1_refusesReopen 18 = .ok (.getfield 21, 3) := by decide +kernel
theorem dX1_refusesReopen_21 : decode cX1_refusesReopen 21 = .ok (.aload_n 0, 1) := by decide +kernel
theorem dX1_refusesReopen_22 : decode cX1_refusesReopen 22 = .ok (.getfield 21, 3) := by decide +kernel
theorem dX1_refusesReopen_25 : decode cX1_refusesReopen 25 = .ok (.getfield 99, 3) := by decide +kernel
theorem dX1_refusesReopen_28 : decode cX1_refusesReopen 28 = .ok (.iconst 1, 1) := by decide +kernel
theorem dX1_refusesReopen_29 : decode cX1_refusesReopen 29 = .ok (.isub, 1) := by decide +kernel
theorem dX1_refusesReopen_30 : decode cX1_refusesReopen 30 = .ok (.invokevirtual 189, 3) := by decide +kernel
theorem dX1_refusesReopen_33 : decode cX1_refusesReopen 33 = .ok (.istore_n 2, 1) := by decide +kernel
theorem dX1_refusesReopen_34 : decode cX1_refusesReopen 34 = .ok (.iload_n 2, 1) := by decide +kernel
theorem dX1_refusesReopen_35 : decode cX1_refusesReopen 35 = .ok (.iconst (-1), 1) := by decide +kernel
theorem dX1_refusesReopen_36 : decode cX1_refusesReopen 36 = .ok (.if_icmp .eq 12, 3) := by decide +kernel
theorem dX1_refusesReopen_39 : decode cX1_refusesReopen 39 = .ok (.aload_n 0, 1) := by decide +kernel
theorem dX1_refusesReopen_40 : decode cX1_refusesReopen 40 = .ok (.getfield 28, 3) := by decide +kernel
theorem dX1_refusesReopen_43 : decode cX1_refusesReopen 43 = .ok (.iload_n 2, 1) := by decide +kernel
theorem dX1_refusesReopen_44 : decode cX1_refusesReopen 44 = .ok (.aload_n 1, 1) := by decide +kernel
theorem dX1_refusesReopen_45 : decode cX1_refusesReopen 45 = .ok (.invokevirtual 146, 3) := by decide +kernel
theorem dX1_refusesReopen_48 : decode cX1_refusesReopen 48 = .ok (.aload_n 0, 1) := by decide +kernel
theorem dX1_refusesReopen_49 : decode cX1_refusesReopen 49 = .ok (.aload_n 1, 1) := by decide +kernel
theorem dX1_refusesReopen_50 : decode cX1_refusesReopen 50 = .ok (.invokevirtual 106, 3) := by decide +kernel
theorem dX1_refusesReopen_53 : decode cX1_refusesReopen 53 = .ok (.ireturn, 1) := by decide +kernel
theorem dX1_reopenPeriod_0 : decode cX1_reopenPeriod 0 = .ok (.aload_n 0, 1) := by decide +kernel
theorem dX1_reopenPeriod_1 : decode cX1_reopenPeriod 1 = .ok (.getfield 21, 3) := by decide +kernel
theorem dX1_reopenPeriod_4 : decode cX1_reopenPeriod 4 = .ok (.getfield 99, 3) := by decide +kernel
theorem dX1_reopenPeriod_7 : decode cX1_reopenPeriod 7 = .ok (.iconst 1, 1) := by decide +kernel
theorem dX1_reopenPeriod_8 : decode cX1_reopenPeriod 8 = .ok (.isub, 1) := by decide +kernel
theorem dX1_reopenPeriod_9 : decode cX1_reopenPeriod 9 = .ok (.istore_n 2, 1) := by decide +kernel
theorem dX1_reopenPeriod_10 : decode cX1_reopenPeriod 10 = .ok (.aload_n 1, 1) := by decide +kernel
theorem dX1_reopenPeriod_11 : decode cX1_reopenPeriod 11 = .ok (.getfield 89, 3) := by decide +kernel
theorem dX1_reopenPeriod_14 : decode cX1_reopenPeriod 14 = .ok (.ifCond .le 20, 3) := by decide +kernel
theorem dX1_reopenPeriod_17 : decode cX1_reopenPeriod 17 = .ok (.aload_n 0, 1) := by decide +kernel
theorem dX1_reopenPeriod_18 : decode cX1_reopenPeriod 18 = .ok (.aload_n 1, 1) := by decide +kernel
theorem dX1_reopenPeriod_19 : decode cX1_reopenPeriod 19 = .ok (.aload_n 0, 1) := by decide +kernel
theorem dX1_reopenPeriod_20 : decode cX1_reopenPeriod 20 = .ok (.getfield 21, 3) := by decide +kernel
theorem dX1_reopenPeriod_23 : decode cX1_reopenPeriod 23 = .ok (.iload_n 2, 1) := by decide +kernel
theorem dX1_reopenPeriod_24 : decode cX1_reopenPeriod 24 = .ok (.invokevirtual 170, 3) := by decide +kernel
theorem dX1_reopenPeriod_27 : decode cX1_reopenPeriod 27 = .ok (.iconst 0, 1) := by decide +kernel
theorem dX1_reopenPeriod_28 : decode cX1_reopenPeriod 28 = .ok (.iconst 3, 1) := by decide +kernel
theorem dX1_reopenPeriod_29 : decode cX1_reopenPeriod 29 = .ok (.iload_n 2, 1) := by decide +kernel
theorem dX1_reopenPeriod_30 : decode cX1_reopenPeriod 30 = .ok (.invokevirtual 157, 3) := by decide +kernel
theorem dX1_reopenPeriod_33 : decode cX1_reopenPeriod 33 = .ok (.pop, 1) := by decide +kernel
theorem dX1_reopenPeriod_34 : decode cX1_reopenPeriod 34 = .ok (.aload_n 0, 1) := by decide +kernel
theorem dX1_reopenPeriod_35 : decode cX1_reopenPeriod 35 = .ok (.getfield 21, 3) := by decide +kernel
theorem dX1_reopenPeriod_38 : decode cX1_reopenPeriod 38 = .ok (.invokevirtual 192, 3) := by decide +kernel
theorem dX1_reopenPeriod_41 : decode cX1_reopenPeriod 41 = .ok (.iload_n 2, 1) := by decide +kernel
theorem dX1_reopenPeriod_42 : decode cX1_reopenPeriod 42 = .ok (.ireturn, 1) := by decide +kernel
theorem dX1_sumInDays_0 : decode cX1_sumInDays 0 = .ok (.aload_n 0, 1) := by decide +kernel
theorem dX1_sumInDays_1 : decode cX1_sumInDays 1 = .ok (.getfield 28, 3) := by decide +kernel
theorem dX1_sumInDays_4 : decode cX1_sumInDays 4 = .ok (.iload_n 2, 1) := by decide +kernel
theorem dX1_sumInDays_5 : decode cX1_sumInDays 5 = .ok (.iload_n 3, 1) := by decide +kernel
theorem dX1_sumInDays_6 : decode cX1_sumInDays 6 = .ok (.aload_n 0, 1) := by decide +kernel
theorem dX1_sumInDays_7 : decode cX1_sumInDays 7 = .ok (.getfield 41, 3) := by decide +kernel
theorem dX1_sumInDays_10 : decode cX1_sumInDays 10 = .ok (.invokevirtual 173, 3) := by decide +kernel
theorem dX1_sumInDays_13 : decode cX1_sumInDays 13 = .ok (.aload_n 0, 1) := by decide +kernel
theorem dX1_sumInDays_14 : decode cX1_sumInDays 14 = .ok (.getfield 12, 3) := by decide +kernel
theorem dX1_sumInDays_17 : decode cX1_sumInDays 17 = .ok (.iload_n 1, 1) := by decide +kernel
theorem dX1_sumInDays_18 : decode cX1_sumInDays 18 = .ok (.aload_n 0, 1) := by decide +kernel
theorem dX1_sumInDays_19 : decode cX1_sumInDays 19 = .ok (.getfield 41, 3) := by decide +kernel
theorem dX1_sumInDays_22 : decode cX1_sumInDays 22 = .ok (.invokevirtual 195, 3) := by decide +kernel
theorem dX1_sumInDays_25 : decode cX1_sumInDays 25 = .ok (.lreturn, 1) := by decide +kernel
theorem dX2_init_0 : decode cX2_init 0 = .ok (.aload_n 0, 1) := by decide +kernel
theorem dX2_init_1 : decode cX2_init 1 = .ok (.invokespecial 3, 3) := by decide +kernel
theorem dX2_init_4 : decode cX2_init 4 = .ok (.aload_n 0, 1) := by decide +kernel
theorem dX2_init_5 : decode cX2_init 5 = .ok (.new 9, 3) := by decide +kernel
theorem dX2_init_8 : decode cX2_init 8 = .ok (.dup, 1) := by decide +kernel
theorem dX2_init_9 : decode cX2_init 9 = .ok (.sipush 400, 3) := by decide +kernel
theorem dX2_init_12 : decode cX2_init 12 = .ok (.invokespecial 11, 3) := by decide +kernel
theorem dX2_init_15 : decode cX2_init 15 = .ok (.putfield 14, 3) := by decide +kernel
theorem dX2_init_18 : decode cX2_init 18 = .ok (.aload_n 0, 1) := by decide +kernel
theorem dX2_init_19 : decode cX2_init 19 = .ok (.new 9, 3) := by decide +kernel
theorem dX2_init_22 : decode cX2_init 22 = .ok (.dup, 1) := by decide +kernel
theorem dX2_init_23 : decode cX2_init 23 = .ok (.sipush 400, 3) := by decide +kernel
theorem dX2_init_26 : decode cX2_init 26 = .ok (.invokespecial 11, 3) := by decide +kernel
theorem dX2_init_29 : decode cX2_init 29 = .ok (.putfield 20, 3) := by decide +kernel
theorem dX2_init_32 : decode cX2_init 32 = .ok (.aload_n 0, 1) := by decide +kernel
theorem dX2_init_33 : decode cX2_init 33 = .ok (.new 9, 3) := by decide +kernel
theorem dX2_init_36 : decode cX2_init 36 = .ok (.dup, 1) := by decide +kernel
theorem dX2_init_37 : decode cX2_init 37 = .ok (.sipush 400, 3) := by decide +kernel
theorem dX2_init_40 : decode cX2_init 40 = .ok (.invokespecial 11, 3) := by decide +kernel
theorem dX2_init_43 : decode cX2_init 43 = .ok (.putfield 23, 3) := by decide +kernel
theorem dX2_init_46 : decode cX2_init 46 = .ok (.aload_n 0, 1) := by decide +kernel
theorem dX2_init_47 : decode cX2_init 47 = .ok (.new 9, 3) := by decide +kernel
theorem dX2_init_50 : decode cX2_init 50 = .ok (.dup, 1) := by decide +kernel
theorem dX2_init_51 : decode cX2_init 51 = .ok (.sipush 400, 3) := by decide +kernel
theorem dX2_init_54 : decode cX2_init 54 = .ok (.invokespecial 11, 3) := by decide +kernel
theorem dX2_init_57 : decode cX2_init 57 = .ok (.putfield 26, 3) := by decide +kernel
theorem dX2_init_60 : decode cX2_init 60 = .ok (.aload_n 0, 1) := by decide +kernel
theorem dX2_init_61 : decode cX2_init 61 = .ok (.new 9, 3) := by decide +kernel
theorem dX2_init_64 : decode cX2_init 64 = .ok (.dup, 1) := by decide +kernel
theorem dX2_init_65 : decode cX2_init 65 = .ok (.sipush 400, 3) := by decide +kernel
theorem dX2_init_68 : decode cX2_init 68 = .ok (.invokespecial 11, 3) := by decide +kernel
theorem dX2_init_71 : decode cX2_init 71 = .ok (.putfield 29, 3) := by decide +kernel
theorem dX2_init_74 : decode cX2_init 74 = .ok (.aload_n 0, 1) := by decide +kernel
theorem dX2_init_75 : decode cX2_init 75 = .ok (.new 9, 3) := by decide +kernel
theorem dX2_init_78 : decode cX2_init 78 = .ok (.dup, 1) := by decide +kernel
theorem dX2_init_79 : decode cX2_init 79 = .ok (.sipush 400, 3) := by decide +kernel
theorem dX2_init_82 : decode cX2_init 82 = .ok (.invokespecial 11, 3) := by decide +kernel
theorem dX2_init_85 : decode cX2_init 85 = .ok (.putfield 32, 3) := by decide +kernel
theorem dX2_init_88 : decode cX2_init 88 = .ok (.aload_n 0, 1) := by decide +kernel
theorem dX2_init_89 : decode cX2_init 89 = .ok (.new 9, 3) := by decide +kernel
theorem dX2_init_92 : decode cX2_init 92 = .ok (.dup, 1) := by decide +kernel
theorem dX2_init_93 : decode cX2_init 93 = .ok (.sipush 400, 3) := by decide +kernel
theorem dX2_init_96 : decode cX2_init 96 = .ok (.invokespecial 11, 3) := by decide +kernel
theorem dX2_init_99 : decode cX2_init 99 = .ok (.putfield 35, 3) := by decide +kernel
theorem dX2_init_102 : decode cX2_init 102 = .ok (.aload_n 0, 1) := by decide +kernel
theorem dX2_init_103 : decode cX2_init 103 = .ok (.new 9, 3) := by decide +kernel
theorem dX2_init_106 : decode cX2_init 106 = .ok (.dup, 1) := by decide +kernel
theorem dX2_init_107 : decode cX2_init 107 = .ok (.sipush 24000, 3) := by decide +kernel
theorem dX2_init_110 : decode cX2_init 110 = .ok (.invokespecial 11, 3) := by decide +kernel
theorem dX2_init_113 : decode cX2_init 113 = .ok (.putfield 38, 3) := by decide +kernel
theorem dX2_init_116 : decode cX2_init 116 = .ok (.aload_n 0, 1) := by decide +kernel
theorem dX2_init_117 : decode cX2_init 117 = .ok (.new 41, 3) := by decide +kernel
theorem dX2_init_120 : decode cX2_init 120 = .ok (.dup, 1) := by decide +kernel
theorem dX2_init_121 : decode cX2_init 121 = .ok (.sipush 24000, 3) := by decide +kernel
theorem dX2_init_124 : decode cX2_init 124 = .ok (.invokespecial 43, 3) := by decide +kernel
theorem dX2_init_127 : decode cX2_init 127 = .ok (.putfield 44, 3) := by decide +kernel
theorem dX2_init_130 : decode cX2_init 130 = .ok (.return_, 1) := by decide +kernel
theorem dX2_clear_0 : decode cX2_clear 0 = .ok (.aload_n 0, 1) := by decide +kernel
theorem dX2_clear_1 : decode cX2_clear 1 = .ok (.iconst 0, 1) := by decide +kernel
theorem dX2_clear_2 : decode cX2_clear 2 = .ok (.putfield 48, 3) := by decide +kernel
theorem dX2_clear_5 : decode cX2_clear 5 = .ok (.aload_n 0, 1) := by decide +kernel
theorem dX2_clear_6 : decode cX2_clear 6 = .ok (.iconst 0, 1) := by decide +kernel
theorem dX2_clear_7 : decode cX2_clear 7 = .ok (.putfield 52, 3) := by decide +kernel
theorem dX2_clear_10 : decode cX2_clear 10 = .ok (.return_, 1) := by decide +kernel
theorem dX2_has_0 : decode cX2_has 0 = .ok (.iload_n 1, 1) := by decide +kernel
theorem dX2_has_1 : decode cX2_has 1 = .ok (.ifCond .lt 15, 3) := by decide +kernel
theorem dX2_has_4 : decode cX2_has 4 = .ok (.iload_n 1, 1) := by decide +kernel
theorem dX2_has_5 : decode cX2_has 5 = .ok (.aload_n 0, 1) := by decide +kernel
theorem dX2_has_6 : decode cX2_has 6 = .ok (.getfield 48, 3) := by decide +kernel
theorem dX2_has_9 : decode cX2_has 9 = .ok (.if_icmp .ge 7, 3) := by decide +kernel
theorem dX2_has_12 : decode cX2_has 12 = .ok (.iconst 1, 1) := by decide +kernel
theorem dX2_has_13 : decode cX2_has 13 = .ok (.goto 4, 3) := by decide +kernel
theorem dX2_has_16 : decode cX2_has 16 = .ok (.iconst 0, 1) := by decide +kernel
theorem dX2_has_17 : decode cX2_has 17 = .ok (.ireturn, 1) := by decide +kernel
theorem dX2_add_0 : decode cX2_add 0 = .ok (.aload_n 0, 1) := by decide +kernel
theorem dX2_add_1 : decode cX2_add 1 = .ok (.getfield 48, 3) := by decide +kernel
theorem dX2_add_4 : decode cX2_add 4 = .ok (.istore 6, 2) := by decide +kernel
theorem dX2_add_6 : decode cX2_add 6 = .ok (.aload_n 0, 1) := by decide +kernel
theorem dX2_add_7 : decode cX2_add 7 = .ok (.getfield 14, 3) := by decide +kernel
theorem dX2_add_10 : decode cX2_add 10 = .ok (.iload 6, 2) := by decide +kernel
theorem dX2_add_12 : decode cX2_add 12 = .ok (.iload_n 2, 1) := by decide +kernel
theorem dX2_add_13 : decode cX2_add 13 = .ok (.invokevirtual 55, 3) := by decide +kernel
theorem dX2_add_16 : decode cX2_add 16 = .ok (.aload_n 0, 1) := by decide +kernel
theorem dX2_add_17 : decode cX2_add 17 = .ok (.getfield 20, 3) := by decide +kernel
theorem dX2_add_20 : decode cX2_add 20 = .ok (.iload 6, 2) := by decide +kernel
theorem dX2_add_22 : decode cX2_add 22 = .ok (.iload_n 3, 1) := by decide +kernel
theorem dX2_add_23 : decode cX2_add 23 = .ok (.invokevirtual 55, 3) := by decide +kernel
theorem dX2_add_26 : decode cX2_add 26 = .ok (.aload_n 0, 1) := by decide +kernel
theorem dX2_add_27 : decode cX2_add 27 = .ok (.getfield 23, 3) := by decide +kernel
theorem dX2_add_30 : decode cX2_add 30 = .ok (.iload 6, 2) := by decide +kernel
theorem dX2_add_32 : decode cX2_add 32 = .ok (.iload 4, 2) := by decide +kernel
theorem dX2_add_34 : decode cX2_add 34 = .ok (.invokevirtual 55, 3) := by decide +kernel
theorem dX2_add_37 : decode cX2_add 37 = .ok (.aload_n 0, 1) := by decide +kernel
theorem dX2_add_38 : decode cX2_add 38 = .ok (.getfield 29, 3) := by decide +kernel
theorem dX2_add_41 : decode cX2_add 41 = .ok (.iload 6, 2) := by decide +kernel
theorem dX2_add_43 : decode cX2_add 43 = .ok (.iconst (-1), 1) := by decide +kernel
theorem dX2_add_44 : decode cX2_add 44 = .ok (.invokevirtual 55, 3) := by decide +kernel
theorem dX2_add_47 : decode cX2_add 47 = .ok (.aload_n 0, 1) := by decide +kernel
theorem dX2_add_48 : decode cX2_add 48 = .ok (.getfield 32, 3) := by decide +kernel
theorem dX2_add_51 : decode cX2_add 51 = .ok (.iload 6, 2) := by decide +kernel
theorem dX2_add_53 : decode cX2_add 53 = .ok (.iload 5, 2) := by decide +kernel
theorem dX2_add_55 : decode cX2_add 55 = .ok (.invokevirtual 55, 3) := by decide +kernel
theorem dX2_add_58 : decode cX2_add 58 = .ok (.aload_n 0, 1) := by decide +kernel
theorem dX2_add_59 : decode cX2_add 59 = .ok (.getfield 35, 3) := by decide +kernel
theorem dX2_add_62 : decode cX2_add 62 = .ok (.iload 6, 2) := by decide +kernel
theorem dX2_add_64 : decode cX2_add 64 = .ok (.aload_n 0, 1) := by decide +kernel
theorem dX2_add_65 : decode cX2_add 65 = .ok (.getfield 52, 3) := by decide +kernel
theorem dX2_add_68 : decode cX2_add 68 = .ok (.invokevirtual 55, 3) := by decide +kernel
theorem dX2_add_71 : decode cX2_add 71 = .ok (.aload_n 0, 1) := by decide +kernel
theorem dX2_add_72 : decode cX2_add 72 = .ok (.getfield 26, 3) := by decide +kernel
theorem dX2_add_75 : decode cX2_add 75 = .ok (.iload 6, 2) := by decide +kernel
theorem dX2_add_77 : decode cX2_add 77 = .ok (.aload_n 1, 1) := by decide +kernel
theorem dX2_add_78 : decode cX2_add 78 = .ok (.getfield 59, 3) := by decide +kernel
theorem dX2_add_81 : decode cX2_add 81 = .ok (.invokevirtual 55, 3) := by decide +kernel
theorem dX2_add_84 : decode cX2_add 84 = .ok (.iconst 0, 1) := by decide +kernel
theorem dX2_add_85 : decode cX2_add 85 = .ok (.istore 7, 2) := by decide +kernel
theorem dX2_add_87 : decode cX2_add 87 = .ok (.iload 7, 2) := by decide +kernel
theorem dX2_add_89 : decode cX2_add 89 = .ok (.aload_n 1, 1) := by decide +kernel
theorem dX2_add_90 : decode cX2_add 90 = .ok (.getfield 59, 3) := by decide +kernel
theorem dX2_add_93 : decode cX2_add 93 = .ok (.if_icmp .ge 59, 3) := by decide +kernel
theorem dX2_add_96 : decode cX2_add 96 = .ok (.aload_n 0, 1) := by decide +kernel
theorem dX2_add_97 : decode cX2_add 97 = .ok (.getfield 38, 3) := by decide +kernel
theorem dX2_add_100 : decode cX2_add 100 = .ok (.aload_n 0, 1) := by decide +kernel
theorem dX2_add_101 : decode cX2_add 101 = .ok (.getfield 52, 3) := by decide +kernel
theorem dX2_add_104 : decode cX2_add 104 = .ok (.aload_n 1, 1) := by decide +kernel
theorem dX2_add_105 : decode cX2_add 105 = .ok (.getfield 62, 3) := by decide +kernel
theorem dX2_add_108 : decode cX2_add 108 = .ok (.iload 7, 2) := by decide +kernel
theorem dX2_add_110 : decode cX2_add 110 = .ok (.invokevirtual 65, 3) := by decide +kernel
theorem dX2_add_113 : decode cX2_add 113 = .ok (.invokevirtual 55, 3) := by decide +kernel
theorem dX2_add_116 : decode cX2_add 116 = .ok (.aload_n 0, 1) := by decide +kernel
theorem dX2_add_117 : decode cX2_add 117 = .ok (.getfield 44, 3) := by decide +kernel
theorem dX2_add_120 : decode cX2_add 120 = .ok (.aload_n 0, 1) := by decide +kernel
theorem dX2_add_121 : decode cX2_add 121 = .ok (.getfield 52, 3) := by decide +kernel
theorem dX2_add_124 : decode cX2_add 124 = .ok (.aload_n 1, 1) := by decide +kernel
theorem dX2_add_125 : decode cX2_add 125 = .ok (.getfield 69, 3) := by decide +kernel
theorem dX2_add_128 : decode cX2_add 128 = .ok (.iload 7, 2) := by decide +kernel
theorem dX2_add_130 : decode cX2_add 130 = .ok (.invokevirtual 72, 3) := by decide +kernel
theorem dX2_add_133 : decode cX2_add 133 = .ok (.invokevirtual 75, 3) := by decide +kernel
theorem dX2_add_136 : decode cX2_add 136 = .ok (.aload_n 0, 1) := by decide +kernel
theorem dX2_add_137 : decode cX2_add 137 = .ok (.dup, 1) := by decide +kernel
theorem dX2_add_138 : decode cX2_add 138 = .ok (.getfield 52, 3) := by decide +kernel
theorem dX2_add_141 : decode cX2_add 141 = .ok (.iconst 1, 1) := by decide +kernel
theorem dX2_add_142 : decode cX2_add 142 = .ok (.iadd, 1) := by decide +kernel
theorem dX2_add_143 : decode cX2_add 143 = .ok (.putfield 52, 3) := by decide +kernel
theorem dX2_add_146 : decode cX2_add 146 = .ok (.iinc 7 1, 3) := by decide +kernel
theorem dX2_add_149 : decode cX2_add 149 = .ok (.goto (-62), 3) := by decide +kernel
theorem dX2_add_152 : decode cX2_add 152 = .ok (.aload_n 0, 1) := by decide +kernel
theorem dX2_add_153 : decode cX2_add 153 = .ok (.dup, 1) := by decide +kernel
theorem dX2_add_154 : decode cX2_add 154 = .ok (.getfield 48, 3) := by decide +kernel
theorem dX2_add_157 : decode cX2_add 157 = .ok (.iconst 1, 1) := by decide +kernel
theorem dX2_add_158 : decode cX2_add 158 = .ok (.iadd, 1) := by decide +kernel
theorem dX2_add_159 : decode cX2_add 159 = .ok (.putfield 48, 3) := by decide +kernel
theorem dX2_add_162 : decode cX2_add 162 = .ok (.iload 6, 2) := by decide +kernel
theorem dX2_add_164 : decode cX2_add 164 = .ok (.ireturn, 1) := by decide +kernel
theorem dX2_accountOf_0 : decode cX2_accountOf 0 = .ok (.aload_n 0, 1) := by decide +kernel
theorem dX2_accountOf_1 : decode cX2_accountOf 1 = .ok (.getfield 38, 3) := by decide +kernel
theorem dX2_accountOf_4 : decode cX2_accountOf 4 = .ok (.aload_n 0, 1) := by decide +kernel
theorem dX2_accountOf_5 : decode cX2_accountOf 5 = .ok (.getfield 35, 3) := by decide +kernel
theorem dX2_accountOf_8 : decode cX2_accountOf 8 = .ok (.iload_n 1, 1) := by decide +kernel
theorem dX2_accountOf_9 : decode cX2_accountOf 9 = .ok (.invokevirtual 65, 3) := by decide +kernel
theorem dX2_accountOf_12 : decode cX2_accountOf 12 = .ok (.iload_n 2, 1) := by decide +kernel
theorem dX2_accountOf_13 : decode cX2_accountOf 13 = .ok (.iadd, 1) := by decide +kernel
theorem dX2_accountOf_14 : decode cX2_accountOf 14 = .ok (.invokevirtual 65, 3) := by decide +kernel
theorem dX2_accountOf_17 : decode cX2_accountOf 17 = .ok (.ireturn, 1) := by decide +kernel
theorem dX2_amountOf_0 : decode cX2_amountOf 0 = .ok (.aload_n 0, 1) := by decide +kernel
theorem dX2_amountOf_1 : decode cX2_amountOf 1 = .ok (.getfield 44, 3) := by decide +kernel
theorem dX2_amountOf_4 : decode cX2_amountOf 4 = .ok (.aload_n 0, 1) := by decide +kernel
theorem dX2_amountOf_5 : decode cX2_amountOf 5 = .ok (.getfield 35, 3) := by decide +kernel
theorem dX2_amountOf_8 : decode cX2_amountOf 8 = .ok (.iload_n 1, 1) := by decide +kernel
theorem dX2_amountOf_9 : decode cX2_amountOf 9 = .ok (.invokevirtual 65, 3) := by decide +kernel
theorem dX2_amountOf_12 : decode cX2_amountOf 12 = .ok (.iload_n 2, 1) := by decide +kernel
theorem dX2_amountOf_13 : decode cX2_amountOf 13 = .ok (.iadd, 1) := by decide +kernel
theorem dX2_amountOf_14 : decode cX2_amountOf 14 = .ok (.invokevirtual 72, 3) := by decide +kernel
theorem dX2_amountOf_17 : decode cX2_amountOf 17 = .ok (.lreturn, 1) := by decide +kernel
theorem dX2_turn_0 : decode cX2_turn 0 = .ok (.aload_n 2, 1) := by decide +kernel
theorem dX2_turn_1 : decode cX2_turn 1 = .ok (.invokevirtual 78, 3) := by decide +kernel
theorem dX2_turn_4 : decode cX2_turn 4 = .ok (.iconst 0, 1) := by decide +kernel
theorem dX2_turn_5 : decode cX2_turn 5 = .ok (.istore_n 3, 1) := by decide +kernel
theorem dX2_turn_6 : decode cX2_turn 6 = .ok (.iload_n 3, 1) := by decide +kernel
theorem dX2_turn_7 : decode cX2_turn 7 = .ok (.aload_n 0, 1) := by decide +kernel
theorem dX2_turn_8 : decode cX2_turn 8 = .ok (.getfield 26, 3) := by decide +kernel
theorem dX2_turn_11 : decode cX2_turn 11 = .ok (.iload_n 1, 1) := by decide +kernel
theorem dX2_turn_12 : decode cX2_turn 12 = .ok (.invokevirtual 65, 3) := by decide +kernel
theorem dX2_turn_15 : decode cX2_turn 15 = .ok (.if_icmp .ge 26, 3) := by decide +kernel
theorem dX2_turn_18 : decode cX2_turn 18 = .ok (.aload_n 2, 1) := by decide +kernel
theorem dX2_turn_19 : decode cX2_turn 19 = .ok (.aload_n 0, 1) := by decide +kernel
theorem dX2_turn_20 : decode cX2_turn 20 = .ok (.iload_n 1, 1) := by decide +kernel
theorem dX2_turn_21 : decode cX2_turn 21 = .ok (.iload_n 3, 1) := by decide +kernel
theorem dX2_turn_22 : decode cX2_turn 22 = .ok (.invokevirtual 81, 3) := by decide +kernel
theorem dX2_turn_25 : decode cX2_turn 25 = .ok (.aload_n 0, 1) := by decide +kernel
theorem dX2_turn_26 : decode cX2_turn 26 = .ok (.iload_n 1, 1) := by decide +kernel
theorem dX2_turn_27 : decode cX2_turn 27 = .ok (.iload_n 3, 1) := by decide +kernel
theorem dX2_turn_28 : decode cX2_turn 28 = .ok (.invokevirtual 85, 3) := by decide +kernel
theorem dX2_turn_31 : decode cX2_turn 31 = .ok (.lneg, 1) := by decide +kernel
theorem dX2_turn_32 : decode cX2_turn 32 = .ok (.invokevirtual 89, 3) := by decide +kernel
theorem dX2_turn_35 : decode cX2_turn 35 = .ok (.iinc 3 1, 3) := by decide +kernel
theorem dX2_turn_38 : decode cX2_turn 38 = .ok (.goto (-32), 3) := by decide +kernel
theorem dX2_turn_41 : decode cX2_turn 41 = .ok (.return_, 1) := by decide +kernel
theorem dX2_gather_0 : decode cX2_gather 0 = .ok (.aload_n 3, 1) := by decide +kernel
theorem dX2_gather_1 : decode cX2_gather 1 = .ok (.invokevirtual 92, 3) := by decide +kernel
theorem dX2_gather_4 : decode cX2_gather 4 = .ok (.iconst 0, 1) := by decide +kernel
theorem dX2_gather_5 : decode cX2_gather 5 = .ok (.istore 4, 2) := by decide +kernel
theorem dX2_gather_7 : decode cX2_gather 7 = .ok (.iload 4, 2) := by decide +kernel
theorem dX2_gather_9 : decode cX2_gather 9 = .ok (.aload_n 0, 1) := by decide +kernel
theorem dX2_gather_10 : decode cX2_gather 10 = .ok (.getfield 48, 3) := by decide +kernel
theorem dX2_gather_13 : decode cX2_gather 13 = .ok (.if_icmp .ge 89, 3) := by decide +kernel
theorem dX2_gather_16 : decode cX2_gather 16 = .ok (.aload_n 0, 1) := by decide +kernel
theorem dX2_gather_17 : decode cX2_gather 17 = .ok (.getfield 14, 3) := by decide +kernel
theorem dX2_gather_20 : decode cX2_gather 20 = .ok (.iload 4, 2) := by decide +kernel
theorem dX2_gather_22 : decode cX2_gather 22 = .ok (.invokevirtual 65, 3) := by decide +kernel
theorem dX2_gather_25 : decode cX2_gather 25 = .ok (.iload_n 1, 1) := by decide +kernel
theorem dX2_gather_26 : decode cX2_gather 26 = .ok (.if_icmp .lt 70, 3) := by decide +kernel
theorem dX2_gather_29 : decode cX2_gather 29 = .ok (.aload_n 0, 1) := by decide +kernel
theorem dX2_gather_30 : decode cX2_gather 30 = .ok (.getfield 14, 3) := by decide +kernel
theorem dX2_gather_33 : decode cX2_gather 33 = .ok (.iload 4, 2) := by decide +kernel
theorem dX2_gather_35 : decode cX2_gather 35 = .ok (.invokevirtual 65, 3) := by decide +kernel
theorem dX2_gather_38 : decode cX2_gather 38 = .ok (.iload_n 2, 1) := by decide +kernel
theorem dX2_gather_39 : decode cX2_gather 39 = .ok (.if_icmp .gt 57, 3) := by decide +kernel
theorem dX2_gather_42 : decode cX2_gather 42 = .ok (.iconst 0, 1) := by decide +kernel
theorem dX2_gather_43 : decode cX2_gather 43 = .ok (.istore 5, 2) := by decide +kernel
theorem dX2_gather_45 : decode cX2_gather 45 = .ok (.iload 5, 2) := by decide +kernel
theorem dX2_gather_47 : decode cX2_gather 47 = .ok (.aload_n 0, 1) := by decide +kernel
theorem dX2_gather_48 : decode cX2_gather 48 = .ok (.getfield 26, 3) := by decide +kernel
theorem dX2_gather_51 : decode cX2_gather 51 = .ok (.iload 4, 2) := by decide +kernel
theorem dX2_gather_53 : decode cX2_gather 53 = .ok (.invokevirtual 65, 3) := by decide +kernel
theorem dX2_gather_56 : decode cX2_gather 56 = .ok (.if_icmp .ge 40, 3) := by decide +kernel
theorem dX2_gather_59 : decode cX2_gather 59 = .ok (.aload_n 0, 1) := by decide +kernel
theorem dX2_gather_60 : decode cX2_gather 60 = .ok (.iload 4, 2) := by decide +kernel
theorem dX2_gather_62 : decode cX2_gather 62 = .ok (.iload 5, 2) := by decide +kernel
theorem dX2_gather_64 : decode cX2_gather 64 = .ok (.invokevirtual 81, 3) := by decide +kernel
theorem dX2_gather_67 : decode cX2_gather 67 = .ok (.istore 6, 2) := by decide +kernel
theorem dX2_gather_69 : decode cX2_gather 69 = .ok (.aload_n 3, 1) := by decide +kernel
theorem dX2_gather_70 : decode cX2_gather 70 = .ok (.iload 6, 2) := by decide +kernel
theorem dX2_gather_72 : decode cX2_gather 72 = .ok (.aload_n 3, 1) := by decide +kernel
theorem dX2_gather_73 : decode cX2_gather 73 = .ok (.iload 6, 2) := by decide +kernel
theorem dX2_gather_75 : decode cX2_gather 75 = .ok (.invokevirtual 72, 3) := by decide +kernel
theorem dX2_gather_78 : decode cX2_gather 78 = .ok (.aload_n 0, 1) := by decide +kernel
theorem dX2_gather_79 : decode cX2_gather 79 = .ok (.iload 4, 2) := by decide +kernel
theorem dX2_gather_81 : decode cX2_gather 81 = .ok (.iload 5, 2) := by decide +kernel
theorem dX2_gather_83 : decode cX2_gather 83 = .ok (.invokevirtual 85, 3) := by decide +kernel
theorem dX2_gather_86 : decode cX2_gather 86 = .ok (.ladd, 1) := by decide +kernel
theorem dX2_gather_87 : decode cX2_gather 87 = .ok (.invokevirtual 75, 3) := by decide +kernel
theorem dX2_gather_90 : decode cX2_gather 90 = .ok (.iinc 5 1, 3) := by decide +kernel
theorem dX2_gather_93 : decode cX2_gather 93 = .ok (.goto (-48), 3) := by decide +kernel
theorem dX2_gather_96 : decode cX2_gather 96 = .ok (.iinc 4 1, 3) := by decide +kernel
theorem dX2_gather_99 : decode cX2_gather 99 = .ok (.goto (-92), 3) := by decide +kernel
theorem dX2_gather_102 : decode cX2_gather 102 = .ok (.return_, 1) := by decide +kernel
theorem dX2_ledgerLine_0 : decode cX2_ledgerLine 0 = .ok (.iconst 0, 1) := by decide +kernel
theorem dX2_ledgerLine_1 : decode cX2_ledgerLine 1 = .ok (.istore 4, 2) := by decide +kernel
theorem dX2_ledgerLine_3 : decode cX2_ledgerLine 3 = .ok (.lconst 0, 1) := by decide +kernel
theorem dX2_ledgerLine_4 : decode cX2_ledgerLine 4 = .ok (.lstore 5, 2) := by decide +kernel
theorem dX2_ledgerLine_6 : decode cX2_ledgerLine 6 = .ok (.iconst 0, 1) := by decide +kernel
theorem dX2_ledgerLine_7 : decode cX2_ledgerLine 7 = .ok (.istore 7, 2) := by decide +kernel
theorem dX2_ledgerLine_9 : decode cX2_ledgerLine 9 = .ok (.iload 7, 2) := by decide +kernel
theorem dX2_ledgerLine_11 : decode cX2_ledgerLine 11 = .ok (.aload_n 0, 1) := by decide +kernel
theorem dX2_ledgerLine_12 : decode cX2_ledgerLine 12 = .ok (.getfield 48, 3) := by decide +kernel
theorem dX2_ledgerLine_15 : decode cX2_ledgerLine 15 = .ok (.if_icmp .ge 83, 3) := by decide +kernel
theorem dX2_ledgerLine_18 : decode cX2_ledgerLine 18 = .ok (.iconst 0, 1) := by decide +kernel
theorem dX2_ledgerLine_19 : decode cX2_ledgerLine 19 = .ok (.istore 8, 2) := by decide +kernel
theorem dX2_ledgerLine_21 : decode cX2_ledgerLine 21 = .ok (.iload 8, 2) := by decide +kernel
theorem dX2_ledgerLine_23 : decode cX2_ledgerLine 23 = .ok (.aload_n 0, 1) := by decide +kernel
theorem dX2_ledgerLine_24 : decode cX2_ledgerLine 24 = .ok (.getfield 26, 3) := by decide +kernel
theorem dX2_ledgerLine_27 : decode cX2_ledgerLine 27 = .ok (.iload 7, 2) := by decide +kernel
theorem dX2_ledgerLine_29 : decode cX2_ledgerLine 29 = .ok (.invokevirtual 65, 3) := by decide +kernel
theorem dX2_ledgerLine_32 : decode cX2_ledgerLine 32 = .ok (.if_icmp .ge 60, 3) := by decide +kernel
theorem dX2_ledgerLine_35 : decode cX2_ledgerLine 35 = .ok (.aload_n 0, 1) := by decide +kernel
theorem dX2_ledgerLine_36 : decode cX2_ledgerLine 36 = .ok (.iload 7, 2) := by decide +kernel
theorem dX2_ledgerLine_38 : decode cX2_ledgerLine 38 = .ok (.iload 8, 2) := by decide +kernel
theorem dX2_ledgerLine_40 : decode cX2_ledgerLine 40 = .ok (.invokevirtual 81, 3) := by decide +kernel
theorem dX2_ledgerLine_43 : decode cX2_ledgerLine 43 = .ok (.iload_n 1, 1) := by decide +kernel
theorem dX2_ledgerLine_44 : decode cX2_ledgerLine 44 = .ok (.if_icmp .ne 42, 3) := by decide +kernel
theorem dX2_ledgerLine_47 : decode cX2_ledgerLine 47 = .ok (.lload 5, 2) := by decide +kernel
theorem dX2_ledgerLine_49 : decode cX2_ledgerLine 49 = .ok (.aload_n 0, 1) := by decide +kernel
theorem dX2_ledgerLine_50 : decode cX2_ledgerLine 50 = .ok (.iload 7, 2) := by decide +kernel
theorem dX2_ledgerLine_52 : decode cX2_ledgerLine 52 = .ok (.iload 8, 2) := by decide +kernel
theorem dX2_ledgerLine_54 : decode cX2_ledgerLine 54 = .ok (.invokevirtual 85, 3) := by decide +kernel
theorem dX2_ledgerLine_57 : decode cX2_ledgerLine 57 = .ok (.ladd, 1) := by decide +kernel
theorem dX2_ledgerLine_58 : decode cX2_ledgerLine 58 = .ok (.lstore 5, 2) := by decide +kernel
theorem dX2_ledgerLine_60 : decode cX2_ledgerLine 60 = .ok (.iload 4, 2) := by decide +kernel
theorem dX2_ledgerLine_62 : decode cX2_ledgerLine 62 = .ok (.iload_n 2, 1) := by decide +kernel
theorem dX2_ledgerLine_63 : decode cX2_ledgerLine 63 = .ok (.if_icmp .ne 20, 3) := by decide +kernel
theorem dX2_ledgerLine_66 : decode cX2_ledgerLine 66 = .ok (.iload 7, 2) := by decide +kernel
theorem dX2_ledgerLine_68 : decode cX2_ledgerLine 68 = .ok (.aload_n 0, 1) := by decide +kernel
theorem dX2_ledgerLine_69 : decode cX2_ledgerLine 69 = .ok (.iload 7, 2) := by decide +kernel
theorem dX2_ledgerLine_71 : decode cX2_ledgerLine 71 = .ok (.iload 8, 2) := by decide +kernel
theorem dX2_ledgerLine_73 : decode cX2_ledgerLine 73 = .ok (.invokevirtual 85, 3) := by decide +kernel
theorem dX2_ledgerLine_76 : decode cX2_ledgerLine 76 = .ok (.lload 5, 2) := by decide +kernel
theorem dX2_ledgerLine_78 : decode cX2_ledgerLine 78 = .ok (.iload_n 3, 1) := by decide +kernel
theorem dX2_ledgerLine_79 : decode cX2_ledgerLine 79 = .ok (.invokestatic 93, 3) := by decide +kernel
theorem dX2_ledgerLine_82 : decode cX2_ledgerLine 82 = .ok (.lreturn, 1) := by decide +kernel
theorem dX2_ledgerLine_83 : decode cX2_ledgerLine 83 = .ok (.iinc 4 1, 3) := by decide +kernel
theorem dX2_ledgerLine_86 : decode cX2_ledgerLine 86 = .ok (.iinc 8 1, 3) := by decide +kernel
theorem dX2_ledgerLine_89 : decode cX2_ledgerLine 89 = .ok (.goto (-68), 3) := by decide +kernel
theorem dX2_ledgerLine_92 : decode cX2_ledgerLine 92 = .ok (.iinc 7 1, 3) := by decide +kernel
theorem dX2_ledgerLine_95 : decode cX2_ledgerLine 95 = .ok (.goto (-86), 3) := by decide +kernel
theorem dX2_ledgerLine_98 : decode cX2_ledgerLine 98 = .ok (.ldc2_w 97, 3) := by decide +kernel
theorem dX2_ledgerLine_101 : decode cX2_ledgerLine 101 = .ok (.lreturn, 1) := by decide +kernel
theorem dX2_toldOfLedger_0 : decode cX2_toldOfLedger 0 = .ok (.iload 5, 2) := by decide +kernel
theorem dX2_toldOfLedger_2 : decode cX2_toldOfLedger 2 = .ok (.tableswitch 33 0 2 #[26, 29, 31], 26) := by decide +kernel
theorem dX2_toldOfLedger_28 : decode cX2_toldOfLedger 28 = .ok (.iload_n 0, 1) := by decide +kernel
theorem dX2_toldOfLedger_29 : decode cX2_toldOfLedger 29 = .ok (.i2l, 1) := by decide +kernel
theorem dX2_toldOfLedger_30 : decode cX2_toldOfLedger 30 = .ok (.lreturn, 1) := by decide +kernel
theorem dX2_toldOfLedger_31 : decode cX2_toldOfLedger 31 = .ok (.lload_n 1, 1) := by decide +kernel
theorem dX2_toldOfLedger_32 : decode cX2_toldOfLedger 32 = .ok (.lreturn, 1) := by decide +kernel
theorem dX2_toldOfLedger_33 : decode cX2_toldOfLedger 33 = .ok (.lload_n 3, 1) := by decide +kernel
theorem dX2_toldOfLedger_34 : decode cX2_toldOfLedger 34 = .ok (.lreturn, 1) := by decide +kernel
theorem dX2_toldOfLedger_35 : decode cX2_toldOfLedger 35 = .ok (.ldc2_w 97, 3) := by decide +kernel
theorem dX2_toldOfLedger_38 : decode cX2_toldOfLedger 38 = .ok (.lreturn, 1) := by decide +kernel
theorem dX2_told_0 : decode cX2_told 0 = .ok (.iload_n 2, 1) := by decide +kernel
theorem dX2_told_1 : decode cX2_told 1 = .ok (.tableswitch 93 0 5 #[39, 48, 57, 66, 75, 84], 39) := by decide +kernel
theorem dX2_told_40 : decode cX2_told 40 = .ok (.aload_n 0, 1) := by decide +kernel
theorem dX2_told_41 : decode cX2_told 41 = .ok (.getfield 14, 3) := by decide +kernel
theorem dX2_told_44 : decode cX2_told 44 = .ok (.iload_n 1, 1) := by decide +kernel
theorem dX2_told_45 : decode cX2_told 45 = .ok (.invokevirtual 65, 3) := by decide +kernel
theorem dX2_told_48 : decode cX2_told 48 = .ok (.ireturn, 1) := by decide +kernel
theorem dX2_told_49 : decode cX2_told 49 = .ok (.aload_n 0, 1) := by decide +kernel
theorem dX2_told_50 : decode cX2_told 50 = .ok (.getfield 20, 3) := by decide +kernel
theorem dX2_told_53 : decode cX2_told 53 = .ok (.iload_n 1, 1) := by decide +kernel
theorem dX2_told_54 : decode cX2_told 54 = .ok (.invokevirtual 65, 3) := by decide +kernel
theorem dX2_told_57 : decode cX2_told 57 = .ok (.ireturn, 1) := by decide +kernel
theorem dX2_told_58 : decode cX2_told 58 = .ok (.aload_n 0, 1) := by decide +kernel
theorem dX2_told_59 : decode cX2_told 59 = .ok (.getfield 23, 3) := by decide +kernel
theorem dX2_told_62 : decode cX2_told 62 = .ok (.iload_n 1, 1) := by decide +kernel
theorem dX2_told_63 : decode cX2_told 63 = .ok (.invokevirtual 65, 3) := by decide +kernel
theorem dX2_told_66 : decode cX2_told 66 = .ok (.ireturn, 1) := by decide +kernel
theorem dX2_told_67 : decode cX2_told 67 = .ok (.aload_n 0, 1) := by decide +kernel
theorem dX2_told_68 : decode cX2_told 68 = .ok (.getfield 26, 3) := by decide +kernel
theorem dX2_told_71 : decode cX2_told 71 = .ok (.iload_n 1, 1) := by decide +kernel
theorem dX2_told_72 : decode cX2_told 72 = .ok (.invokevirtual 65, 3) := by decide +kernel
theorem dX2_told_75 : decode cX2_told 75 = .ok (.ireturn, 1) := by decide +kernel
theorem dX2_told_76 : decode cX2_told 76 = .ok (.aload_n 0, 1) := by decide +kernel
theorem dX2_told_77 : decode cX2_told 77 = .ok (.getfield 29, 3) := by decide +kernel
theorem dX2_told_80 : decode cX2_told 80 = .ok (.iload_n 1, 1) := by decide +kernel
theorem dX2_told_81 : decode cX2_told 81 = .ok (.invokevirtual 65, 3) := by decide +kernel
theorem dX2_told_84 : decode cX2_told 84 = .ok (.ireturn, 1) := by decide +kernel
theorem dX2_told_85 : decode cX2_told 85 = .ok (.aload_n 0, 1) := by decide +kernel
theorem dX2_told_86 : decode cX2_told 86 = .ok (.getfield 32, 3) := by decide +kernel
theorem dX2_told_89 : decode cX2_told 89 = .ok (.iload_n 1, 1) := by decide +kernel
theorem dX2_told_90 : decode cX2_told 90 = .ok (.invokevirtual 65, 3) := by decide +kernel
theorem dX2_told_93 : decode cX2_told 93 = .ok (.ireturn, 1) := by decide +kernel
theorem dX2_told_94 : decode cX2_told 94 = .ok (.bipush (-3), 2) := by decide +kernel
theorem dX2_told_96 : decode cX2_told 96 = .ok (.ireturn, 1) := by decide +kernel
theorem dX3_init_0 : decode cX3_init 0 = .ok (.aload_n 0, 1) := by decide +kernel
theorem dX3_init_1 : decode cX3_init 1 = .ok (.invokespecial 1, 3) := by decide +kernel
theorem dX3_init_4 : decode cX3_init 4 = .ok (.aload_n 0, 1) := by decide +kernel
theorem dX3_init_5 : decode cX3_init 5 = .ok (.iload_n 1, 1) := by decide +kernel
theorem dX3_init_6 : decode cX3_init 6 = .ok (.putfield 7, 3) := by decide +kernel
theorem dX3_init_9 : decode cX3_init 9 = .ok (.aload_n 0, 1) := by decide +kernel
theorem dX3_init_10 : decode cX3_init 10 = .ok (.bipush 16, 2) := by decide +kernel
theorem dX3_init_12 : decode cX3_init 12 = .ok (.newarray .int, 2) := by decide +kernel
theorem dX3_init_14 : decode cX3_init 14 = .ok (.putfield 13, 3) := by decide +kernel
theorem dX3_init_17 : decode cX3_init 17 = .ok (.return_, 1) := by decide +kernel
theorem dX3_at_0 : decode cX3_at 0 = .ok (.iload_n 1, 1) := by decide +kernel
theorem dX3_at_1 : decode cX3_at 1 = .ok (.ifCond .lt 21, 3) := by decide +kernel
theorem dX3_at_4 : decode cX3_at 4 = .ok (.iload_n 1, 1) := by decide +kernel
theorem dX3_at_5 : decode cX3_at 5 = .ok (.aload_n 0, 1) := by decide +kernel
theorem dX3_at_6 : decode cX3_at 6 = .ok (.getfield 13, 3) := by decide +kernel
theorem dX3_at_9 : decode cX3_at 9 = .ok (.arraylength, 1) := by decide +kernel
theorem dX3_at_10 : decode cX3_at 10 = .ok (.if_icmp .ge 12, 3) := by decide +kernel
theorem dX3_at_13 : decode cX3_at 13 = .ok (.aload_n 0, 1) := by decide +kernel
theorem dX3_at_14 : decode cX3_at 14 = .ok (.getfield 13, 3) := by decide +kernel
theorem dX3_at_17 : decode cX3_at 17 = .ok (.iload_n 1, 1) := by decide +kernel
theorem dX3_at_18 : decode cX3_at 18 = .ok (.iaload, 1) := by decide +kernel
theorem dX3_at_19 : decode cX3_at 19 = .ok (.goto 4, 3) := by decide +kernel
theorem dX3_at_22 : decode cX3_at 22 = .ok (.iconst 0, 1) := by decide +kernel
theorem dX3_at_23 : decode cX3_at 23 = .ok (.ireturn, 1) := by decide +kernel
theorem dX3_put_0 : decode cX3_put 0 = .ok (.iload_n 1, 1) := by decide +kernel
theorem dX3_put_1 : decode cX3_put 1 = .ok (.ifCond .lt 11, 3) := by decide +kernel
theorem dX3_put_4 : decode cX3_put 4 = .ok (.iload_n 1, 1) := by decide +kernel
theorem dX3_put_5 : decode cX3_put 5 = .ok (.aload_n 0, 1) := by decide +kernel
theorem dX3_put_6 : decode cX3_put 6 = .ok (.getfield 7, 3) := by decide +kernel
theorem dX3_put_9 : decode cX3_put 9 = .ok (.if_icmp .lt 4, 3) := by decide +kernel
theorem dX3_put_12 : decode cX3_put 12 = .ok (.return_, 1) := by decide +kernel
theorem dX3_put_13 : decode cX3_put 13 = .ok (.iload_n 1, 1) := by decide +kernel
theorem dX3_put_14 : decode cX3_put 14 = .ok (.aload_n 0, 1) := by decide +kernel
theorem dX3_put_15 : decode cX3_put 15 = .ok (.getfield 13, 3) := by decide +kernel
theorem dX3_put_18 : decode cX3_put 18 = .ok (.arraylength, 1) := by decide +kernel
theorem dX3_put_19 : decode cX3_put 19 = .ok (.if_icmp .lt 34, 3) := by decide +kernel
theorem dX3_put_22 : decode cX3_put 22 = .ok (.aload_n 0, 1) := by decide +kernel
theorem dX3_put_23 : decode cX3_put 23 = .ok (.aload_n 0, 1) := by decide +kernel
theorem dX3_put_24 : decode cX3_put 24 = .ok (.getfield 13, 3) := by decide +kernel
theorem dX3_put_27 : decode cX3_put 27 = .ok (.iload_n 1, 1) := by decide +kernel
theorem dX3_put_28 : decode cX3_put 28 = .ok (.iconst 1, 1) := by decide +kernel
theorem dX3_put_29 : decode cX3_put 29 = .ok (.iadd, 1) := by decide +kernel
theorem dX3_put_30 : decode cX3_put 30 = .ok (.aload_n 0, 1) := by decide +kernel
theorem dX3_put_31 : decode cX3_put 31 = .ok (.getfield 7, 3) := by decide +kernel
theorem dX3_put_34 : decode cX3_put 34 = .ok (.iconst 2, 1) := by decide +kernel
theorem dX3_put_35 : decode cX3_put 35 = .ok (.aload_n 0, 1) := by decide +kernel
theorem dX3_put_36 : decode cX3_put 36 = .ok (.getfield 13, 3) := by decide +kernel
theorem dX3_put_39 : decode cX3_put 39 = .ok (.arraylength, 1) := by decide +kernel
theorem dX3_put_40 : decode cX3_put 40 = .ok (.imul, 1) := by decide +kernel
theorem dX3_put_41 : decode cX3_put 41 = .ok (.invokestatic 17, 3) := by decide +kernel
theorem dX3_put_44 : decode cX3_put 44 = .ok (.invokestatic 23, 3) := by decide +kernel
theorem dX3_put_47 : decode cX3_put 47 = .ok (.invokestatic 26, 3) := by decide +kernel
theorem dX3_put_50 : decode cX3_put 50 = .ok (.putfield 13, 3) := by decide +kernel
theorem dX3_put_53 : decode cX3_put 53 = .ok (.aload_n 0, 1) := by decide +kernel
theorem dX3_put_54 : decode cX3_put 54 = .ok (.getfield 13, 3) := by decide +kernel
theorem dX3_put_57 : decode cX3_put 57 = .ok (.iload_n 1, 1) := by decide +kernel
theorem dX3_put_58 : decode cX3_put 58 = .ok (.iload_n 2, 1) := by decide +kernel
theorem dX3_put_59 : decode cX3_put 59 = .ok (.iastore, 1) := by decide +kernel
theorem dX3_put_60 : decode cX3_put 60 = .ok (.return_, 1) := by decide +kernel
theorem dX4_init_0 : decode cX4_init 0 = .ok (.aload_n 0, 1) := by decide +kernel
theorem dX4_init_1 : decode cX4_init 1 = .ok (.invokespecial 3, 3) := by decide +kernel
theorem dX4_init_4 : decode cX4_init 4 = .ok (.aload_n 0, 1) := by decide +kernel
theorem dX4_init_5 : decode cX4_init 5 = .ok (.new 9, 3) := by decide +kernel
theorem dX4_init_8 : decode cX4_init 8 = .ok (.dup, 1) := by decide +kernel
theorem dX4_init_9 : decode cX4_init 9 = .ok (.sipush 6000, 3) := by decide +kernel
theorem dX4_init_12 : decode cX4_init 12 = .ok (.invokespecial 11, 3) := by decide +kernel
theorem dX4_init_15 : decode cX4_init 15 = .ok (.putfield 14, 3) := by decide +kernel
theorem dX4_init_18 : decode cX4_init 18 = .ok (.aload_n 0, 1) := by decide +kernel
theorem dX4_init_19 : decode cX4_init 19 = .ok (.new 9, 3) := by decide +kernel
theorem dX4_init_22 : decode cX4_init 22 = .ok (.dup, 1) := by decide +kernel
theorem dX4_init_23 : decode cX4_init 23 = .ok (.sipush 255, 3) := by decide +kernel
theorem dX4_init_26 : decode cX4_init 26 = .ok (.invokespecial 11, 3) := by decide +kernel
theorem dX4_init_29 : decode cX4_init 29 = .ok (.putfield 20, 3) := by decide +kernel
theorem dX4_init_32 : decode cX4_init 32 = .ok (.return_, 1) := by decide +kernel
theorem dX4_begin_0 : decode cX4_begin 0 = .ok (.aload_n 0, 1) := by decide +kernel
theorem dX4_begin_1 : decode cX4_begin 1 = .ok (.iload_n 1, 1) := by decide +kernel
theorem dX4_begin_2 : decode cX4_begin 2 = .ok (.putfield 23, 3) := by decide +kernel
theorem dX4_begin_5 : decode cX4_begin 5 = .ok (.aload_n 0, 1) := by decide +kernel
theorem dX4_begin_6 : decode cX4_begin 6 = .ok (.iconst 0, 1) := by decide +kernel
theorem dX4_begin_7 : decode cX4_begin 7 = .ok (.putfield 27, 3) := by decide +kernel
theorem dX4_begin_10 : decode cX4_begin 10 = .ok (.return_, 1) := by decide +kernel
theorem dX4_number_0 : decode cX4_number 0 = .ok (.lload_n 1, 1) := by decide +kernel
theorem dX4_number_1 : decode cX4_number 1 = .ok (.iconst 1, 1) := by decide +kernel
theorem dX4_number_2 : decode cX4_number 2 = .ok (.lshl, 1) := by decide +kernel
theorem dX4_number_3 : decode cX4_number 3 = .ok (.lload_n 1, 1) := by decide +kernel
theorem dX4_number_4 : decode cX4_number 4 = .ok (.bipush 63, 2) := by decide +kernel
theorem dX4_number_6 : decode cX4_number 6 = .ok (.lshr, 1) := by decide +kernel
theorem dX4_number_7 : decode cX4_number 7 = .ok (.lxor, 1) := by decide +kernel
theorem dX4_number_8 : decode cX4_number 8 = .ok (.lstore_n 3, 1) := by decide +kernel
theorem dX4_number_9 : decode cX4_number 9 = .ok (.iconst 0, 1) := by decide +kernel
theorem dX4_number_10 : decode cX4_number 10 = .ok (.istore 5, 2) := by decide +kernel
theorem dX4_number_12 : decode cX4_number 12 = .ok (.iload 5, 2) := by decide +kernel
theorem dX4_number_14 : decode cX4_number 14 = .ok (.bipush 10, 2) := by decide +kernel
theorem dX4_number_16 : decode cX4_number 16 = .ok (.if_icmp .ge 67, 3) := by decide +kernel
theorem dX4_number_19 : decode cX4_number 19 = .ok (.lload_n 3, 1) := by decide +kernel
theorem dX4_number_20 : decode cX4_number 20 = .ok (.ldc2_w 30, 3) := by decide +kernel
theorem dX4_number_23 : decode cX4_number 23 = .ok (.land, 1) := by decide +kernel
theorem dX4_number_24 : decode cX4_number 24 = .ok (.l2i, 1) := by decide +kernel
theorem dX4_number_25 : decode cX4_number 25 = .ok (.istore 6, 2) := by decide +kernel
theorem dX4_number_27 : decode cX4_number 27 = .ok (.lload_n 3, 1) := by decide +kernel
theorem dX4_number_28 : decode cX4_number 28 = .ok (.bipush 7, 2) := by decide +kernel
theorem dX4_number_30 : decode cX4_number 30 = .ok (.lushr, 1) := by decide +kernel
theorem dX4_number_31 : decode cX4_number 31 = .ok (.lstore_n 3, 1) := by decide +kernel
theorem dX4_number_32 : decode cX4_number 32 = .ok (.aload_n 0, 1) := by decide +kernel
theorem dX4_number_33 : decode cX4_number 33 = .ok (.getfield 20, 3) := by decide +kernel
theorem dX4_number_36 : decode cX4_number 36 = .ok (.aload_n 0, 1) := by decide +kernel
theorem dX4_number_37 : decode cX4_number 37 = .ok (.getfield 27, 3) := by decide +kernel
theorem dX4_number_40 : decode cX4_number 40 = .ok (.lload_n 3, 1) := by decide +kernel
theorem dX4_number_41 : decode cX4_number 41 = .ok (.lconst 0, 1) := by decide +kernel
theorem dX4_number_42 : decode cX4_number 42 = .ok (.lcmp, 1) := by decide +kernel
theorem dX4_number_43 : decode cX4_number 43 = .ok (.ifCond .ne 8, 3) := by decide +kernel
theorem dX4_number_46 : decode cX4_number 46 = .ok (.iload 6, 2) := by decide +kernel
theorem dX4_number_48 : decode cX4_number 48 = .ok (.goto 9, 3) := by decide +kernel
theorem dX4_number_51 : decode cX4_number 51 = .ok (.iload 6, 2) := by decide +kernel
theorem dX4_number_53 : decode cX4_number 53 = .ok (.sipush 128, 3) := by decide +kernel
theorem dX4_number_56 : decode cX4_number 56 = .ok (.iadd, 1) := by decide +kernel
theorem dX4_number_57 : decode cX4_number 57 = .ok (.invokevirtual 32, 3) := by decide +kernel
theorem dX4_number_60 : decode cX4_number 60 = .ok (.aload_n 0, 1) := by decide +kernel
theorem dX4_number_61 : decode cX4_number 61 = .ok (.dup, 1) := by decide +kernel
theorem dX4_number_62 : decode cX4_number 62 = .ok (.getfield 27, 3) := by decide +kernel
theorem dX4_number_65 : decode cX4_number 65 = .ok (.iconst 1, 1) := by decide +kernel
theorem dX4_number_66 : decode cX4_number 66 = .ok (.iadd, 1) := by decide +kernel
theorem dX4_number_67 : decode cX4_number 67 = .ok (.putfield 27, 3) := by decide +kernel
theorem dX4_number_70 : decode cX4_number 70 = .ok (.lload_n 3, 1) := by decide +kernel
theorem dX4_number_71 : decode cX4_number 71 = .ok (.lconst 0, 1) := by decide +kernel
theorem dX4_number_72 : decode cX4_number 72 = .ok (.lcmp, 1) := by decide +kernel
theorem dX4_number_73 : decode cX4_number 73 = .ok (.ifCond .ne 4, 3) := by decide +kernel
theorem dX4_number_76 : decode cX4_number 76 = .ok (.return_, 1) := by decide +kernel
theorem dX4_number_77 : decode cX4_number 77 = .ok (.iinc 5 1, 3) := by decide +kernel
theorem dX4_number_80 : decode cX4_number 80 = .ok (.goto (-68), 3) := by decide +kernel
theorem dX4_number_83 : decode cX4_number 83 = .ok (.return_, 1) := by decide +kernel
theorem dX4_write_0 : decode cX4_write 0 = .ok (.aload_n 0, 1) := by decide +kernel
theorem dX4_write_1 : decode cX4_write 1 = .ok (.getfield 36, 3) := by decide +kernel
theorem dX4_write_4 : decode cX4_write 4 = .ok (.iconst 4, 1) := by decide +kernel
theorem dX4_write_5 : decode cX4_write 5 = .ok (.iadd, 1) := by decide +kernel
theorem dX4_write_6 : decode cX4_write 6 = .ok (.aload_n 0, 1) := by decide +kernel
theorem dX4_write_7 : decode cX4_write 7 = .ok (.getfield 27, 3) := by decide +kernel
theorem dX4_write_10 : decode cX4_write 10 = .ok (.iadd, 1) := by decide +kernel
theorem dX4_write_11 : decode cX4_write 11 = .ok (.sipush 6000, 3) := by decide +kernel
theorem dX4_write_14 : decode cX4_write 14 = .ok (.if_icmp .le 5, 3) := by decide +kernel
theorem dX4_write_17 : decode cX4_write 17 = .ok (.iconst 0, 1) := by decide +kernel
theorem dX4_write_18 : decode cX4_write 18 = .ok (.ireturn, 1) := by decide +kernel
theorem dX4_write_19 : decode cX4_write 19 = .ok (.aload_n 0, 1) := by decide +kernel
theorem dX4_write_20 : decode cX4_write 20 = .ok (.getfield 36, 3) := by decide +kernel
theorem dX4_write_23 : decode cX4_write 23 = .ok (.istore_n 1, 1) := by decide +kernel
theorem dX4_write_24 : decode cX4_write 24 = .ok (.aload_n 0, 1) := by decide +kernel
theorem dX4_write_25 : decode cX4_write 25 = .ok (.aload_n 0, 1) := by decide +kernel
theorem dX4_write_26 : decode cX4_write 26 = .ok (.getfield 27, 3) := by decide +kernel
theorem dX4_write_29 : decode cX4_write 29 = .ok (.invokevirtual 39, 3) := by decide +kernel
theorem dX4_write_32 : decode cX4_write 32 = .ok (.aload_n 0, 1) := by decide +kernel
theorem dX4_write_33 : decode cX4_write 33 = .ok (.aload_n 0, 1) := by decide +kernel
theorem dX4_write_34 : decode cX4_write 34 = .ok (.getfield 23, 3) := by decide +kernel
theorem dX4_write_37 : decode cX4_write 37 = .ok (.invokevirtual 39, 3) := by decide +kernel
theorem dX4_write_40 : decode cX4_write 40 = .ok (.iconst 0, 1) := by decide +kernel
theorem dX4_write_41 : decode cX4_write 41 = .ok (.istore_n 2, 1) := by decide +kernel
theorem dX4_write_42 : decode cX4_write 42 = .ok (.iload_n 2, 1) := by decide +kernel
theorem dX4_write_43 : decode cX4_write 43 = .ok (.aload_n 0, 1) := by decide +kernel
theorem dX4_write_44 : decode cX4_write 44 = .ok (.getfield 27, 3) := by decide +kernel
theorem dX4_write_47 : decode cX4_write 47 = .ok (.if_icmp .ge 21, 3) := by decide +kernel
theorem dX4_write_50 : decode cX4_write 50 = .ok (.aload_n 0, 1) := by decide +kernel
theorem dX4_write_51 : decode cX4_write 51 = .ok (.aload_n 0, 1) := by decide +kernel
theorem dX4_write_52 : decode cX4_write 52 = .ok (.getfield 20, 3) := by decide +kernel
theorem dX4_write_55 : decode cX4_write 55 = .ok (.iload_n 2, 1) := by decide +kernel
theorem dX4_write_56 : decode cX4_write 56 = .ok (.invokevirtual 41, 3) := by decide +kernel
theorem dX4_write_59 : decode cX4_write 59 = .ok (.invokevirtual 39, 3) := by decide +kernel
theorem dX4_write_62 : decode cX4_write 62 = .ok (.iinc 2 1, 3) := by decide +kernel
theorem dX4_write_65 : decode cX4_write 65 = .ok (.goto (-23), 3) := by decide +kernel
theorem dX4_write_68 : decode cX4_write 68 = .ok (.aload_n 0, 1) := by decide +kernel
theorem dX4_write_69 : decode cX4_write 69 = .ok (.iload_n 1, 1) := by decide +kernel
theorem dX4_write_70 : decode cX4_write 70 = .ok (.aload_n 0, 1) := by decide +kernel
theorem dX4_write_71 : decode cX4_write 71 = .ok (.getfield 36, 3) := by decide +kernel
theorem dX4_write_74 : decode cX4_write 74 = .ok (.invokevirtual 45, 3) := by decide +kernel
theorem dX4_write_77 : decode cX4_write 77 = .ok (.istore_n 2, 1) := by decide +kernel
theorem dX4_write_78 : decode cX4_write 78 = .ok (.aload_n 0, 1) := by decide +kernel
theorem dX4_write_79 : decode cX4_write 79 = .ok (.iload_n 2, 1) := by decide +kernel
theorem dX4_write_80 : decode cX4_write 80 = .ok (.bipush 8, 2) := by decide +kernel
theorem dX4_write_82 : decode cX4_write 82 = .ok (.ishr, 1) := by decide +kernel
theorem dX4_write_83 : decode cX4_write 83 = .ok (.invokevirtual 39, 3) := by decide +kernel
theorem dX4_write_86 : decode cX4_write 86 = .ok (.aload_n 0, 1) := by decide +kernel
theorem dX4_write_87 : decode cX4_write 87 = .ok (.iload_n 2, 1) := by decide +kernel
theorem dX4_write_88 : decode cX4_write 88 = .ok (.sipush 255, 3) := by decide +kernel
theorem dX4_write_91 : decode cX4_write 91 = .ok (.iand, 1) := by decide +kernel
theorem dX4_write_92 : decode cX4_write 92 = .ok (.invokevirtual 39, 3) := by decide +kernel
theorem dX4_write_95 : decode cX4_write 95 = .ok (.aload_n 0, 1) := by decide +kernel
theorem dX4_write_96 : decode cX4_write 96 = .ok (.dup, 1) := by decide +kernel
theorem dX4_write_97 : decode cX4_write 97 = .ok (.getfield 49, 3) := by decide +kernel
theorem dX4_write_100 : decode cX4_write 100 = .ok (.iconst 1, 1) := by decide +kernel
theorem dX4_write_101 : decode cX4_write 101 = .ok (.iadd, 1) := by decide +kernel
theorem dX4_write_102 : decode cX4_write 102 = .ok (.putfield 49, 3) := by decide +kernel
theorem dX4_write_105 : decode cX4_write 105 = .ok (.iconst 1, 1) := by decide +kernel
theorem dX4_write_106 : decode cX4_write 106 = .ok (.ireturn, 1) := by decide +kernel
theorem dX4_put_0 : decode cX4_put 0 = .ok (.aload_n 0, 1) := by decide +kernel
theorem dX4_put_1 : decode cX4_put 1 = .ok (.getfield 14, 3) := by decide +kernel
theorem dX4_put_4 : decode cX4_put 4 = .ok (.aload_n 0, 1) := by decide +kernel
theorem dX4_put_5 : decode cX4_put 5 = .ok (.getfield 36, 3) := by decide +kernel
theorem dX4_put_8 : decode cX4_put 8 = .ok (.iload_n 1, 1) := by decide +kernel
theorem dX4_put_9 : decode cX4_put 9 = .ok (.invokevirtual 32, 3) := by decide +kernel
theorem dX4_put_12 : decode cX4_put 12 = .ok (.aload_n 0, 1) := by decide +kernel
theorem dX4_put_13 : decode cX4_put 13 = .ok (.dup, 1) := by decide +kernel
theorem dX4_put_14 : decode cX4_put 14 = .ok (.getfield 36, 3) := by decide +kernel
theorem dX4_put_17 : decode cX4_put 17 = .ok (.iconst 1, 1) := by decide +kernel
theorem dX4_put_18 : decode cX4_put 18 = .ok (.iadd, 1) := by decide +kernel
theorem dX4_put_19 : decode cX4_put 19 = .ok (.putfield 36, 3) := by decide +kernel
theorem dX4_put_22 : decode cX4_put 22 = .ok (.return_, 1) := by decide +kernel
theorem dX4_checkOf_0 : decode cX4_checkOf 0 = .ok (.ldc 52, 2) := by decide +kernel
theorem dX4_checkOf_2 : decode cX4_checkOf 2 = .ok (.istore_n 3, 1) := by decide +kernel
theorem dX4_checkOf_3 : decode cX4_checkOf 3 = .ok (.iload_n 1, 1) := by decide +kernel
theorem dX4_checkOf_4 : decode cX4_checkOf 4 = .ok (.istore 4, 2) := by decide +kernel
theorem dX4_checkOf_6 : decode cX4_checkOf 6 = .ok (.iload 4, 2) := by decide +kernel
theorem dX4_checkOf_8 : decode cX4_checkOf 8 = .ok (.iload_n 2, 1) := by decide +kernel
theorem dX4_checkOf_9 : decode cX4_checkOf 9 = .ok (.if_icmp .ge 66, 3) := by decide +kernel
theorem dX4_checkOf_12 : decode cX4_checkOf 12 = .ok (.iload_n 3, 1) := by decide +kernel
theorem dX4_checkOf_13 : decode cX4_checkOf 13 = .ok (.aload_n 0, 1) := by decide +kernel
theorem dX4_checkOf_14 : decode cX4_checkOf 14 = .ok (.getfield 14, 3) := by decide +kernel
theorem dX4_checkOf_17 : decode cX4_checkOf 17 = .ok (.iload 4, 2) := by decide +kernel
theorem dX4_checkOf_19 : decode cX4_checkOf 19 = .ok (.invokevirtual 41, 3) := by decide +kernel
theorem dX4_checkOf_22 : decode cX4_checkOf 22 = .ok (.bipush 8, 2) := by decide +kernel
theorem dX4_checkOf_24 : decode cX4_checkOf 24 = .ok (.ishl, 1) := by decide +kernel
theorem dX4_checkOf_25 : decode cX4_checkOf 25 = .ok (.ixor, 1) := by decide +kernel
theorem dX4_checkOf_26 : decode cX4_checkOf 26 = .ok (.istore_n 3, 1) := by decide +kernel
theorem dX4_checkOf_27 : decode cX4_checkOf 27 = .ok (.iconst 0, 1) := by decide +kernel
theorem dX4_checkOf_28 : decode cX4_checkOf 28 = .ok (.istore 5, 2) := by decide +kernel
theorem dX4_checkOf_30 : decode cX4_checkOf 30 = .ok (.iload 5, 2) := by decide +kernel
theorem dX4_checkOf_32 : decode cX4_checkOf 32 = .ok (.bipush 8, 2) := by decide +kernel
theorem dX4_checkOf_34 : decode cX4_checkOf 34 = .ok (.if_icmp .ge 30, 3) := by decide +kernel
theorem dX4_checkOf_37 : decode cX4_checkOf 37 = .ok (.iload_n 3, 1) := by decide +kernel
theorem dX4_checkOf_38 : decode cX4_checkOf 38 = .ok (.ldc 53, 2) := by decide +kernel
theorem dX4_checkOf_40 : decode cX4_checkOf 40 = .ok (.iand, 1) := by decide +kernel
theorem dX4_checkOf_41 : decode cX4_checkOf 41 = .ok (.ifCond .ne 9, 3) := by decide +kernel
theorem dX4_checkOf_44 : decode cX4_checkOf 44 = .ok (.iload_n 3, 1) := by decide +kernel
theorem dX4_checkOf_45 : decode cX4_checkOf 45 = .ok (.iconst 1, 1) := by decide +kernel
theorem dX4_checkOf_46 : decode cX4_checkOf 46 = .ok (.ishl, 1) := by decide +kernel
theorem dX4_checkOf_47 : decode cX4_checkOf 47 = .ok (.goto 10, 3) := by decide +kernel
theorem dX4_checkOf_50 : decode cX4_checkOf 50 = .ok (.iload_n 3, 1) := by decide +kernel
theorem dX4_checkOf_51 : decode cX4_checkOf 51 = .ok (.iconst 1, 1) := by decide +kernel
theorem dX4_checkOf_52 : decode cX4_checkOf 52 = .ok (.ishl, 1) := by decide +kernel
theorem dX4_checkOf_53 : decode cX4_checkOf 53 = .ok (.sipush 4129, 3) := by decide +kernel
theorem dX4_checkOf_56 : decode cX4_checkOf 56 = .ok (.ixor, 1) := by decide +kernel
theorem dX4_checkOf_57 : decode cX4_checkOf 57 = .ok (.istore_n 3, 1) := by decide +kernel
theorem dX4_checkOf_58 : decode cX4_checkOf 58 = .ok (.iinc 5 1, 3) := by decide +kernel
theorem dX4_checkOf_61 : decode cX4_checkOf 61 = .ok (.goto (-31), 3) := by decide +kernel
theorem dX4_checkOf_64 : decode cX4_checkOf 64 = .ok (.iload_n 3, 1) := by decide +kernel
theorem dX4_checkOf_65 : decode cX4_checkOf 65 = .ok (.ldc 52, 2) := by decide +kernel
theorem dX4_checkOf_67 : decode cX4_checkOf 67 = .ok (.iand, 1) := by decide +kernel
theorem dX4_checkOf_68 : decode cX4_checkOf 68 = .ok (.istore_n 3, 1) := by decide +kernel
theorem dX4_checkOf_69 : decode cX4_checkOf 69 = .ok (.iinc 4 1, 3) := by decide +kernel
theorem dX4_checkOf_72 : decode cX4_checkOf 72 = .ok (.goto (-66), 3) := by decide +kernel
theorem dX4_checkOf_75 : decode cX4_checkOf 75 = .ok (.iload_n 3, 1) := by decide +kernel
theorem dX4_checkOf_76 : decode cX4_checkOf 76 = .ok (.ireturn, 1) := by decide +kernel
theorem dX4_recordAt_0 : decode cX4_recordAt 0 = .ok (.iload_n 1, 1) := by decide +kernel
theorem dX4_recordAt_1 : decode cX4_recordAt 1 = .ok (.iconst 4, 1) := by decide +kernel
theorem dX4_recordAt_2 : decode cX4_recordAt 2 = .ok (.iadd, 1) := by decide +kernel
theorem dX4_recordAt_3 : decode cX4_recordAt 3 = .ok (.aload_n 0, 1) := by decide +kernel
theorem dX4_recordAt_4 : decode cX4_recordAt 4 = .ok (.getfield 36, 3) := by decide +kernel
theorem dX4_recordAt_7 : decode cX4_recordAt 7 = .ok (.if_icmp .le 5, 3) := by decide +kernel
theorem dX4_recordAt_10 : decode cX4_recordAt 10 = .ok (.iconst 0, 1) := by decide +kernel
theorem dX4_recordAt_11 : decode cX4_recordAt 11 = .ok (.ireturn, 1) := by decide +kernel
theorem dX4_recordAt_12 : decode cX4_recordAt 12 = .ok (.aload_n 0, 1) := by decide +kernel
theorem dX4_recordAt_13 : decode cX4_recordAt 13 = .ok (.getfield 14, 3) := by decide +kernel
theorem dX4_recordAt_16 : decode cX4_recordAt 16 = .ok (.iload_n 1, 1) := by decide +kernel
theorem dX4_recordAt_17 : decode cX4_recordAt 17 = .ok (.invokevirtual 41, 3) := by decide +kernel
theorem dX4_recordAt_20 : decode cX4_recordAt 20 = .ok (.iconst 4, 1) := by decide +kernel
theorem dX4_recordAt_21 : decode cX4_recordAt 21 = .ok (.iadd, 1) := by decide +kernel
theorem dX4_recordAt_22 : decode cX4_recordAt 22 = .ok (.istore_n 2, 1) := by decide +kernel
theorem dX4_recordAt_23 : decode cX4_recordAt 23 = .ok (.iload_n 1, 1) := by decide +kernel
theorem dX4_recordAt_24 : decode cX4_recordAt 24 = .ok (.iload_n 2, 1) := by decide +kernel
theorem dX4_recordAt_25 : decode cX4_recordAt 25 = .ok (.iadd, 1) := by decide +kernel
theorem dX4_recordAt_26 : decode cX4_recordAt 26 = .ok (.aload_n 0, 1) := by decide +kernel
theorem dX4_recordAt_27 : decode cX4_recordAt 27 = .ok (.getfield 36, 3) := by decide +kernel
theorem dX4_recordAt_30 : decode cX4_recordAt 30 = .ok (.if_icmp .le 5, 3) := by decide +kernel
theorem dX4_recordAt_33 : decode cX4_recordAt 33 = .ok (.iconst 0, 1) := by decide +kernel
theorem dX4_recordAt_34 : decode cX4_recordAt 34 = .ok (.ireturn, 1) := by decide +kernel
theorem dX4_recordAt_35 : decode cX4_recordAt 35 = .ok (.iload_n 1, 1) := by decide +kernel
theorem dX4_recordAt_36 : decode cX4_recordAt 36 = .ok (.iload_n 2, 1) := by decide +kernel
theorem dX4_recordAt_37 : decode cX4_recordAt 37 = .ok (.iadd, 1) := by decide +kernel
theorem dX4_recordAt_38 : decode cX4_recordAt 38 = .ok (.iconst 2, 1) := by decide +kernel
theorem dX4_recordAt_39 : decode cX4_recordAt 39 = .ok (.isub, 1) := by decide +kernel
theorem dX4_recordAt_40 : decode cX4_recordAt 40 = .ok (.istore_n 3, 1) := by decide +kernel
theorem dX4_recordAt_41 : decode cX4_recordAt 41 = .ok (.aload_n 0, 1) := by decide +kernel
theorem dX4_recordAt_42 : decode cX4_recordAt 42 = .ok (.getfield 14, 3) := by decide +kernel
theorem dX4_recordAt_45 : decode cX4_recordAt 45 = .ok (.iload_n 3, 1) := by decide +kernel
theorem dX4_recordAt_46 : decode cX4_recordAt 46 = .ok (.invokevirtual 41, 3) := by decide +kernel
theorem dX4_recordAt_49 : decode cX4_recordAt 49 = .ok (.bipush 8, 2) := by decide +kernel
theorem dX4_recordAt_51 : decode cX4_recordAt 51 = .ok (.ishl, 1) := by decide +kernel
theorem dX4_recordAt_52 : decode cX4_recordAt 52 = .ok (.aload_n 0, 1) := by decide +kernel
theorem dX4_recordAt_53 : decode cX4_recordAt 53 = .ok (.getfield 14, 3) := by decide +kernel
theorem dX4_recordAt_56 : decode cX4_recordAt 56 = .ok (.iload_n 3, 1) := by decide +kernel
theorem dX4_recordAt_57 : decode cX4_recordAt 57 = .ok (.iconst 1, 1) := by decide +kernel
theorem dX4_recordAt_58 : decode cX4_recordAt 58 = .ok (.iadd, 1) := by decide +kernel
theorem dX4_recordAt_59 : decode cX4_recordAt 59 = .ok (.invokevirtual 41, 3) := by decide +kernel
theorem dX4_recordAt_62 : decode cX4_recordAt 62 = .ok (.iadd, 1) := by decide +kernel
theorem dX4_recordAt_63 : decode cX4_recordAt 63 = .ok (.istore 4, 2) := by decide +kernel
theorem dX4_recordAt_65 : decode cX4_recordAt 65 = .ok (.iload 4, 2) := by decide +kernel
theorem dX4_recordAt_67 : decode cX4_recordAt 67 = .ok (.aload_n 0, 1) := by decide +kernel
theorem dX4_recordAt_68 : decode cX4_recordAt 68 = .ok (.iload_n 1, 1) := by decide +kernel
theorem dX4_recordAt_69 : decode cX4_recordAt 69 = .ok (.iload_n 3, 1) := by decide +kernel
theorem dX4_recordAt_70 : decode cX4_recordAt 70 = .ok (.invokevirtual 45, 3) := by decide +kernel
theorem dX4_recordAt_73 : decode cX4_recordAt 73 = .ok (.if_icmp .ne 7, 3) := by decide +kernel
theorem dX4_recordAt_76 : decode cX4_recordAt 76 = .ok (.iload_n 2, 1) := by decide +kernel
theorem dX4_recordAt_77 : decode cX4_recordAt 77 = .ok (.goto 4, 3) := by decide +kernel
theorem dX4_recordAt_80 : decode cX4_recordAt 80 = .ok (.iconst 0, 1) := by decide +kernel
theorem dX4_recordAt_81 : decode cX4_recordAt 81 = .ok (.ireturn, 1) := by decide +kernel
theorem dX4_makeDurable_0 : decode cX4_makeDurable 0 = .ok (.aload_n 0, 1) := by decide +kernel
theorem dX4_makeDurable_1 : decode cX4_makeDurable 1 = .ok (.getfield 36, 3) := by decide +kernel
theorem dX4_makeDurable_4 : decode cX4_makeDurable 4 = .ok (.aload_n 0, 1) := by decide +kernel
theorem dX4_makeDurable_5 : decode cX4_makeDurable 5 = .ok (.getfield 54, 3) := by decide +kernel
theorem dX4_makeDurable_8 : decode cX4_makeDurable 8 = .ok (.isub, 1) := by decide +kernel
theorem dX4_makeDurable_9 : decode cX4_makeDurable 9 = .ok (.istore_n 1, 1) := by decide +kernel
theorem dX4_makeDurable_10 : decode cX4_makeDurable 10 = .ok (.aload_n 0, 1) := by decide +kernel
theorem dX4_makeDurable_11 : decode cX4_makeDurable 11 = .ok (.aload_n 0, 1) := by decide +kernel
theorem dX4_makeDurable_12 : decode cX4_makeDurable 12 = .ok (.getfield 36, 3) := by decide +kernel
theorem dX4_makeDurable_15 : decode cX4_makeDurable 15 = .ok (.putfield 54, 3) := by decide +kernel
theorem dX4_makeDurable_18 : decode cX4_makeDurable 18 = .ok (.iload_n 1, 1) := by decide +kernel
theorem dX4_makeDurable_19 : decode cX4_makeDurable 19 = .ok (.ireturn, 1) := by decide +kernel
theorem dX4_tear_0 : decode cX4_tear 0 = .ok (.iload_n 1, 1) := by decide +kernel
theorem dX4_tear_1 : decode cX4_tear 1 = .ok (.aload_n 0, 1) := by decide +kernel
theorem dX4_tear_2 : decode cX4_tear 2 = .ok (.getfield 36, 3) := by decide +kernel
theorem dX4_tear_5 : decode cX4_tear 5 = .ok (.aload_n 0, 1) := by decide +kernel
theorem dX4_tear_6 : decode cX4_tear 6 = .ok (.getfield 54, 3) := by decide +kernel
theorem dX4_tear_9 : decode cX4_tear 9 = .ok (.isub, 1) := by decide +kernel
theorem dX4_tear_10 : decode cX4_tear 10 = .ok (.invokestatic 57, 3) := by decide +kernel
theorem dX4_tear_13 : decode cX4_tear 13 = .ok (.istore_n 3, 1) := by decide +kernel
theorem dX4_tear_14 : decode cX4_tear 14 = .ok (.aload_n 0, 1) := by decide +kernel
theorem dX4_tear_15 : decode cX4_tear 15 = .ok (.aload_n 0, 1) := by decide +kernel
theorem dX4_tear_16 : decode cX4_tear 16 = .ok (.getfield 54, 3) := by decide +kernel
theorem dX4_tear_19 : decode cX4_tear 19 = .ok (.iload_n 3, 1) := by decide +kernel
theorem dX4_tear_20 : decode cX4_tear 20 = .ok (.iadd, 1) := by decide +kernel
theorem dX4_tear_21 : decode cX4_tear 21 = .ok (.putfield 36, 3) := by decide +kernel
theorem dX4_tear_24 : decode cX4_tear 24 = .ok (.iload_n 3, 1) := by decide +kernel
theorem dX4_tear_25 : decode cX4_tear 25 = .ok (.ifCond .le 31, 3) := by decide +kernel
theorem dX4_tear_28 : decode cX4_tear 28 = .ok (.aload_n 0, 1) := by decide +kernel
theorem dX4_tear_29 : decode cX4_tear 29 = .ok (.getfield 14, 3) := by decide +kernel
theorem dX4_tear_32 : decode cX4_tear 32 = .ok (.aload_n 0, 1) := by decide +kernel
theorem dX4_tear_33 : decode cX4_tear 33 = .ok (.getfield 36, 3) := by decide +kernel
theorem dX4_tear_36 : decode cX4_tear 36 = .ok (.iconst 1, 1) := by decide +kernel
theorem dX4_tear_37 : decode cX4_tear 37 = .ok (.isub, 1) := by decide +kernel
theorem dX4_tear_38 : decode cX4_tear 38 = .ok (.aload_n 0, 1) := by decide +kernel
theorem dX4_tear_39 : decode cX4_tear 39 = .ok (.getfield 14, 3) := by decide +kernel
theorem dX4_tear_42 : decode cX4_tear 42 = .ok (.aload_n 0, 1) := by decide +kernel
theorem dX4_tear_43 : decode cX4_tear 43 = .ok (.getfield 36, 3) := by decide +kernel
theorem dX4_tear_46 : decode cX4_tear 46 = .ok (.iconst 1, 1) := by decide +kernel
theorem dX4_tear_47 : decode cX4_tear 47 = .ok (.isub, 1) := by decide +kernel
theorem dX4_tear_48 : decode cX4_tear 48 = .ok (.invokevirtual 41, 3) := by decide +kernel
theorem dX4_tear_51 : decode cX4_tear 51 = .ok (.iload_n 2, 1) := by decide +kernel
theorem dX4_tear_52 : decode cX4_tear 52 = .ok (.ixor, 1) := by decide +kernel
theorem dX4_tear_53 : decode cX4_tear 53 = .ok (.invokevirtual 32, 3) := by decide +kernel
theorem dX4_tear_56 : decode cX4_tear 56 = .ok (.return_, 1) := by decide +kernel
theorem dX4_cut_0 : decode cX4_cut 0 = .ok (.aload_n 0, 1) := by decide +kernel
theorem dX4_cut_1 : decode cX4_cut 1 = .ok (.iload_n 1, 1) := by decide +kernel
theorem dX4_cut_2 : decode cX4_cut 2 = .ok (.putfield 36, 3) := by decide +kernel
theorem dX4_cut_5 : decode cX4_cut 5 = .ok (.aload_n 0, 1) := by decide +kernel
theorem dX4_cut_6 : decode cX4_cut 6 = .ok (.iload_n 1, 1) := by decide +kernel
theorem dX4_cut_7 : decode cX4_cut 7 = .ok (.putfield 54, 3) := by decide +kernel
theorem dX4_cut_10 : decode cX4_cut 10 = .ok (.aload_n 0, 1) := by decide +kernel
theorem dX4_cut_11 : decode cX4_cut 11 = .ok (.iload_n 2, 1) := by decide +kernel
theorem dX4_cut_12 : decode cX4_cut 12 = .ok (.putfield 49, 3) := by decide +kernel
theorem dX4_cut_15 : decode cX4_cut 15 = .ok (.return_, 1) := by decide +kernel
theorem dX5_init_0 : decode cX5_init 0 = .ok (.aload_n 0, 1) := by decide +kernel
theorem dX5_init_1 : decode cX5_init 1 = .ok (.invokespecial 1, 3) := by decide +kernel
theorem dX5_init_4 : decode cX5_init 4 = .ok (.aload_n 0, 1) := by decide +kernel
theorem dX5_init_5 : decode cX5_init 5 = .ok (.new 7, 3) := by decide +kernel
theorem dX5_init_8 : decode cX5_init 8 = .ok (.dup, 1) := by decide +kernel
theorem dX5_init_9 : decode cX5_init 9 = .ok (.iload_n 1, 1) := by decide +kernel
theorem dX5_init_10 : decode cX5_init 10 = .ok (.invokespecial 9, 3) := by decide +kernel
theorem dX5_init_13 : decode cX5_init 13 = .ok (.putfield 12, 3) := by decide +kernel
theorem dX5_init_16 : decode cX5_init 16 = .ok (.aload_n 0, 1) := by decide +kernel
theorem dX5_init_17 : decode cX5_init 17 = .ok (.new 18, 3) := by decide +kernel
theorem dX5_init_20 : decode cX5_init 20 = .ok (.dup, 1) := by decide +kernel
theorem dX5_init_21 : decode cX5_init 21 = .ok (.iload_n 1, 1) := by decide +kernel
theorem dX5_init_22 : decode cX5_init 22 = .ok (.invokespecial 20, 3) := by decide +kernel
theorem dX5_init_25 : decode cX5_init 25 = .ok (.putfield 21, 3) := by decide +kernel
theorem dX5_init_28 : decode cX5_init 28 = .ok (.return_, 1) := by decide +kernel
theorem dX5_clear_0 : decode cX5_clear 0 = .ok (.aload_n 0, 1) := by decide +kernel
theorem dX5_clear_1 : decode cX5_clear 1 = .ok (.iconst 0, 1) := by decide +kernel
theorem dX5_clear_2 : decode cX5_clear 2 = .ok (.putfield 25, 3) := by decide +kernel
theorem dX5_clear_5 : decode cX5_clear 5 = .ok (.return_, 1) := by decide +kernel
theorem dX5_add_0 : decode cX5_add 0 = .ok (.aload_n 0, 1) := by decide +kernel
theorem dX5_add_1 : decode cX5_add 1 = .ok (.getfield 12, 3) := by decide +kernel
theorem dX5_add_4 : decode cX5_add 4 = .ok (.aload_n 0, 1) := by decide +kernel
theorem dX5_add_5 : decode cX5_add 5 = .ok (.getfield 25, 3) := by decide +kernel
theorem dX5_add_8 : decode cX5_add 8 = .ok (.iload_n 1, 1) := by decide +kernel
theorem dX5_add_9 : decode cX5_add 9 = .ok (.invokevirtual 29, 3) := by decide +kernel
theorem dX5_add_12 : decode cX5_add 12 = .ok (.aload_n 0, 1) := by decide +kernel
theorem dX5_add_13 : decode cX5_add 13 = .ok (.getfield 21, 3) := by decide +kernel
theorem dX5_add_16 : decode cX5_add 16 = .ok (.aload_n 0, 1) := by decide +kernel
theorem dX5_add_17 : decode cX5_add 17 = .ok (.getfield 25, 3) := by decide +kernel
theorem dX5_add_20 : decode cX5_add 20 = .ok (.lload_n 2, 1) := by decide +kernel
theorem dX5_add_21 : decode cX5_add 21 = .ok (.invokevirtual 33, 3) := by decide +kernel
theorem dX5_add_24 : decode cX5_add 24 = .ok (.aload_n 0, 1) := by decide +kernel
theorem dX5_add_25 : decode cX5_add 25 = .ok (.dup, 1) := by decide +kernel
theorem dX5_add_26 : decode cX5_add 26 = .ok (.getfield 25, 3) := by decide +kernel
theorem dX5_add_29 : decode cX5_add 29 = .ok (.iconst 1, 1) := by decide +kernel
theorem dX5_add_30 : decode cX5_add 30 = .ok (.iadd, 1) := by decide +kernel
theorem dX5_add_31 : decode cX5_add 31 = .ok (.putfield 25, 3) := by decide +kernel
theorem dX5_add_34 : decode cX5_add 34 = .ok (.return_, 1) := by decide +kernel
theorem dX5_total_0 : decode cX5_total 0 = .ok (.lconst 0, 1) := by decide +kernel
theorem dX5_total_1 : decode cX5_total 1 = .ok (.lstore_n 1, 1) := by decide +kernel
theorem dX5_total_2 : decode cX5_total 2 = .ok (.iconst 0, 1) := by decide +kernel
theorem dX5_total_3 : decode cX5_total 3 = .ok (.istore_n 3, 1) := by decide +kernel
theorem dX5_total_4 : decode cX5_total 4 = .ok (.iload_n 3, 1) := by decide +kernel
theorem dX5_total_5 : decode cX5_total 5 = .ok (.aload_n 0, 1) := by decide +kernel
theorem dX5_total_6 : decode cX5_total 6 = .ok (.getfield 25, 3) := by decide +kernel
theorem dX5_total_9 : decode cX5_total 9 = .ok (.if_icmp .ge 20, 3) := by decide +kernel
theorem dX5_total_12 : decode cX5_total 12 = .ok (.lload_n 1, 1) := by decide +kernel
theorem dX5_total_13 : decode cX5_total 13 = .ok (.aload_n 0, 1) := by decide +kernel
theorem dX5_total_14 : decode cX5_total 14 = .ok (.getfield 21, 3) := by decide +kernel
theorem dX5_total_17 : decode cX5_total 17 = .ok (.iload_n 3, 1) := by decide +kernel
theorem dX5_total_18 : decode cX5_total 18 = .ok (.invokevirtual 36, 3) := by decide +kernel
theorem dX5_total_21 : decode cX5_total 21 = .ok (.ladd, 1) := by decide +kernel
theorem dX5_total_22 : decode cX5_total 22 = .ok (.lstore_n 1, 1) := by decide +kernel
theorem dX5_total_23 : decode cX5_total 23 = .ok (.iinc 3 1, 3) := by decide +kernel
theorem dX5_total_26 : decode cX5_total 26 = .ok (.goto (-22), 3) := by decide +kernel
theorem dX5_total_29 : decode cX5_total 29 = .ok (.lload_n 1, 1) := by decide +kernel
theorem dX5_total_30 : decode cX5_total 30 = .ok (.lreturn, 1) := by decide +kernel
theorem dX6_init_0 : decode cX6_init 0 = .ok (.aload_n 0, 1) := by decide +kernel
theorem dX6_init_1 : decode cX6_init 1 = .ok (.invokespecial 1, 3) := by decide +kernel
theorem dX6_init_4 : decode cX6_init 4 = .ok (.aload_n 0, 1) := by decide +kernel
theorem dX6_init_5 : decode cX6_init 5 = .ok (.iload_n 1, 1) := by decide +kernel
theorem dX6_init_6 : decode cX6_init 6 = .ok (.putfield 7, 3) := by decide +kernel
theorem dX6_init_9 : decode cX6_init 9 = .ok (.aload_n 0, 1) := by decide +kernel
theorem dX6_init_10 : decode cX6_init 10 = .ok (.bipush 16, 2) := by decide +kernel
theorem dX6_init_12 : decode cX6_init 12 = .ok (.newarray .long, 2) := by decide +kernel
theorem dX6_init_14 : decode cX6_init 14 = .ok (.putfield 13, 3) := by decide +kernel
theorem dX6_init_17 : decode cX6_init 17 = .ok (.return_, 1) := by decide +kernel
theorem dX6_at_0 : decode cX6_at 0 = .ok (.iload_n 1, 1) := by decide +kernel
theorem dX6_at_1 : decode cX6_at 1 = .ok (.ifCond .lt 21, 3) := by decide +kernel
theorem dX6_at_4 : decode cX6_at 4 = .ok (.iload_n 1, 1) := by decide +kernel
theorem dX6_at_5 : decode cX6_at 5 = .ok (.aload_n 0, 1) := by decide +kernel
theorem dX6_at_6 : decode cX6_at 6 = .ok (.getfield 13, 3) := by decide +kernel
theorem dX6_at_9 : decode cX6_at 9 = .ok (.arraylength, 1) := by decide +kernel
theorem dX6_at_10 : decode cX6_at 10 = .ok (.if_icmp .ge 12, 3) := by decide +kernel
theorem dX6_at_13 : decode cX6_at 13 = .ok (.aload_n 0, 1) := by decide +kernel
theorem dX6_at_14 : decode cX6_at 14 = .ok (.getfield 13, 3) := by decide +kernel
theorem dX6_at_17 : decode cX6_at 17 = .ok (.iload_n 1, 1) := by decide +kernel
theorem dX6_at_18 : decode cX6_at 18 = .ok (.laload, 1) := by decide +kernel
theorem dX6_at_19 : decode cX6_at 19 = .ok (.goto 4, 3) := by decide +kernel
theorem dX6_at_22 : decode cX6_at 22 = .ok (.lconst 0, 1) := by decide +kernel
theorem dX6_at_23 : decode cX6_at 23 = .ok (.lreturn, 1) := by decide +kernel
theorem dX6_put_0 : decode cX6_put 0 = .ok (.iload_n 1, 1) := by decide +kernel
theorem dX6_put_1 : decode cX6_put 1 = .ok (.ifCond .lt 11, 3) := by decide +kernel
theorem dX6_put_4 : decode cX6_put 4 = .ok (.iload_n 1, 1) := by decide +kernel
theorem dX6_put_5 : decode cX6_put 5 = .ok (.aload_n 0, 1) := by decide +kernel
theorem dX6_put_6 : decode cX6_put 6 = .ok (.getfield 7, 3) := by decide +kernel
theorem dX6_put_9 : decode cX6_put 9 = .ok (.if_icmp .lt 4, 3) := by decide +kernel
theorem dX6_put_12 : decode cX6_put 12 = .ok (.return_, 1) := by decide +kernel
theorem dX6_put_13 : decode cX6_put 13 = .ok (.iload_n 1, 1) := by decide +kernel
theorem dX6_put_14 : decode cX6_put 14 = .ok (.aload_n 0, 1) := by decide +kernel
theorem dX6_put_15 : decode cX6_put 15 = .ok (.getfield 13, 3) := by decide +kernel
theorem dX6_put_18 : decode cX6_put 18 = .ok (.arraylength, 1) := by decide +kernel
theorem dX6_put_19 : decode cX6_put 19 = .ok (.if_icmp .lt 34, 3) := by decide +kernel
theorem dX6_put_22 : decode cX6_put 22 = .ok (.aload_n 0, 1) := by decide +kernel
theorem dX6_put_23 : decode cX6_put 23 = .ok (.aload_n 0, 1) := by decide +kernel
theorem dX6_put_24 : decode cX6_put 24 = .ok (.getfield 13, 3) := by decide +kernel
theorem dX6_put_27 : decode cX6_put 27 = .ok (.iload_n 1, 1) := by decide +kernel
theorem dX6_put_28 : decode cX6_put 28 = .ok (.iconst 1, 1) := by decide +kernel
theorem dX6_put_29 : decode cX6_put 29 = .ok (.iadd, 1) := by decide +kernel
theorem dX6_put_30 : decode cX6_put 30 = .ok (.aload_n 0, 1) := by decide +kernel
theorem dX6_put_31 : decode cX6_put 31 = .ok (.getfield 7, 3) := by decide +kernel
theorem dX6_put_34 : decode cX6_put 34 = .ok (.iconst 2, 1) := by decide +kernel
theorem dX6_put_35 : decode cX6_put 35 = .ok (.aload_n 0, 1) := by decide +kernel
theorem dX6_put_36 : decode cX6_put 36 = .ok (.getfield 13, 3) := by decide +kernel
theorem dX6_put_39 : decode cX6_put 39 = .ok (.arraylength, 1) := by decide +kernel
theorem dX6_put_40 : decode cX6_put 40 = .ok (.imul, 1) := by decide +kernel
theorem dX6_put_41 : decode cX6_put 41 = .ok (.invokestatic 17, 3) := by decide +kernel
theorem dX6_put_44 : decode cX6_put 44 = .ok (.invokestatic 23, 3) := by decide +kernel
theorem dX6_put_47 : decode cX6_put 47 = .ok (.invokestatic 26, 3) := by decide +kernel
theorem dX6_put_50 : decode cX6_put 50 = .ok (.putfield 13, 3) := by decide +kernel
theorem dX6_put_53 : decode cX6_put 53 = .ok (.aload_n 0, 1) := by decide +kernel
theorem dX6_put_54 : decode cX6_put 54 = .ok (.getfield 13, 3) := by decide +kernel
theorem dX6_put_57 : decode cX6_put 57 = .ok (.iload_n 1, 1) := by decide +kernel
theorem dX6_put_58 : decode cX6_put 58 = .ok (.lload_n 2, 1) := by decide +kernel
theorem dX6_put_59 : decode cX6_put 59 = .ok (.lastore, 1) := by decide +kernel
theorem dX6_put_60 : decode cX6_put 60 = .ok (.return_, 1) := by decide +kernel
theorem dX6_clear_0 : decode cX6_clear 0 = .ok (.aload_n 0, 1) := by decide +kernel
theorem dX6_clear_1 : decode cX6_clear 1 = .ok (.getfield 13, 3) := by decide +kernel
theorem dX6_clear_4 : decode cX6_clear 4 = .ok (.lconst 0, 1) := by decide +kernel
theorem dX6_clear_5 : decode cX6_clear 5 = .ok (.invokestatic 32, 3) := by decide +kernel
theorem dX6_clear_8 : decode cX6_clear 8 = .ok (.return_, 1) := by decide +kernel
theorem dX7_init_0 : decode cX7_init 0 = .ok (.aload_n 0, 1) := by decide +kernel
theorem dX7_init_1 : decode cX7_init 1 = .ok (.invokespecial 3, 3) := by decide +kernel
theorem dX7_init_4 : decode cX7_init 4 = .ok (.aload_n 0, 1) := by decide +kernel
theorem dX7_init_5 : decode cX7_init 5 = .ok (.new 9, 3) := by decide +kernel
theorem dX7_init_8 : decode cX7_init 8 = .ok (.dup, 1) := by decide +kernel
theorem dX7_init_9 : decode cX7_init 9 = .ok (.bipush 24, 2) := by decide +kernel
theorem dX7_init_11 : decode cX7_init 11 = .ok (.invokespecial 11, 3) := by decide +kernel
theorem dX7_init_14 : decode cX7_init 14 = .ok (.putfield 14, 3) := by decide +kernel
theorem dX7_init_17 : decode cX7_init 17 = .ok (.aload_n 0, 1) := by decide +kernel
theorem dX7_init_18 : decode cX7_init 18 = .ok (.new 9, 3) := by decide +kernel
theorem dX7_init_21 : decode cX7_init 21 = .ok (.dup, 1) := by decide +kernel
theorem dX7_init_22 : decode cX7_init 22 = .ok (.bipush 24, 2) := by decide +kernel
theorem dX7_init_24 : decode cX7_init 24 = .ok (.invokespecial 11, 3) := by decide +kernel
theorem dX7_init_27 : decode cX7_init 27 = .ok (.putfield 20, 3) := by decide +kernel
theorem dX7_init_30 : decode cX7_init 30 = .ok (.return_, 1) := by decide +kernel
theorem dX7_clear_0 : decode cX7_clear 0 = .ok (.aload_n 0, 1) := by decide +kernel
theorem dX7_clear_1 : decode cX7_clear 1 = .ok (.iconst 0, 1) := by decide +kernel
theorem dX7_clear_2 : decode cX7_clear 2 = .ok (.putfield 23, 3) := by decide +kernel
theorem dX7_clear_5 : decode cX7_clear 5 = .ok (.aload_n 0, 1) := by decide +kernel
theorem dX7_clear_6 : decode cX7_clear 6 = .ok (.iconst 0, 1) := by decide +kernel
theorem dX7_clear_7 : decode cX7_clear 7 = .ok (.putfield 27, 3) := by decide +kernel
theorem dX7_clear_10 : decode cX7_clear 10 = .ok (.return_, 1) := by decide +kernel
theorem dX7_has_0 : decode cX7_has 0 = .ok (.iload_n 1, 1) := by decide +kernel
theorem dX7_has_1 : decode cX7_has 1 = .ok (.ifCond .lt 15, 3) := by decide +kernel
theorem dX7_has_4 : decode cX7_has 4 = .ok (.iload_n 1, 1) := by decide +kernel
theorem dX7_has_5 : decode cX7_has 5 = .ok (.aload_n 0, 1) := by decide +kernel
theorem dX7_has_6 : decode cX7_has 6 = .ok (.getfield 23, 3) := by decide +kernel
theorem dX7_has_9 : decode cX7_has 9 = .ok (.if_icmp .ge 7, 3) := by decide +kernel
theorem dX7_has_12 : decode cX7_has 12 = .ok (.iconst 1, 1) := by decide +kernel
theorem dX7_has_13 : decode cX7_has 13 = .ok (.goto 4, 3) := by decide +kernel
theorem dX7_has_16 : decode cX7_has 16 = .ok (.iconst 0, 1) := by decide +kernel
theorem dX7_has_17 : decode cX7_has 17 = .ok (.ireturn, 1) := by decide +kernel
theorem dX7_add_0 : decode cX7_add 0 = .ok (.aload_n 0, 1) := by decide +kernel
theorem dX7_add_1 : decode cX7_add 1 = .ok (.getfield 23, 3) := by decide +kernel
theorem dX7_add_4 : decode cX7_add 4 = .ok (.istore_n 2, 1) := by decide +kernel
theorem dX7_add_5 : decode cX7_add 5 = .ok (.aload_n 0, 1) := by decide +kernel
theorem dX7_add_6 : decode cX7_add 6 = .ok (.getfield 14, 3) := by decide +kernel
theorem dX7_add_9 : decode cX7_add 9 = .ok (.iload_n 2, 1) := by decide +kernel
theorem dX7_add_10 : decode cX7_add 10 = .ok (.iload_n 1, 1) := by decide +kernel
theorem dX7_add_11 : decode cX7_add 11 = .ok (.invokevirtual 30, 3) := by decide +kernel
theorem dX7_add_14 : decode cX7_add 14 = .ok (.aload_n 0, 1) := by decide +kernel
theorem dX7_add_15 : decode cX7_add 15 = .ok (.getfield 20, 3) := by decide +kernel
theorem dX7_add_18 : decode cX7_add 18 = .ok (.iload_n 2, 1) := by decide +kernel
theorem dX7_add_19 : decode cX7_add 19 = .ok (.iconst (-1), 1) := by decide +kernel
theorem dX7_add_20 : decode cX7_add 20 = .ok (.invokevirtual 30, 3) := by decide +kernel
theorem dX7_add_23 : decode cX7_add 23 = .ok (.aload_n 0, 1) := by decide +kernel
theorem dX7_add_24 : decode cX7_add 24 = .ok (.dup, 1) := by decide +kernel
theorem dX7_add_25 : decode cX7_add 25 = .ok (.getfield 23, 3) := by decide +kernel
theorem dX7_add_28 : decode cX7_add 28 = .ok (.iconst 1, 1) := by decide +kernel
theorem dX7_add_29 : decode cX7_add 29 = .ok (.iadd, 1) := by decide +kernel
theorem dX7_add_30 : decode cX7_add 30 = .ok (.putfield 23, 3) := by decide +kernel
theorem dX7_add_33 : decode cX7_add 33 = .ok (.iload_n 2, 1) := by decide +kernel
theorem dX7_add_34 : decode cX7_add 34 = .ok (.ireturn, 1) := by decide +kernel
theorem dX7_firstDay_0 : decode cX7_firstDay 0 = .ok (.iload_n 1, 1) := by decide +kernel
theorem dX7_firstDay_1 : decode cX7_firstDay 1 = .ok (.ifCond .ne 7, 3) := by decide +kernel
theorem dX7_firstDay_4 : decode cX7_firstDay 4 = .ok (.iconst 0, 1) := by decide +kernel
theorem dX7_firstDay_5 : decode cX7_firstDay 5 = .ok (.goto 15, 3) := by decide +kernel
theorem dX7_firstDay_8 : decode cX7_firstDay 8 = .ok (.aload_n 0, 1) := by decide +kernel
theorem dX7_firstDay_9 : decode cX7_firstDay 9 = .ok (.getfield 14, 3) := by decide +kernel
theorem dX7_firstDay_12 : decode cX7_firstDay 12 = .ok (.iload_n 1, 1) := by decide +kernel
theorem dX7_firstDay_13 : decode cX7_firstDay 13 = .ok (.iconst 1, 1) := by decide +kernel
theorem dX7_firstDay_14 : decode cX7_firstDay 14 = .ok (.isub, 1) := by decide +kernel
theorem dX7_firstDay_15 : decode cX7_firstDay 15 = .ok (.invokevirtual 34, 3) := by decide +kernel
theorem dX7_firstDay_18 : decode cX7_firstDay 18 = .ok (.iconst 1, 1) := by decide +kernel
theorem dX7_firstDay_19 : decode cX7_firstDay 19 = .ok (.iadd, 1) := by decide +kernel
theorem dX7_firstDay_20 : decode cX7_firstDay 20 = .ok (.ireturn, 1) := by decide +kernel
theorem dX7_lastDay_0 : decode cX7_lastDay 0 = .ok (.aload_n 0, 1) := by decide +kernel
theorem dX7_lastDay_1 : decode cX7_lastDay 1 = .ok (.getfield 14, 3) := by decide +kernel
theorem dX7_lastDay_4 : decode cX7_lastDay 4 = .ok (.iload_n 1, 1) := by decide +kernel
theorem dX7_lastDay_5 : decode cX7_lastDay 5 = .ok (.invokevirtual 34, 3) := by decide +kernel
theorem dX7_lastDay_8 : decode cX7_lastDay 8 = .ok (.ireturn, 1) := by decide +kernel
theorem dX7_firstFreeDay_0 : decode cX7_firstFreeDay 0 = .ok (.aload_n 0, 1) := by decide +kernel
theorem dX7_firstFreeDay_1 : decode cX7_firstFreeDay 1 = .ok (.aload_n 0, 1) := by decide +kernel
theorem dX7_firstFreeDay_2 : decode cX7_firstFreeDay 2 = .ok (.getfield 23, 3) := by decide +kernel
theorem dX7_firstFreeDay_5 : decode cX7_firstFreeDay 5 = .ok (.invokevirtual 38, 3) := by decide +kernel
theorem dX7_firstFreeDay_8 : decode cX7_firstFreeDay 8 = .ok (.ireturn, 1) := by decide +kernel
theorem dX7_withDay_0 : decode cX7_withDay 0 = .ok (.iconst 0, 1) := by decide +kernel
theorem dX7_withDay_1 : decode cX7_withDay 1 = .ok (.istore_n 2, 1) := by decide +kernel
theorem dX7_withDay_2 : decode cX7_withDay 2 = .ok (.iload_n 2, 1) := by decide +kernel
theorem dX7_withDay_3 : decode cX7_withDay 3 = .ok (.aload_n 0, 1) := by decide +kernel
theorem dX7_withDay_4 : decode cX7_withDay 4 = .ok (.getfield 23, 3) := by decide +kernel
theorem dX7_withDay_7 : decode cX7_withDay 7 = .ok (.if_icmp .ge 27, 3) := by decide +kernel
theorem dX7_withDay_10 : decode cX7_withDay 10 = .ok (.iload_n 1, 1) := by decide +kernel
theorem dX7_withDay_11 : decode cX7_withDay 11 = .ok (.ifCond .lt 17, 3) := by decide +kernel
theorem dX7_withDay_14 : decode cX7_withDay 14 = .ok (.iload_n 1, 1) := by decide +kernel
theorem dX7_withDay_15 : decode cX7_withDay 15 = .ok (.aload_n 0, 1) := by decide +kernel
theorem dX7_withDay_16 : decode cX7_withDay 16 = .ok (.getfield 14, 3) := by decide +kernel
theorem dX7_withDay_19 : decode cX7_withDay 19 = .ok (.iload_n 2, 1) := by decide +kernel
theorem dX7_withDay_20 : decode cX7_withDay 20 = .ok (.invokevirtual 34, 3) := by decide +kernel
theorem dX7_withDay_23 : decode cX7_withDay 23 = .ok (.if_icmp .gt 5, 3) := by decide +kernel
theorem dX7_withDay_26 : decode cX7_withDay 26 = .ok (.iload_n 2, 1) := by decide +kernel
theorem dX7_withDay_27 : decode cX7_withDay 27 = .ok (.ireturn, 1) := by decide +kernel
theorem dX7_withDay_28 : decode cX7_withDay 28 = .ok (.iinc 2 1, 3) := by decide +kernel
theorem dX7_withDay_31 : decode cX7_withDay 31 = .ok (.goto (-29), 3) := by decide +kernel
theorem dX7_withDay_34 : decode cX7_withDay 34 = .ok (.iconst (-1), 1) := by decide +kernel
theorem dX7_withDay_35 : decode cX7_withDay 35 = .ok (.ireturn, 1) := by decide +kernel
theorem dX7_closingOf_0 : decode cX7_closingOf 0 = .ok (.aload_n 0, 1) := by decide +kernel
theorem dX7_closingOf_1 : decode cX7_closingOf 1 = .ok (.getfield 20, 3) := by decide +kernel
theorem dX7_closingOf_4 : decode cX7_closingOf 4 = .ok (.iload_n 1, 1) := by decide +kernel
theorem dX7_closingOf_5 : decode cX7_closingOf 5 = .ok (.invokevirtual 34, 3) := by decide +kernel
theorem dX7_closingOf_8 : decode cX7_closingOf 8 = .ok (.ireturn, 1) := by decide +kernel
theorem dX7_closeFirstOpen_0 : decode cX7_closeFirstOpen 0 = .ok (.aload_n 0, 1) := by decide +kernel
theorem dX7_closeFirstOpen_1 : decode cX7_closeFirstOpen 1 = .ok (.getfield 20, 3) := by decide +kernel
theorem dX7_closeFirstOpen_4 : decode cX7_closeFirstOpen 4 = .ok (.aload_n 0, 1) := by decide +kernel
theorem dX7_closeFirstOpen_5 : decode cX7_closeFirstOpen 5 = .ok (.getfield 27, 3) := by decide +kernel
theorem dX7_closeFirstOpen_8 : decode cX7_closeFirstOpen 8 = .ok (.iload_n 1, 1) := by decide +kernel
theorem dX7_closeFirstOpen_9 : decode cX7_closeFirstOpen 9 = .ok (.invokevirtual 30, 3) := by decide +kernel
theorem dX7_closeFirstOpen_12 : decode cX7_closeFirstOpen 12 = .ok (.aload_n 0, 1) := by decide +kernel
theorem dX7_closeFirstOpen_13 : decode cX7_closeFirstOpen 13 = .ok (.dup, 1) := by decide +kernel
theorem dX7_closeFirstOpen_14 : decode cX7_closeFirstOpen 14 = .ok (.getfield 27, 3) := by decide +kernel
theorem dX7_closeFirstOpen_17 : decode cX7_closeFirstOpen 17 = .ok (.iconst 1, 1) := by decide +kernel
theorem dX7_closeFirstOpen_18 : decode cX7_closeFirstOpen 18 = .ok (.iadd, 1) := by decide +kernel
theorem dX7_closeFirstOpen_19 : decode cX7_closeFirstOpen 19 = .ok (.putfield 27, 3) := by decide +kernel
theorem dX7_closeFirstOpen_22 : decode cX7_closeFirstOpen 22 = .ok (.return_, 1) := by decide +kernel
theorem dX7_openLastClosed_0 : decode cX7_openLastClosed 0 = .ok (.aload_n 0, 1) := by decide +kernel
theorem dX7_openLastClosed_1 : decode cX7_openLastClosed 1 = .ok (.dup, 1) := by decide +kernel
theorem dX7_openLastClosed_2 : decode cX7_openLastClosed 2 = .ok (.getfield 27, 3) := by decide +kernel
theorem dX7_openLastClosed_5 : decode cX7_openLastClosed 5 = .ok (.iconst 1, 1) := by decide +kernel
theorem dX7_openLastClosed_6 : decode cX7_openLastClosed 6 = .ok (.isub, 1) := by decide +kernel
theorem dX7_openLastClosed_7 : decode cX7_openLastClosed 7 = .ok (.putfield 27, 3) := by decide +kernel
theorem dX7_openLastClosed_10 : decode cX7_openLastClosed 10 = .ok (.aload_n 0, 1) := by decide +kernel
theorem dX7_openLastClosed_11 : decode cX7_openLastClosed 11 = .ok (.getfield 20, 3) := by decide +kernel
theorem dX7_openLastClosed_14 : decode cX7_openLastClosed 14 = .ok (.aload_n 0, 1) := by decide +kernel
theorem dX7_openLastClosed_15 : decode cX7_openLastClosed 15 = .ok (.getfield 27, 3) := by decide +kernel
theorem dX7_openLastClosed_18 : decode cX7_openLastClosed 18 = .ok (.iconst (-1), 1) := by decide +kernel
theorem dX7_openLastClosed_19 : decode cX7_openLastClosed 19 = .ok (.invokevirtual 30, 3) := by decide +kernel
theorem dX7_openLastClosed_22 : decode cX7_openLastClosed 22 = .ok (.return_, 1) := by decide +kernel
theorem dX7_told_0 : decode cX7_told 0 = .ok (.iload_n 2, 1) := by decide +kernel
theorem dX7_told_1 : decode cX7_told 1 = .ok (.tableswitch 63 0 3 #[31, 37, 43, 57], 31) := by decide +kernel
theorem dX7_told_32 : decode cX7_told 32 = .ok (.aload_n 0, 1) := by decide +kernel
theorem dX7_told_33 : decode cX7_told 33 = .ok (.iload_n 1, 1) := by decide +kernel
theorem dX7_told_34 : decode cX7_told 34 = .ok (.invokevirtual 38, 3) := by decide +kernel
theorem dX7_told_37 : decode cX7_told 37 = .ok (.ireturn, 1) := by decide +kernel
theorem dX7_told_38 : decode cX7_told 38 = .ok (.aload_n 0, 1) := by decide +kernel
theorem dX7_told_39 : decode cX7_told 39 = .ok (.iload_n 1, 1) := by decide +kernel
theorem dX7_told_40 : decode cX7_told 40 = .ok (.invokevirtual 41, 3) := by decide +kernel
theorem dX7_told_43 : decode cX7_told 43 = .ok (.ireturn, 1) := by decide +kernel
theorem dX7_told_44 : decode cX7_told 44 = .ok (.iload_n 1, 1) := by decide +kernel
theorem dX7_told_45 : decode cX7_told 45 = .ok (.aload_n 0, 1) := by decide +kernel
theorem dX7_told_46 : decode cX7_told 46 = .ok (.getfield 27, 3) := by decide +kernel
theorem dX7_told_49 : decode cX7_told 49 = .ok (.if_icmp .ge 7, 3) := by decide +kernel
theorem dX7_told_52 : decode cX7_told 52 = .ok (.iconst 1, 1) := by decide +kernel
theorem dX7_told_53 : decode cX7_told 53 = .ok (.goto 4, 3) := by decide +kernel
theorem dX7_told_56 : decode cX7_told 56 = .ok (.iconst 0, 1) := by decide +kernel
theorem dX7_told_57 : decode cX7_told 57 = .ok (.ireturn, 1) := by decide +kernel
theorem dX7_told_58 : decode cX7_told 58 = .ok (.aload_n 0, 1) := by decide +kernel
theorem dX7_told_59 : decode cX7_told 59 = .ok (.iload_n 1, 1) := by decide +kernel
theorem dX7_told_60 : decode cX7_told 60 = .ok (.invokevirtual 44, 3) := by decide +kernel
theorem dX7_told_63 : decode cX7_told 63 = .ok (.ireturn, 1) := by decide +kernel
theorem dX7_told_64 : decode cX7_told 64 = .ok (.bipush (-3), 2) := by decide +kernel
theorem dX7_told_66 : decode cX7_told 66 = .ok (.ireturn, 1) := by decide +kernel
theorem dX8_init_0 : decode cX8_init 0 = .ok (.aload_n 0, 1) := by decide +kernel
theorem dX8_init_1 : decode cX8_init 1 = .ok (.invokespecial 3, 3) := by decide +kernel
theorem dX8_init_4 : decode cX8_init 4 = .ok (.aload_n 0, 1) := by decide +kernel
theorem dX8_init_5 : decode cX8_init 5 = .ok (.new 9, 3) := by decide +kernel
theorem dX8_init_8 : decode cX8_init 8 = .ok (.dup, 1) := by decide +kernel
theorem dX8_init_9 : decode cX8_init 9 = .ok (.bipush 60, 2) := by decide +kernel
theorem dX8_init_11 : decode cX8_init 11 = .ok (.invokespecial 11, 3) := by decide +kernel
theorem dX8_init_14 : decode cX8_init 14 = .ok (.putfield 14, 3) := by decide +kernel
theorem dX8_init_17 : decode cX8_init 17 = .ok (.aload_n 0, 1) := by decide +kernel
theorem dX8_init_18 : decode cX8_init 18 = .ok (.aload_n 1, 1) := by decide +kernel
theorem dX8_init_19 : decode cX8_init 19 = .ok (.putfield 20, 3) := by decide +kernel
theorem dX8_init_22 : decode cX8_init 22 = .ok (.aload_n 0, 1) := by decide +kernel
theorem dX8_init_23 : decode cX8_init 23 = .ok (.aload_n 2, 1) := by decide +kernel
theorem dX8_init_24 : decode cX8_init 24 = .ok (.putfield 24, 3) := by decide +kernel
theorem dX8_init_27 : decode cX8_init 27 = .ok (.return_, 1) := by decide +kernel
theorem dX8_redo_0 : decode cX8_redo 0 = .ok (.aload_n 0, 1) := by decide +kernel
theorem dX8_redo_1 : decode cX8_redo 1 = .ok (.iload_n 1, 1) := by decide +kernel
theorem dX8_redo_2 : decode cX8_redo 2 = .ok (.iconst 2, 1) := by decide +kernel
theorem dX8_redo_3 : decode cX8_redo 3 = .ok (.iadd, 1) := by decide +kernel
theorem dX8_redo_4 : decode cX8_redo 4 = .ok (.putfield 28, 3) := by decide +kernel
theorem dX8_redo_7 : decode cX8_redo 7 = .ok (.aload_n 0, 1) := by decide +kernel
theorem dX8_redo_8 : decode cX8_redo 8 = .ok (.iload_n 1, 1) := by decide +kernel
theorem dX8_redo_9 : decode cX8_redo 9 = .ok (.iload_n 2, 1) := by decide +kernel
theorem dX8_redo_10 : decode cX8_redo 10 = .ok (.iadd, 1) := by decide +kernel
theorem dX8_redo_11 : decode cX8_redo 11 = .ok (.iconst 2, 1) := by decide +kernel
theorem dX8_redo_12 : decode cX8_redo 12 = .ok (.isub, 1) := by decide +kernel
theorem dX8_redo_13 : decode cX8_redo 13 = .ok (.putfield 32, 3) := by decide +kernel
theorem dX8_redo_16 : decode cX8_redo 16 = .ok (.aload_n 0, 1) := by decide +kernel
theorem dX8_redo_17 : decode cX8_redo 17 = .ok (.iconst 0, 1) := by decide +kernel
theorem dX8_redo_18 : decode cX8_redo 18 = .ok (.putfield 35, 3) := by decide +kernel
theorem dX8_redo_21 : decode cX8_redo 21 = .ok (.aload_n 0, 1) := by decide +kernel
theorem dX8_redo_22 : decode cX8_redo 22 = .ok (.getfield 20, 3) := by decide +kernel
theorem dX8_redo_25 : decode cX8_redo 25 = .ok (.getfield 39, 3) := by decide +kernel
theorem dX8_redo_28 : decode cX8_redo 28 = .ok (.iload_n 1, 1) := by decide +kernel
theorem dX8_redo_29 : decode cX8_redo 29 = .ok (.iconst 1, 1) := by decide +kernel
theorem dX8_redo_30 : decode cX8_redo 30 = .ok (.iadd, 1) := by decide +kernel
theorem dX8_redo_31 : decode cX8_redo 31 = .ok (.invokevirtual 45, 3) := by decide +kernel
theorem dX8_redo_34 : decode cX8_redo 34 = .ok (.tableswitch 86 1 8 #[46, 51, 56, 61, 66, 71, 76, 81], 46) := by decide +kernel
theorem dX8_redo_80 : decode cX8_redo 80 = .ok (.aload_n 0, 1) := by decide +kernel
theorem dX8_redo_81 : decode cX8_redo 81 = .ok (.invokevirtual 50, 3) := by decide +kernel
theorem dX8_redo_84 : decode cX8_redo 84 = .ok (.ireturn, 1) := by decide +kernel
theorem dX8_redo_85 : decode cX8_redo 85 = .ok (.aload_n 0, 1) := by decide +kernel
theorem dX8_redo_86 : decode cX8_redo 86 = .ok (.invokevirtual 54, 3) := by decide +kernel
theorem dX8_redo_89 : decode cX8_redo 89 = .ok (.ireturn, 1) := by decide +kernel
theorem dX8_redo_90 : decode cX8_redo 90 = .ok (.aload_n 0, 1) := by decide +kernel
theorem dX8_redo_91 : decode cX8_redo 91 = .ok (.invokevirtual 57, 3) := by decide +kernel
theorem dX8_redo_94 : decode cX8_redo 94 = .ok (.ireturn, 1) := by decide +kernel
theorem dX8_redo_95 : decode cX8_redo 95 = .ok (.aload_n 0, 1) := by decide +kernel
theorem dX8_redo_96 : decode cX8_redo 96 = .ok (.invokevirtual 60, 3) := by decide +kernel
theorem dX8_redo_99 : decode cX8_redo 99 = .ok (.ireturn, 1) := by decide +kernel
theorem dX8_redo_100 : decode cX8_redo 100 = .ok (.aload_n 0, 1) := by decide +kernel
theorem dX8_redo_101 : decode cX8_redo 101 = .ok (.invokevirtual 63, 3) := by decide +kernel
theorem dX8_redo_104 : decode cX8_redo 104 = .ok (.ireturn, 1) := by decide +kernel
theorem dX8_redo_105 : decode cX8_redo 105 = .ok (.aload_n 0, 1) := by decide +kernel
theorem dX8_redo_106 : decode cX8_redo 106 = .ok (.invokevirtual 66, 3) := by decide +kernel
theorem dX8_redo_109 : decode cX8_redo 109 = .ok (.ireturn, 1) := by decide +kernel
theorem dX8_redo_110 : decode cX8_redo 110 = .ok (.aload_n 0, 1) := by decide +kernel
theorem dX8_redo_111 : decode cX8_redo 111 = .ok (.invokevirtual 69, 3) := by decide +kernel
theorem dX8_redo_114 : decode cX8_redo 114 = .ok (.ireturn, 1) := by decide +kernel
theorem dX8_redo_115 : decode cX8_redo 115 = .ok (.aload_n 0, 1) := by decide +kernel
theorem dX8_redo_116 : decode cX8_redo 116 = .ok (.invokevirtual 72, 3) := by decide +kernel
theorem dX8_redo_119 : decode cX8_redo 119 = .ok (.ireturn, 1) := by decide +kernel
theorem dX8_redo_120 : decode cX8_redo 120 = .ok (.iconst 0, 1) := by decide +kernel
theorem dX8_redo_121 : decode cX8_redo 121 = .ok (.ireturn, 1) := by decide +kernel
theorem dX8_redoAccount_0 : decode cX8_redoAccount 0 = .ok (.aload_n 0, 1) := by decide +kernel
theorem dX8_redoAccount_1 : decode cX8_redoAccount 1 = .ok (.invokevirtual 75, 3) := by decide +kernel
theorem dX8_redoAccount_4 : decode cX8_redoAccount 4 = .ok (.istore_n 1, 1) := by decide +kernel
theorem dX8_redoAccount_5 : decode cX8_redoAccount 5 = .ok (.aload_n 0, 1) := by decide +kernel
theorem dX8_redoAccount_6 : decode cX8_redoAccount 6 = .ok (.invokevirtual 75, 3) := by decide +kernel
theorem dX8_redoAccount_9 : decode cX8_redoAccount 9 = .ok (.istore_n 2, 1) := by decide +kernel
theorem dX8_redoAccount_10 : decode cX8_redoAccount 10 = .ok (.aload_n 0, 1) := by decide +kernel
theorem dX8_redoAccount_11 : decode cX8_redoAccount 11 = .ok (.invokevirtual 75, 3) := by decide +kernel
theorem dX8_redoAccount_14 : decode cX8_redoAccount 14 = .ok (.istore_n 3, 1) := by decide +kernel
theorem dX8_redoAccount_15 : decode cX8_redoAccount 15 = .ok (.aload_n 0, 1) := by decide +kernel
theorem dX8_redoAccount_16 : decode cX8_redoAccount 16 = .ok (.invokevirtual 79, 3) := by decide +kernel
theorem dX8_redoAccount_19 : decode cX8_redoAccount 19 = .ok (.istore 4, 2) := by decide +kernel
theorem dX8_redoAccount_21 : decode cX8_redoAccount 21 = .ok (.aload_n 0, 1) := by decide +kernel
theorem dX8_redoAccount_22 : decode cX8_redoAccount 22 = .ok (.invokevirtual 82, 3) := by decide +kernel
theorem dX8_redoAccount_25 : decode cX8_redoAccount 25 = .ok (.ifCond .eq 16, 3) := by decide +kernel
theorem dX8_redoAccount_28 : decode cX8_redoAccount 28 = .ok (.aload_n 0, 1) := by decide +kernel
theorem dX8_redoAccount_29 : decode cX8_redoAccount 29 = .ok (.getfield 24, 3) := by decide +kernel
theorem dX8_redoAccount_32 : decode cX8_redoAccount 32 = .ok (.iload_n 1, 1) := by decide +kernel
theorem dX8_redoAccount_33 : decode cX8_redoAccount 33 = .ok (.iload_n 2, 1) := by decide +kernel
theorem dX8_redoAccount_34 : decode cX8_redoAccount 34 = .ok (.iload_n 3, 1) := by decide +kernel
theorem dX8_redoAccount_35 : decode cX8_redoAccount 35 = .ok (.invokevirtual 85, 3) := by decide +kernel
theorem dX8_redoAccount_38 : decode cX8_redoAccount 38 = .ok (.ifCond .eq 5, 3) := by decide +kernel
theorem dX8_redoAccount_41 : decode cX8_redoAccount 41 = .ok (.iconst 0, 1) := by decide +kernel
theorem dX8_redoAccount_42 : decode cX8_redoAccount 42 = .ok (.ireturn, 1) := by decide +kernel
theorem dX8_redoAccount_43 : decode cX8_redoAccount 43 = .ok (.aload_n 0, 1) := by decide +kernel
theorem dX8_redoAccount_44 : decode cX8_redoAccount 44 = .ok (.getfield 24, 3) := by decide +kernel
theorem dX8_redoAccount_47 : decode cX8_redoAccount 47 = .ok (.getfield 91, 3) := by decide +kernel
theorem dX8_redoAccount_50 : decode cX8_redoAccount 50 = .ok (.iload_n 1, 1) := by decide +kernel
theorem dX8_redoAccount_51 : decode cX8_redoAccount 51 = .ok (.iload_n 2, 1) := by decide +kernel
theorem dX8_redoAccount_52 : decode cX8_redoAccount 52 = .ok (.iload_n 3, 1) := by decide +kernel
theorem dX8_redoAccount_53 : decode cX8_redoAccount 53 = .ok (.iload 4, 2) := by decide +kernel
theorem dX8_redoAccount_55 : decode cX8_redoAccount 55 = .ok (.invokevirtual 95, 3) := by decide +kernel
theorem dX8_redoAccount_58 : decode cX8_redoAccount 58 = .ok (.pop, 1) := by decide +kernel
theorem dX8_redoAccount_59 : decode cX8_redoAccount 59 = .ok (.iconst 1, 1) := by decide +kernel
theorem dX8_redoAccount_60 : decode cX8_redoAccount 60 = .ok (.ireturn, 1) := by decide +kernel
theorem dX8_redoShut_0 : decode cX8_redoShut 0 = .ok (.aload_n 0, 1) := by decide +kernel
theorem dX8_redoShut_1 : decode cX8_redoShut 1 = .ok (.invokevirtual 75, 3) := by decide +kernel
theorem dX8_redoShut_4 : decode cX8_redoShut 4 = .ok (.istore_n 1, 1) := by decide +kernel
theorem dX8_redoShut_5 : decode cX8_redoShut 5 = .ok (.aload_n 0, 1) := by decide +kernel
