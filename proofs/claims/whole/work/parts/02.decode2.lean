theorem dX8_redoShut_6 : decode cX8_redoShut 6 = .ok (.invokevirtual 79, 3) := by decide +kernel
theorem dX8_redoShut_9 : decode cX8_redoShut 9 = .ok (.istore_n 2, 1) := by decide +kernel
theorem dX8_redoShut_10 : decode cX8_redoShut 10 = .ok (.aload_n 0, 1) := by decide +kernel
theorem dX8_redoShut_11 : decode cX8_redoShut 11 = .ok (.invokevirtual 82, 3) := by decide +kernel
theorem dX8_redoShut_14 : decode cX8_redoShut 14 = .ok (.ifCond .eq 15, 3) := by decide +kernel
theorem dX8_redoShut_17 : decode cX8_redoShut 17 = .ok (.aload_n 0, 1) := by decide +kernel
theorem dX8_redoShut_18 : decode cX8_redoShut 18 = .ok (.getfield 24, 3) := by decide +kernel
theorem dX8_redoShut_21 : decode cX8_redoShut 21 = .ok (.iload_n 1, 1) := by decide +kernel
theorem dX8_redoShut_22 : decode cX8_redoShut 22 = .ok (.iload_n 2, 1) := by decide +kernel
theorem dX8_redoShut_23 : decode cX8_redoShut 23 = .ok (.invokevirtual 101, 3) := by decide +kernel
theorem dX8_redoShut_26 : decode cX8_redoShut 26 = .ok (.ifCond .eq 5, 3) := by decide +kernel
theorem dX8_redoShut_29 : decode cX8_redoShut 29 = .ok (.iconst 0, 1) := by decide +kernel
theorem dX8_redoShut_30 : decode cX8_redoShut 30 = .ok (.ireturn, 1) := by decide +kernel
theorem dX8_redoShut_31 : decode cX8_redoShut 31 = .ok (.aload_n 0, 1) := by decide +kernel
theorem dX8_redoShut_32 : decode cX8_redoShut 32 = .ok (.getfield 24, 3) := by decide +kernel
theorem dX8_redoShut_35 : decode cX8_redoShut 35 = .ok (.getfield 91, 3) := by decide +kernel
theorem dX8_redoShut_38 : decode cX8_redoShut 38 = .ok (.iload_n 1, 1) := by decide +kernel
theorem dX8_redoShut_39 : decode cX8_redoShut 39 = .ok (.iload_n 2, 1) := by decide +kernel
theorem dX8_redoShut_40 : decode cX8_redoShut 40 = .ok (.invokevirtual 105, 3) := by decide +kernel
theorem dX8_redoShut_43 : decode cX8_redoShut 43 = .ok (.iconst 1, 1) := by decide +kernel
theorem dX8_redoShut_44 : decode cX8_redoShut 44 = .ok (.ireturn, 1) := by decide +kernel
theorem dX8_redoPeriod_0 : decode cX8_redoPeriod 0 = .ok (.aload_n 0, 1) := by decide +kernel
theorem dX8_redoPeriod_1 : decode cX8_redoPeriod 1 = .ok (.invokevirtual 75, 3) := by decide +kernel
theorem dX8_redoPeriod_4 : decode cX8_redoPeriod 4 = .ok (.istore_n 1, 1) := by decide +kernel
theorem dX8_redoPeriod_5 : decode cX8_redoPeriod 5 = .ok (.aload_n 0, 1) := by decide +kernel
theorem dX8_redoPeriod_6 : decode cX8_redoPeriod 6 = .ok (.invokevirtual 82, 3) := by decide +kernel
theorem dX8_redoPeriod_9 : decode cX8_redoPeriod 9 = .ok (.ifCond .eq 14, 3) := by decide +kernel
theorem dX8_redoPeriod_12 : decode cX8_redoPeriod 12 = .ok (.aload_n 0, 1) := by decide +kernel
theorem dX8_redoPeriod_13 : decode cX8_redoPeriod 13 = .ok (.getfield 24, 3) := by decide +kernel
theorem dX8_redoPeriod_16 : decode cX8_redoPeriod 16 = .ok (.iload_n 1, 1) := by decide +kernel
theorem dX8_redoPeriod_17 : decode cX8_redoPeriod 17 = .ok (.invokevirtual 109, 3) := by decide +kernel
theorem dX8_redoPeriod_20 : decode cX8_redoPeriod 20 = .ok (.ifCond .eq 5, 3) := by decide +kernel
theorem dX8_redoPeriod_23 : decode cX8_redoPeriod 23 = .ok (.iconst 0, 1) := by decide +kernel
theorem dX8_redoPeriod_24 : decode cX8_redoPeriod 24 = .ok (.ireturn, 1) := by decide +kernel
theorem dX8_redoPeriod_25 : decode cX8_redoPeriod 25 = .ok (.aload_n 0, 1) := by decide +kernel
theorem dX8_redoPeriod_26 : decode cX8_redoPeriod 26 = .ok (.getfield 24, 3) := by decide +kernel
theorem dX8_redoPeriod_29 : decode cX8_redoPeriod 29 = .ok (.getfield 112, 3) := by decide +kernel
theorem dX8_redoPeriod_32 : decode cX8_redoPeriod 32 = .ok (.iload_n 1, 1) := by decide +kernel
theorem dX8_redoPeriod_33 : decode cX8_redoPeriod 33 = .ok (.invokevirtual 116, 3) := by decide +kernel
theorem dX8_redoPeriod_36 : decode cX8_redoPeriod 36 = .ok (.pop, 1) := by decide +kernel
theorem dX8_redoPeriod_37 : decode cX8_redoPeriod 37 = .ok (.iconst 1, 1) := by decide +kernel
theorem dX8_redoPeriod_38 : decode cX8_redoPeriod 38 = .ok (.ireturn, 1) := by decide +kernel
theorem dX8_redoOwner_0 : decode cX8_redoOwner 0 = .ok (.aload_n 0, 1) := by decide +kernel
theorem dX8_redoOwner_1 : decode cX8_redoOwner 1 = .ok (.invokevirtual 75, 3) := by decide +kernel
theorem dX8_redoOwner_4 : decode cX8_redoOwner 4 = .ok (.istore_n 1, 1) := by decide +kernel
theorem dX8_redoOwner_5 : decode cX8_redoOwner 5 = .ok (.aload_n 0, 1) := by decide +kernel
theorem dX8_redoOwner_6 : decode cX8_redoOwner 6 = .ok (.invokevirtual 82, 3) := by decide +kernel
theorem dX8_redoOwner_9 : decode cX8_redoOwner 9 = .ok (.ifCond .eq 14, 3) := by decide +kernel
theorem dX8_redoOwner_12 : decode cX8_redoOwner 12 = .ok (.aload_n 0, 1) := by decide +kernel
theorem dX8_redoOwner_13 : decode cX8_redoOwner 13 = .ok (.getfield 24, 3) := by decide +kernel
theorem dX8_redoOwner_16 : decode cX8_redoOwner 16 = .ok (.iload_n 1, 1) := by decide +kernel
theorem dX8_redoOwner_17 : decode cX8_redoOwner 17 = .ok (.invokevirtual 120, 3) := by decide +kernel
theorem dX8_redoOwner_20 : decode cX8_redoOwner 20 = .ok (.ifCond .eq 5, 3) := by decide +kernel
theorem dX8_redoOwner_23 : decode cX8_redoOwner 23 = .ok (.iconst 0, 1) := by decide +kernel
theorem dX8_redoOwner_24 : decode cX8_redoOwner 24 = .ok (.ireturn, 1) := by decide +kernel
theorem dX8_redoOwner_25 : decode cX8_redoOwner 25 = .ok (.aload_n 0, 1) := by decide +kernel
theorem dX8_redoOwner_26 : decode cX8_redoOwner 26 = .ok (.getfield 24, 3) := by decide +kernel
theorem dX8_redoOwner_29 : decode cX8_redoOwner 29 = .ok (.iload_n 1, 1) := by decide +kernel
theorem dX8_redoOwner_30 : decode cX8_redoOwner 30 = .ok (.invokevirtual 123, 3) := by decide +kernel
theorem dX8_redoOwner_33 : decode cX8_redoOwner 33 = .ok (.pop, 1) := by decide +kernel
theorem dX8_redoOwner_34 : decode cX8_redoOwner 34 = .ok (.iconst 1, 1) := by decide +kernel
theorem dX8_redoOwner_35 : decode cX8_redoOwner 35 = .ok (.ireturn, 1) := by decide +kernel
theorem dX8_redoPost_0 : decode cX8_redoPost 0 = .ok (.aload_n 0, 1) := by decide +kernel
theorem dX8_redoPost_1 : decode cX8_redoPost 1 = .ok (.invokevirtual 75, 3) := by decide +kernel
theorem dX8_redoPost_4 : decode cX8_redoPost 4 = .ok (.istore_n 1, 1) := by decide +kernel
theorem dX8_redoPost_5 : decode cX8_redoPost 5 = .ok (.aload_n 0, 1) := by decide +kernel
theorem dX8_redoPost_6 : decode cX8_redoPost 6 = .ok (.invokevirtual 75, 3) := by decide +kernel
theorem dX8_redoPost_9 : decode cX8_redoPost 9 = .ok (.istore_n 2, 1) := by decide +kernel
theorem dX8_redoPost_10 : decode cX8_redoPost 10 = .ok (.aload_n 0, 1) := by decide +kernel
theorem dX8_redoPost_11 : decode cX8_redoPost 11 = .ok (.invokevirtual 126, 3) := by decide +kernel
theorem dX8_redoPost_14 : decode cX8_redoPost 14 = .ok (.ifCond .eq 25, 3) := by decide +kernel
theorem dX8_redoPost_17 : decode cX8_redoPost 17 = .ok (.aload_n 0, 1) := by decide +kernel
theorem dX8_redoPost_18 : decode cX8_redoPost 18 = .ok (.invokevirtual 82, 3) := by decide +kernel
theorem dX8_redoPost_21 : decode cX8_redoPost 21 = .ok (.ifCond .eq 18, 3) := by decide +kernel
theorem dX8_redoPost_24 : decode cX8_redoPost 24 = .ok (.aload_n 0, 1) := by decide +kernel
theorem dX8_redoPost_25 : decode cX8_redoPost 25 = .ok (.getfield 24, 3) := by decide +kernel
theorem dX8_redoPost_28 : decode cX8_redoPost 28 = .ok (.aload_n 0, 1) := by decide +kernel
theorem dX8_redoPost_29 : decode cX8_redoPost 29 = .ok (.getfield 14, 3) := by decide +kernel
theorem dX8_redoPost_32 : decode cX8_redoPost 32 = .ok (.iload_n 1, 1) := by decide +kernel
theorem dX8_redoPost_33 : decode cX8_redoPost 33 = .ok (.invokevirtual 129, 3) := by decide +kernel
theorem dX8_redoPost_36 : decode cX8_redoPost 36 = .ok (.ifCond .eq 5, 3) := by decide +kernel
theorem dX8_redoPost_39 : decode cX8_redoPost 39 = .ok (.iconst 0, 1) := by decide +kernel
theorem dX8_redoPost_40 : decode cX8_redoPost 40 = .ok (.ireturn, 1) := by decide +kernel
theorem dX8_redoPost_41 : decode cX8_redoPost 41 = .ok (.aload_n 0, 1) := by decide +kernel
theorem dX8_redoPost_42 : decode cX8_redoPost 42 = .ok (.getfield 24, 3) := by decide +kernel
theorem dX8_redoPost_45 : decode cX8_redoPost 45 = .ok (.aload_n 0, 1) := by decide +kernel
theorem dX8_redoPost_46 : decode cX8_redoPost 46 = .ok (.getfield 14, 3) := by decide +kernel
theorem dX8_redoPost_49 : decode cX8_redoPost 49 = .ok (.iload_n 1, 1) := by decide +kernel
theorem dX8_redoPost_50 : decode cX8_redoPost 50 = .ok (.iload_n 2, 1) := by decide +kernel
theorem dX8_redoPost_51 : decode cX8_redoPost 51 = .ok (.iconst 0, 1) := by decide +kernel
theorem dX8_redoPost_52 : decode cX8_redoPost 52 = .ok (.iconst (-1), 1) := by decide +kernel
theorem dX8_redoPost_53 : decode cX8_redoPost 53 = .ok (.invokevirtual 133, 3) := by decide +kernel
theorem dX8_redoPost_56 : decode cX8_redoPost 56 = .ok (.pop, 1) := by decide +kernel
theorem dX8_redoPost_57 : decode cX8_redoPost 57 = .ok (.iconst 1, 1) := by decide +kernel
theorem dX8_redoPost_58 : decode cX8_redoPost 58 = .ok (.ireturn, 1) := by decide +kernel
theorem dX8_readLines_0 : decode cX8_readLines 0 = .ok (.aload_n 0, 1) := by decide +kernel
theorem dX8_readLines_1 : decode cX8_readLines 1 = .ok (.invokevirtual 75, 3) := by decide +kernel
theorem dX8_readLines_4 : decode cX8_readLines 4 = .ok (.istore_n 1, 1) := by decide +kernel
theorem dX8_readLines_5 : decode cX8_readLines 5 = .ok (.aload_n 0, 1) := by decide +kernel
theorem dX8_readLines_6 : decode cX8_readLines 6 = .ok (.getfield 14, 3) := by decide +kernel
theorem dX8_readLines_9 : decode cX8_readLines 9 = .ok (.invokevirtual 137, 3) := by decide +kernel
theorem dX8_readLines_12 : decode cX8_readLines 12 = .ok (.iload_n 1, 1) := by decide +kernel
theorem dX8_readLines_13 : decode cX8_readLines 13 = .ok (.ifCond .lt 9, 3) := by decide +kernel
theorem dX8_readLines_16 : decode cX8_readLines 16 = .ok (.iload_n 1, 1) := by decide +kernel
theorem dX8_readLines_17 : decode cX8_readLines 17 = .ok (.bipush 8, 2) := by decide +kernel
theorem dX8_readLines_19 : decode cX8_readLines 19 = .ok (.if_icmp .le 5, 3) := by decide +kernel
theorem dX8_readLines_22 : decode cX8_readLines 22 = .ok (.iconst 0, 1) := by decide +kernel
theorem dX8_readLines_23 : decode cX8_readLines 23 = .ok (.ireturn, 1) := by decide +kernel
theorem dX8_readLines_24 : decode cX8_readLines 24 = .ok (.iconst 0, 1) := by decide +kernel
theorem dX8_readLines_25 : decode cX8_readLines 25 = .ok (.istore_n 2, 1) := by decide +kernel
theorem dX8_readLines_26 : decode cX8_readLines 26 = .ok (.iload_n 2, 1) := by decide +kernel
theorem dX8_readLines_27 : decode cX8_readLines 27 = .ok (.iload_n 1, 1) := by decide +kernel
theorem dX8_readLines_28 : decode cX8_readLines 28 = .ok (.if_icmp .ge 52, 3) := by decide +kernel
theorem dX8_readLines_31 : decode cX8_readLines 31 = .ok (.aload_n 0, 1) := by decide +kernel
theorem dX8_readLines_32 : decode cX8_readLines 32 = .ok (.invokevirtual 75, 3) := by decide +kernel
theorem dX8_readLines_35 : decode cX8_readLines 35 = .ok (.istore_n 3, 1) := by decide +kernel
theorem dX8_readLines_36 : decode cX8_readLines 36 = .ok (.aload_n 0, 1) := by decide +kernel
theorem dX8_readLines_37 : decode cX8_readLines 37 = .ok (.invokevirtual 140, 3) := by decide +kernel
theorem dX8_readLines_40 : decode cX8_readLines 40 = .ok (.lstore 4, 2) := by decide +kernel
theorem dX8_readLines_42 : decode cX8_readLines 42 = .ok (.aload_n 0, 1) := by decide +kernel
theorem dX8_readLines_43 : decode cX8_readLines 43 = .ok (.getfield 35, 3) := by decide +kernel
theorem dX8_readLines_46 : decode cX8_readLines 46 = .ok (.ifCond .ne 16, 3) := by decide +kernel
theorem dX8_readLines_49 : decode cX8_readLines 49 = .ok (.aload_n 0, 1) := by decide +kernel
theorem dX8_readLines_50 : decode cX8_readLines 50 = .ok (.getfield 24, 3) := by decide +kernel
theorem dX8_readLines_53 : decode cX8_readLines 53 = .ok (.iload_n 3, 1) := by decide +kernel
theorem dX8_readLines_54 : decode cX8_readLines 54 = .ok (.lload 4, 2) := by decide +kernel
theorem dX8_readLines_56 : decode cX8_readLines 56 = .ok (.invokevirtual 144, 3) := by decide +kernel
theorem dX8_readLines_59 : decode cX8_readLines 59 = .ok (.ifCond .eq 5, 3) := by decide +kernel
theorem dX8_readLines_62 : decode cX8_readLines 62 = .ok (.iconst 0, 1) := by decide +kernel
theorem dX8_readLines_63 : decode cX8_readLines 63 = .ok (.ireturn, 1) := by decide +kernel
theorem dX8_readLines_64 : decode cX8_readLines 64 = .ok (.aload_n 0, 1) := by decide +kernel
theorem dX8_readLines_65 : decode cX8_readLines 65 = .ok (.getfield 14, 3) := by decide +kernel
theorem dX8_readLines_68 : decode cX8_readLines 68 = .ok (.iload_n 3, 1) := by decide +kernel
theorem dX8_readLines_69 : decode cX8_readLines 69 = .ok (.lload 4, 2) := by decide +kernel
theorem dX8_readLines_71 : decode cX8_readLines 71 = .ok (.invokevirtual 148, 3) := by decide +kernel
theorem dX8_readLines_74 : decode cX8_readLines 74 = .ok (.iinc 2 1, 3) := by decide +kernel
theorem dX8_readLines_77 : decode cX8_readLines 77 = .ok (.goto (-51), 3) := by decide +kernel
theorem dX8_readLines_80 : decode cX8_readLines 80 = .ok (.iconst 1, 1) := by decide +kernel
theorem dX8_readLines_81 : decode cX8_readLines 81 = .ok (.ireturn, 1) := by decide +kernel
theorem dX8_redoBack_0 : decode cX8_redoBack 0 = .ok (.aload_n 0, 1) := by decide +kernel
theorem dX8_redoBack_1 : decode cX8_redoBack 1 = .ok (.invokevirtual 75, 3) := by decide +kernel
theorem dX8_redoBack_4 : decode cX8_redoBack 4 = .ok (.istore_n 1, 1) := by decide +kernel
theorem dX8_redoBack_5 : decode cX8_redoBack 5 = .ok (.aload_n 0, 1) := by decide +kernel
theorem dX8_redoBack_6 : decode cX8_redoBack 6 = .ok (.invokevirtual 75, 3) := by decide +kernel
theorem dX8_redoBack_9 : decode cX8_redoBack 9 = .ok (.istore_n 2, 1) := by decide +kernel
theorem dX8_redoBack_10 : decode cX8_redoBack 10 = .ok (.aload_n 0, 1) := by decide +kernel
theorem dX8_redoBack_11 : decode cX8_redoBack 11 = .ok (.invokevirtual 82, 3) := by decide +kernel
theorem dX8_redoBack_14 : decode cX8_redoBack 14 = .ok (.ifCond .eq 19, 3) := by decide +kernel
theorem dX8_redoBack_17 : decode cX8_redoBack 17 = .ok (.aload_n 0, 1) := by decide +kernel
theorem dX8_redoBack_18 : decode cX8_redoBack 18 = .ok (.getfield 24, 3) := by decide +kernel
theorem dX8_redoBack_21 : decode cX8_redoBack 21 = .ok (.iload_n 1, 1) := by decide +kernel
theorem dX8_redoBack_22 : decode cX8_redoBack 22 = .ok (.iload_n 2, 1) := by decide +kernel
theorem dX8_redoBack_23 : decode cX8_redoBack 23 = .ok (.aload_n 0, 1) := by decide +kernel
theorem dX8_redoBack_24 : decode cX8_redoBack 24 = .ok (.getfield 14, 3) := by decide +kernel
theorem dX8_redoBack_27 : decode cX8_redoBack 27 = .ok (.invokevirtual 151, 3) := by decide +kernel
theorem dX8_redoBack_30 : decode cX8_redoBack 30 = .ok (.ifCond .eq 5, 3) := by decide +kernel
theorem dX8_redoBack_33 : decode cX8_redoBack 33 = .ok (.iconst 0, 1) := by decide +kernel
theorem dX8_redoBack_34 : decode cX8_redoBack 34 = .ok (.ireturn, 1) := by decide +kernel
theorem dX8_redoBack_35 : decode cX8_redoBack 35 = .ok (.aload_n 0, 1) := by decide +kernel
theorem dX8_redoBack_36 : decode cX8_redoBack 36 = .ok (.getfield 24, 3) := by decide +kernel
theorem dX8_redoBack_39 : decode cX8_redoBack 39 = .ok (.iload_n 1, 1) := by decide +kernel
theorem dX8_redoBack_40 : decode cX8_redoBack 40 = .ok (.iload_n 2, 1) := by decide +kernel
theorem dX8_redoBack_41 : decode cX8_redoBack 41 = .ok (.aload_n 0, 1) := by decide +kernel
theorem dX8_redoBack_42 : decode cX8_redoBack 42 = .ok (.getfield 14, 3) := by decide +kernel
theorem dX8_redoBack_45 : decode cX8_redoBack 45 = .ok (.invokevirtual 155, 3) := by decide +kernel
theorem dX8_redoBack_48 : decode cX8_redoBack 48 = .ok (.pop, 1) := by decide +kernel
theorem dX8_redoBack_49 : decode cX8_redoBack 49 = .ok (.iconst 1, 1) := by decide +kernel
theorem dX8_redoBack_50 : decode cX8_redoBack 50 = .ok (.ireturn, 1) := by decide +kernel
theorem dX8_redoClose_0 : decode cX8_redoClose 0 = .ok (.aload_n 0, 1) := by decide +kernel
theorem dX8_redoClose_1 : decode cX8_redoClose 1 = .ok (.invokevirtual 82, 3) := by decide +kernel
theorem dX8_redoClose_4 : decode cX8_redoClose 4 = .ok (.ifCond .eq 17, 3) := by decide +kernel
theorem dX8_redoClose_7 : decode cX8_redoClose 7 = .ok (.aload_n 0, 1) := by decide +kernel
theorem dX8_redoClose_8 : decode cX8_redoClose 8 = .ok (.getfield 24, 3) := by decide +kernel
theorem dX8_redoClose_11 : decode cX8_redoClose 11 = .ok (.aload_n 0, 1) := by decide +kernel
theorem dX8_redoClose_12 : decode cX8_redoClose 12 = .ok (.getfield 14, 3) := by decide +kernel
theorem dX8_redoClose_15 : decode cX8_redoClose 15 = .ok (.invokevirtual 158, 3) := by decide +kernel
theorem dX8_redoClose_18 : decode cX8_redoClose 18 = .ok (.ifCond .eq 5, 3) := by decide +kernel
theorem dX8_redoClose_21 : decode cX8_redoClose 21 = .ok (.iconst 0, 1) := by decide +kernel
theorem dX8_redoClose_22 : decode cX8_redoClose 22 = .ok (.ireturn, 1) := by decide +kernel
theorem dX8_redoClose_23 : decode cX8_redoClose 23 = .ok (.aload_n 0, 1) := by decide +kernel
theorem dX8_redoClose_24 : decode cX8_redoClose 24 = .ok (.getfield 24, 3) := by decide +kernel
theorem dX8_redoClose_27 : decode cX8_redoClose 27 = .ok (.aload_n 0, 1) := by decide +kernel
theorem dX8_redoClose_28 : decode cX8_redoClose 28 = .ok (.getfield 14, 3) := by decide +kernel
theorem dX8_redoClose_31 : decode cX8_redoClose 31 = .ok (.invokevirtual 162, 3) := by decide +kernel
theorem dX8_redoClose_34 : decode cX8_redoClose 34 = .ok (.pop, 1) := by decide +kernel
theorem dX8_redoClose_35 : decode cX8_redoClose 35 = .ok (.iconst 1, 1) := by decide +kernel
theorem dX8_redoClose_36 : decode cX8_redoClose 36 = .ok (.ireturn, 1) := by decide +kernel
theorem dX8_redoReopen_0 : decode cX8_redoReopen 0 = .ok (.aload_n 0, 1) := by decide +kernel
theorem dX8_redoReopen_1 : decode cX8_redoReopen 1 = .ok (.invokevirtual 82, 3) := by decide +kernel
theorem dX8_redoReopen_4 : decode cX8_redoReopen 4 = .ok (.ifCond .eq 17, 3) := by decide +kernel
theorem dX8_redoReopen_7 : decode cX8_redoReopen 7 = .ok (.aload_n 0, 1) := by decide +kernel
theorem dX8_redoReopen_8 : decode cX8_redoReopen 8 = .ok (.getfield 24, 3) := by decide +kernel
theorem dX8_redoReopen_11 : decode cX8_redoReopen 11 = .ok (.aload_n 0, 1) := by decide +kernel
theorem dX8_redoReopen_12 : decode cX8_redoReopen 12 = .ok (.getfield 14, 3) := by decide +kernel
theorem dX8_redoReopen_15 : decode cX8_redoReopen 15 = .ok (.invokevirtual 165, 3) := by decide +kernel
theorem dX8_redoReopen_18 : decode cX8_redoReopen 18 = .ok (.ifCond .eq 5, 3) := by decide +kernel
theorem dX8_redoReopen_21 : decode cX8_redoReopen 21 = .ok (.iconst 0, 1) := by decide +kernel
theorem dX8_redoReopen_22 : decode cX8_redoReopen 22 = .ok (.ireturn, 1) := by decide +kernel
theorem dX8_redoReopen_23 : decode cX8_redoReopen 23 = .ok (.aload_n 0, 1) := by decide +kernel
theorem dX8_redoReopen_24 : decode cX8_redoReopen 24 = .ok (.getfield 24, 3) := by decide +kernel
theorem dX8_redoReopen_27 : decode cX8_redoReopen 27 = .ok (.aload_n 0, 1) := by decide +kernel
theorem dX8_redoReopen_28 : decode cX8_redoReopen 28 = .ok (.getfield 14, 3) := by decide +kernel
theorem dX8_redoReopen_31 : decode cX8_redoReopen 31 = .ok (.invokevirtual 168, 3) := by decide +kernel
theorem dX8_redoReopen_34 : decode cX8_redoReopen 34 = .ok (.pop, 1) := by decide +kernel
theorem dX8_redoReopen_35 : decode cX8_redoReopen 35 = .ok (.iconst 1, 1) := by decide +kernel
theorem dX8_redoReopen_36 : decode cX8_redoReopen 36 = .ok (.ireturn, 1) := by decide +kernel
theorem dX8_isReadWhole_0 : decode cX8_isReadWhole 0 = .ok (.aload_n 0, 1) := by decide +kernel
theorem dX8_isReadWhole_1 : decode cX8_isReadWhole 1 = .ok (.getfield 35, 3) := by decide +kernel
theorem dX8_isReadWhole_4 : decode cX8_isReadWhole 4 = .ok (.ifCond .ne 18, 3) := by decide +kernel
theorem dX8_isReadWhole_7 : decode cX8_isReadWhole 7 = .ok (.aload_n 0, 1) := by decide +kernel
theorem dX8_isReadWhole_8 : decode cX8_isReadWhole 8 = .ok (.getfield 28, 3) := by decide +kernel
theorem dX8_isReadWhole_11 : decode cX8_isReadWhole 11 = .ok (.aload_n 0, 1) := by decide +kernel
theorem dX8_isReadWhole_12 : decode cX8_isReadWhole 12 = .ok (.getfield 32, 3) := by decide +kernel
theorem dX8_isReadWhole_15 : decode cX8_isReadWhole 15 = .ok (.if_icmp .ne 7, 3) := by decide +kernel
theorem dX8_isReadWhole_18 : decode cX8_isReadWhole 18 = .ok (.iconst 1, 1) := by decide +kernel
theorem dX8_isReadWhole_19 : decode cX8_isReadWhole 19 = .ok (.goto 4, 3) := by decide +kernel
theorem dX8_isReadWhole_22 : decode cX8_isReadWhole 22 = .ok (.iconst 0, 1) := by decide +kernel
theorem dX8_isReadWhole_23 : decode cX8_isReadWhole 23 = .ok (.ireturn, 1) := by decide +kernel
theorem dX8_nextFlag_0 : decode cX8_nextFlag 0 = .ok (.aload_n 0, 1) := by decide +kernel
theorem dX8_nextFlag_1 : decode cX8_nextFlag 1 = .ok (.invokevirtual 140, 3) := by decide +kernel
theorem dX8_nextFlag_4 : decode cX8_nextFlag 4 = .ok (.lstore_n 1, 1) := by decide +kernel
theorem dX8_nextFlag_5 : decode cX8_nextFlag 5 = .ok (.lload_n 1, 1) := by decide +kernel
theorem dX8_nextFlag_6 : decode cX8_nextFlag 6 = .ok (.lconst 0, 1) := by decide +kernel
theorem dX8_nextFlag_7 : decode cX8_nextFlag 7 = .ok (.lcmp, 1) := by decide +kernel
theorem dX8_nextFlag_8 : decode cX8_nextFlag 8 = .ok (.ifCond .eq 14, 3) := by decide +kernel
theorem dX8_nextFlag_11 : decode cX8_nextFlag 11 = .ok (.lload_n 1, 1) := by decide +kernel
theorem dX8_nextFlag_12 : decode cX8_nextFlag 12 = .ok (.lconst 1, 1) := by decide +kernel
theorem dX8_nextFlag_13 : decode cX8_nextFlag 13 = .ok (.lcmp, 1) := by decide +kernel
theorem dX8_nextFlag_14 : decode cX8_nextFlag 14 = .ok (.ifCond .eq 8, 3) := by decide +kernel
theorem dX8_nextFlag_17 : decode cX8_nextFlag 17 = .ok (.aload_n 0, 1) := by decide +kernel
theorem dX8_nextFlag_18 : decode cX8_nextFlag 18 = .ok (.iconst 1, 1) := by decide +kernel
theorem dX8_nextFlag_19 : decode cX8_nextFlag 19 = .ok (.putfield 35, 3) := by decide +kernel
theorem dX8_nextFlag_22 : decode cX8_nextFlag 22 = .ok (.lload_n 1, 1) := by decide +kernel
theorem dX8_nextFlag_23 : decode cX8_nextFlag 23 = .ok (.lconst 1, 1) := by decide +kernel
theorem dX8_nextFlag_24 : decode cX8_nextFlag 24 = .ok (.lcmp, 1) := by decide +kernel
theorem dX8_nextFlag_25 : decode cX8_nextFlag 25 = .ok (.ifCond .ne 7, 3) := by decide +kernel
theorem dX8_nextFlag_28 : decode cX8_nextFlag 28 = .ok (.iconst 1, 1) := by decide +kernel
theorem dX8_nextFlag_29 : decode cX8_nextFlag 29 = .ok (.goto 4, 3) := by decide +kernel
theorem dX8_nextFlag_32 : decode cX8_nextFlag 32 = .ok (.iconst 0, 1) := by decide +kernel
theorem dX8_nextFlag_33 : decode cX8_nextFlag 33 = .ok (.ireturn, 1) := by decide +kernel
theorem dX8_nextInt_0 : decode cX8_nextInt 0 = .ok (.aload_n 0, 1) := by decide +kernel
theorem dX8_nextInt_1 : decode cX8_nextInt 1 = .ok (.invokevirtual 140, 3) := by decide +kernel
theorem dX8_nextInt_4 : decode cX8_nextInt 4 = .ok (.lstore_n 1, 1) := by decide +kernel
theorem dX8_nextInt_5 : decode cX8_nextInt 5 = .ok (.lload_n 1, 1) := by decide +kernel
theorem dX8_nextInt_6 : decode cX8_nextInt 6 = .ok (.lload_n 1, 1) := by decide +kernel
theorem dX8_nextInt_7 : decode cX8_nextInt 7 = .ok (.l2i, 1) := by decide +kernel
theorem dX8_nextInt_8 : decode cX8_nextInt 8 = .ok (.i2l, 1) := by decide +kernel
theorem dX8_nextInt_9 : decode cX8_nextInt 9 = .ok (.lcmp, 1) := by decide +kernel
theorem dX8_nextInt_10 : decode cX8_nextInt 10 = .ok (.ifCond .eq 8, 3) := by decide +kernel
theorem dX8_nextInt_13 : decode cX8_nextInt 13 = .ok (.aload_n 0, 1) := by decide +kernel
theorem dX8_nextInt_14 : decode cX8_nextInt 14 = .ok (.iconst 1, 1) := by decide +kernel
theorem dX8_nextInt_15 : decode cX8_nextInt 15 = .ok (.putfield 35, 3) := by decide +kernel
theorem dX8_nextInt_18 : decode cX8_nextInt 18 = .ok (.lload_n 1, 1) := by decide +kernel
theorem dX8_nextInt_19 : decode cX8_nextInt 19 = .ok (.l2i, 1) := by decide +kernel
theorem dX8_nextInt_20 : decode cX8_nextInt 20 = .ok (.ireturn, 1) := by decide +kernel
theorem dX8_nextNumber_0 : decode cX8_nextNumber 0 = .ok (.lconst 0, 1) := by decide +kernel
theorem dX8_nextNumber_1 : decode cX8_nextNumber 1 = .ok (.lstore_n 1, 1) := by decide +kernel
theorem dX8_nextNumber_2 : decode cX8_nextNumber 2 = .ok (.iconst 0, 1) := by decide +kernel
theorem dX8_nextNumber_3 : decode cX8_nextNumber 3 = .ok (.istore_n 3, 1) := by decide +kernel
theorem dX8_nextNumber_4 : decode cX8_nextNumber 4 = .ok (.iload_n 3, 1) := by decide +kernel
theorem dX8_nextNumber_5 : decode cX8_nextNumber 5 = .ok (.bipush 10, 2) := by decide +kernel
theorem dX8_nextNumber_7 : decode cX8_nextNumber 7 = .ok (.if_icmp .ge 92, 3) := by decide +kernel
theorem dX8_nextNumber_10 : decode cX8_nextNumber 10 = .ok (.aload_n 0, 1) := by decide +kernel
theorem dX8_nextNumber_11 : decode cX8_nextNumber 11 = .ok (.getfield 28, 3) := by decide +kernel
theorem dX8_nextNumber_14 : decode cX8_nextNumber 14 = .ok (.aload_n 0, 1) := by decide +kernel
theorem dX8_nextNumber_15 : decode cX8_nextNumber 15 = .ok (.getfield 32, 3) := by decide +kernel
theorem dX8_nextNumber_18 : decode cX8_nextNumber 18 = .ok (.if_icmp .ge 81, 3) := by decide +kernel
theorem dX8_nextNumber_21 : decode cX8_nextNumber 21 = .ok (.aload_n 0, 1) := by decide +kernel
theorem dX8_nextNumber_22 : decode cX8_nextNumber 22 = .ok (.getfield 20, 3) := by decide +kernel
theorem dX8_nextNumber_25 : decode cX8_nextNumber 25 = .ok (.getfield 39, 3) := by decide +kernel
theorem dX8_nextNumber_28 : decode cX8_nextNumber 28 = .ok (.aload_n 0, 1) := by decide +kernel
theorem dX8_nextNumber_29 : decode cX8_nextNumber 29 = .ok (.getfield 28, 3) := by decide +kernel
theorem dX8_nextNumber_32 : decode cX8_nextNumber 32 = .ok (.invokevirtual 45, 3) := by decide +kernel
theorem dX8_nextNumber_35 : decode cX8_nextNumber 35 = .ok (.istore 4, 2) := by decide +kernel
theorem dX8_nextNumber_37 : decode cX8_nextNumber 37 = .ok (.aload_n 0, 1) := by decide +kernel
theorem dX8_nextNumber_38 : decode cX8_nextNumber 38 = .ok (.dup, 1) := by decide +kernel
theorem dX8_nextNumber_39 : decode cX8_nextNumber 39 = .ok (.getfield 28, 3) := by decide +kernel
theorem dX8_nextNumber_42 : decode cX8_nextNumber 42 = .ok (.iconst 1, 1) := by decide +kernel
theorem dX8_nextNumber_43 : decode cX8_nextNumber 43 = .ok (.iadd, 1) := by decide +kernel
theorem dX8_nextNumber_44 : decode cX8_nextNumber 44 = .ok (.putfield 28, 3) := by decide +kernel
theorem dX8_nextNumber_47 : decode cX8_nextNumber 47 = .ok (.iload_n 3, 1) := by decide +kernel
theorem dX8_nextNumber_48 : decode cX8_nextNumber 48 = .ok (.bipush 9, 2) := by decide +kernel
theorem dX8_nextNumber_50 : decode cX8_nextNumber 50 = .ok (.if_icmp .ne 12, 3) := by decide +kernel
theorem dX8_nextNumber_53 : decode cX8_nextNumber 53 = .ok (.iload 4, 2) := by decide +kernel
theorem dX8_nextNumber_55 : decode cX8_nextNumber 55 = .ok (.iconst 1, 1) := by decide +kernel
theorem dX8_nextNumber_56 : decode cX8_nextNumber 56 = .ok (.if_icmp .le 6, 3) := by decide +kernel
theorem dX8_nextNumber_59 : decode cX8_nextNumber 59 = .ok (.goto 40, 3) := by decide +kernel
theorem dX8_nextNumber_62 : decode cX8_nextNumber 62 = .ok (.lload_n 1, 1) := by decide +kernel
theorem dX8_nextNumber_63 : decode cX8_nextNumber 63 = .ok (.iload 4, 2) := by decide +kernel
theorem dX8_nextNumber_65 : decode cX8_nextNumber 65 = .ok (.bipush 127, 2) := by decide +kernel
theorem dX8_nextNumber_67 : decode cX8_nextNumber 67 = .ok (.iand, 1) := by decide +kernel
theorem dX8_nextNumber_68 : decode cX8_nextNumber 68 = .ok (.i2l, 1) := by decide +kernel
theorem dX8_nextNumber_69 : decode cX8_nextNumber 69 = .ok (.bipush 7, 2) := by decide +kernel
theorem dX8_nextNumber_71 : decode cX8_nextNumber 71 = .ok (.iload_n 3, 1) := by decide +kernel
theorem dX8_nextNumber_72 : decode cX8_nextNumber 72 = .ok (.imul, 1) := by decide +kernel
theorem dX8_nextNumber_73 : decode cX8_nextNumber 73 = .ok (.lshl, 1) := by decide +kernel
theorem dX8_nextNumber_74 : decode cX8_nextNumber 74 = .ok (.lor, 1) := by decide +kernel
theorem dX8_nextNumber_75 : decode cX8_nextNumber 75 = .ok (.lstore_n 1, 1) := by decide +kernel
theorem dX8_nextNumber_76 : decode cX8_nextNumber 76 = .ok (.iload 4, 2) := by decide +kernel
theorem dX8_nextNumber_78 : decode cX8_nextNumber 78 = .ok (.sipush 128, 3) := by decide +kernel
theorem dX8_nextNumber_81 : decode cX8_nextNumber 81 = .ok (.if_icmp .ge 12, 3) := by decide +kernel
theorem dX8_nextNumber_84 : decode cX8_nextNumber 84 = .ok (.lload_n 1, 1) := by decide +kernel
theorem dX8_nextNumber_85 : decode cX8_nextNumber 85 = .ok (.iconst 1, 1) := by decide +kernel
theorem dX8_nextNumber_86 : decode cX8_nextNumber 86 = .ok (.lushr, 1) := by decide +kernel
theorem dX8_nextNumber_87 : decode cX8_nextNumber 87 = .ok (.lload_n 1, 1) := by decide +kernel
theorem dX8_nextNumber_88 : decode cX8_nextNumber 88 = .ok (.lconst 1, 1) := by decide +kernel
theorem dX8_nextNumber_89 : decode cX8_nextNumber 89 = .ok (.land, 1) := by decide +kernel
theorem dX8_nextNumber_90 : decode cX8_nextNumber 90 = .ok (.lneg, 1) := by decide +kernel
theorem dX8_nextNumber_91 : decode cX8_nextNumber 91 = .ok (.lxor, 1) := by decide +kernel
theorem dX8_nextNumber_92 : decode cX8_nextNumber 92 = .ok (.lreturn, 1) := by decide +kernel
theorem dX8_nextNumber_93 : decode cX8_nextNumber 93 = .ok (.iinc 3 1, 3) := by decide +kernel
theorem dX8_nextNumber_96 : decode cX8_nextNumber 96 = .ok (.goto (-92), 3) := by decide +kernel
theorem dX8_nextNumber_99 : decode cX8_nextNumber 99 = .ok (.aload_n 0, 1) := by decide +kernel
theorem dX8_nextNumber_100 : decode cX8_nextNumber 100 = .ok (.iconst 1, 1) := by decide +kernel
theorem dX8_nextNumber_101 : decode cX8_nextNumber 101 = .ok (.putfield 35, 3) := by decide +kernel
theorem dX8_nextNumber_104 : decode cX8_nextNumber 104 = .ok (.lconst 0, 1) := by decide +kernel
theorem dX8_nextNumber_105 : decode cX8_nextNumber 105 = .ok (.lreturn, 1) := by decide +kernel
theorem dX9_init_0 : decode cX9_init 0 = .ok (.aload_n 0, 1) := by decide +kernel
theorem dX9_init_1 : decode cX9_init 1 = .ok (.invokespecial 3, 3) := by decide +kernel
theorem dX9_init_4 : decode cX9_init 4 = .ok (.aload_n 0, 1) := by decide +kernel
theorem dX9_init_5 : decode cX9_init 5 = .ok (.new 9, 3) := by decide +kernel
theorem dX9_init_8 : decode cX9_init 8 = .ok (.dup, 1) := by decide +kernel
theorem dX9_init_9 : decode cX9_init 9 = .ok (.bipush 7, 2) := by decide +kernel
theorem dX9_init_11 : decode cX9_init 11 = .ok (.invokespecial 11, 3) := by decide +kernel
theorem dX9_init_14 : decode cX9_init 14 = .ok (.putfield 14, 3) := by decide +kernel
theorem dX9_init_17 : decode cX9_init 17 = .ok (.aload_n 0, 1) := by decide +kernel
theorem dX9_init_18 : decode cX9_init 18 = .ok (.new 20, 3) := by decide +kernel
theorem dX9_init_21 : decode cX9_init 21 = .ok (.dup, 1) := by decide +kernel
theorem dX9_init_22 : decode cX9_init 22 = .ok (.bipush 7, 2) := by decide +kernel
theorem dX9_init_24 : decode cX9_init 24 = .ok (.invokespecial 22, 3) := by decide +kernel
theorem dX9_init_27 : decode cX9_init 27 = .ok (.putfield 23, 3) := by decide +kernel
theorem dX9_init_30 : decode cX9_init 30 = .ok (.aload_n 0, 1) := by decide +kernel
theorem dX9_init_31 : decode cX9_init 31 = .ok (.new 9, 3) := by decide +kernel
theorem dX9_init_34 : decode cX9_init 34 = .ok (.dup, 1) := by decide +kernel
theorem dX9_init_35 : decode cX9_init 35 = .ok (.bipush 7, 2) := by decide +kernel
theorem dX9_init_37 : decode cX9_init 37 = .ok (.invokespecial 11, 3) := by decide +kernel
theorem dX9_init_40 : decode cX9_init 40 = .ok (.putfield 27, 3) := by decide +kernel
theorem dX9_init_43 : decode cX9_init 43 = .ok (.return_, 1) := by decide +kernel
theorem dX9_clear_0 : decode cX9_clear 0 = .ok (.aload_n 0, 1) := by decide +kernel
theorem dX9_clear_1 : decode cX9_clear 1 = .ok (.iconst 0, 1) := by decide +kernel
theorem dX9_clear_2 : decode cX9_clear 2 = .ok (.putfield 30, 3) := by decide +kernel
theorem dX9_clear_5 : decode cX9_clear 5 = .ok (.return_, 1) := by decide +kernel
theorem dX9_add_0 : decode cX9_add 0 = .ok (.aload_n 0, 1) := by decide +kernel
theorem dX9_add_1 : decode cX9_add 1 = .ok (.getfield 23, 3) := by decide +kernel
theorem dX9_add_4 : decode cX9_add 4 = .ok (.aload_n 0, 1) := by decide +kernel
theorem dX9_add_5 : decode cX9_add 5 = .ok (.getfield 30, 3) := by decide +kernel
theorem dX9_add_8 : decode cX9_add 8 = .ok (.iload_n 1, 1) := by decide +kernel
theorem dX9_add_9 : decode cX9_add 9 = .ok (.invokevirtual 34, 3) := by decide +kernel
theorem dX9_add_12 : decode cX9_add 12 = .ok (.aload_n 0, 1) := by decide +kernel
theorem dX9_add_13 : decode cX9_add 13 = .ok (.dup, 1) := by decide +kernel
theorem dX9_add_14 : decode cX9_add 14 = .ok (.getfield 30, 3) := by decide +kernel
theorem dX9_add_17 : decode cX9_add 17 = .ok (.iconst 1, 1) := by decide +kernel
theorem dX9_add_18 : decode cX9_add 18 = .ok (.iadd, 1) := by decide +kernel
theorem dX9_add_19 : decode cX9_add 19 = .ok (.putfield 30, 3) := by decide +kernel
theorem dX9_add_22 : decode cX9_add 22 = .ok (.return_, 1) := by decide +kernel
theorem dX9_divide_0 : decode cX9_divide 0 = .ok (.lconst 0, 1) := by decide +kernel
theorem dX9_divide_1 : decode cX9_divide 1 = .ok (.lstore_n 3, 1) := by decide +kernel
theorem dX9_divide_2 : decode cX9_divide 2 = .ok (.iconst 0, 1) := by decide +kernel
theorem dX9_divide_3 : decode cX9_divide 3 = .ok (.istore 5, 2) := by decide +kernel
theorem dX9_divide_5 : decode cX9_divide 5 = .ok (.iload 5, 2) := by decide +kernel
theorem dX9_divide_7 : decode cX9_divide 7 = .ok (.aload_n 0, 1) := by decide +kernel
theorem dX9_divide_8 : decode cX9_divide 8 = .ok (.getfield 30, 3) := by decide +kernel
theorem dX9_divide_11 : decode cX9_divide 11 = .ok (.if_icmp .ge 22, 3) := by decide +kernel
theorem dX9_divide_14 : decode cX9_divide 14 = .ok (.lload_n 3, 1) := by decide +kernel
theorem dX9_divide_15 : decode cX9_divide 15 = .ok (.aload_n 0, 1) := by decide +kernel
theorem dX9_divide_16 : decode cX9_divide 16 = .ok (.getfield 23, 3) := by decide +kernel
theorem dX9_divide_19 : decode cX9_divide 19 = .ok (.iload 5, 2) := by decide +kernel
theorem dX9_divide_21 : decode cX9_divide 21 = .ok (.invokevirtual 38, 3) := by decide +kernel
theorem dX9_divide_24 : decode cX9_divide 24 = .ok (.i2l, 1) := by decide +kernel
theorem dX9_divide_25 : decode cX9_divide 25 = .ok (.ladd, 1) := by decide +kernel
theorem dX9_divide_26 : decode cX9_divide 26 = .ok (.lstore_n 3, 1) := by decide +kernel
theorem dX9_divide_27 : decode cX9_divide 27 = .ok (.iinc 5 1, 3) := by decide +kernel
theorem dX9_divide_30 : decode cX9_divide 30 = .ok (.goto (-25), 3) := by decide +kernel
theorem dX9_divide_33 : decode cX9_divide 33 = .ok (.lload_n 3, 1) := by decide +kernel
theorem dX9_divide_34 : decode cX9_divide 34 = .ok (.lconst 0, 1) := by decide +kernel
theorem dX9_divide_35 : decode cX9_divide 35 = .ok (.lcmp, 1) := by decide +kernel
theorem dX9_divide_36 : decode cX9_divide 36 = .ok (.ifCond .gt 5, 3) := by decide +kernel
theorem dX9_divide_39 : decode cX9_divide 39 = .ok (.iconst 0, 1) := by decide +kernel
theorem dX9_divide_40 : decode cX9_divide 40 = .ok (.ireturn, 1) := by decide +kernel
theorem dX9_divide_41 : decode cX9_divide 41 = .ok (.lload_n 1, 1) := by decide +kernel
theorem dX9_divide_42 : decode cX9_divide 42 = .ok (.lstore 5, 2) := by decide +kernel
theorem dX9_divide_44 : decode cX9_divide 44 = .ok (.iconst 0, 1) := by decide +kernel
theorem dX9_divide_45 : decode cX9_divide 45 = .ok (.istore 7, 2) := by decide +kernel
theorem dX9_divide_47 : decode cX9_divide 47 = .ok (.iload 7, 2) := by decide +kernel
theorem dX9_divide_49 : decode cX9_divide 49 = .ok (.aload_n 0, 1) := by decide +kernel
theorem dX9_divide_50 : decode cX9_divide 50 = .ok (.getfield 30, 3) := by decide +kernel
theorem dX9_divide_53 : decode cX9_divide 53 = .ok (.if_icmp .ge 66, 3) := by decide +kernel
theorem dX9_divide_56 : decode cX9_divide 56 = .ok (.lload_n 1, 1) := by decide +kernel
theorem dX9_divide_57 : decode cX9_divide 57 = .ok (.aload_n 0, 1) := by decide +kernel
theorem dX9_divide_58 : decode cX9_divide 58 = .ok (.getfield 23, 3) := by decide +kernel
theorem dX9_divide_61 : decode cX9_divide 61 = .ok (.iload 7, 2) := by decide +kernel
theorem dX9_divide_63 : decode cX9_divide 63 = .ok (.invokevirtual 38, 3) := by decide +kernel
theorem dX9_divide_66 : decode cX9_divide 66 = .ok (.i2l, 1) := by decide +kernel
theorem dX9_divide_67 : decode cX9_divide 67 = .ok (.lmul, 1) := by decide +kernel
theorem dX9_divide_68 : decode cX9_divide 68 = .ok (.lstore 8, 2) := by decide +kernel
theorem dX9_divide_70 : decode cX9_divide 70 = .ok (.aload_n 0, 1) := by decide +kernel
theorem dX9_divide_71 : decode cX9_divide 71 = .ok (.getfield 14, 3) := by decide +kernel
theorem dX9_divide_74 : decode cX9_divide 74 = .ok (.iload 7, 2) := by decide +kernel
theorem dX9_divide_76 : decode cX9_divide 76 = .ok (.lload 8, 2) := by decide +kernel
theorem dX9_divide_78 : decode cX9_divide 78 = .ok (.lload_n 3, 1) := by decide +kernel
theorem dX9_divide_79 : decode cX9_divide 79 = .ok (.ldiv, 1) := by decide +kernel
theorem dX9_divide_80 : decode cX9_divide 80 = .ok (.invokevirtual 42, 3) := by decide +kernel
theorem dX9_divide_83 : decode cX9_divide 83 = .ok (.aload_n 0, 1) := by decide +kernel
theorem dX9_divide_84 : decode cX9_divide 84 = .ok (.getfield 27, 3) := by decide +kernel
theorem dX9_divide_87 : decode cX9_divide 87 = .ok (.iload 7, 2) := by decide +kernel
theorem dX9_divide_89 : decode cX9_divide 89 = .ok (.lload 8, 2) := by decide +kernel
theorem dX9_divide_91 : decode cX9_divide 91 = .ok (.lload_n 3, 1) := by decide +kernel
theorem dX9_divide_92 : decode cX9_divide 92 = .ok (.lrem, 1) := by decide +kernel
theorem dX9_divide_93 : decode cX9_divide 93 = .ok (.invokestatic 45, 3) := by decide +kernel
theorem dX9_divide_96 : decode cX9_divide 96 = .ok (.invokevirtual 42, 3) := by decide +kernel
theorem dX9_divide_99 : decode cX9_divide 99 = .ok (.lload 5, 2) := by decide +kernel
theorem dX9_divide_101 : decode cX9_divide 101 = .ok (.aload_n 0, 1) := by decide +kernel
theorem dX9_divide_102 : decode cX9_divide 102 = .ok (.getfield 14, 3) := by decide +kernel
theorem dX9_divide_105 : decode cX9_divide 105 = .ok (.iload 7, 2) := by decide +kernel
theorem dX9_divide_107 : decode cX9_divide 107 = .ok (.invokevirtual 51, 3) := by decide +kernel
theorem dX9_divide_110 : decode cX9_divide 110 = .ok (.lsub, 1) := by decide +kernel
theorem dX9_divide_111 : decode cX9_divide 111 = .ok (.lstore 5, 2) := by decide +kernel
theorem dX9_divide_113 : decode cX9_divide 113 = .ok (.iinc 7 1, 3) := by decide +kernel
theorem dX9_divide_116 : decode cX9_divide 116 = .ok (.goto (-69), 3) := by decide +kernel
theorem dX9_divide_119 : decode cX9_divide 119 = .ok (.aload_n 0, 1) := by decide +kernel
theorem dX9_divide_120 : decode cX9_divide 120 = .ok (.lload 5, 2) := by decide +kernel
theorem dX9_divide_122 : decode cX9_divide 122 = .ok (.invokevirtual 54, 3) := by decide +kernel
theorem dX9_divide_125 : decode cX9_divide 125 = .ok (.iconst 1, 1) := by decide +kernel
theorem dX9_divide_126 : decode cX9_divide 126 = .ok (.ireturn, 1) := by decide +kernel
theorem dX9_giveRest_0 : decode cX9_giveRest 0 = .ok (.lload_n 1, 1) := by decide +kernel
theorem dX9_giveRest_1 : decode cX9_giveRest 1 = .ok (.lconst 0, 1) := by decide +kernel
theorem dX9_giveRest_2 : decode cX9_giveRest 2 = .ok (.lcmp, 1) := by decide +kernel
theorem dX9_giveRest_3 : decode cX9_giveRest 3 = .ok (.ifCond .ge 9, 3) := by decide +kernel
theorem dX9_giveRest_6 : decode cX9_giveRest 6 = .ok (.ldc2_w 58, 3) := by decide +kernel
theorem dX9_giveRest_9 : decode cX9_giveRest 9 = .ok (.goto 4, 3) := by decide +kernel
theorem dX9_giveRest_12 : decode cX9_giveRest 12 = .ok (.lconst 1, 1) := by decide +kernel
theorem dX9_giveRest_13 : decode cX9_giveRest 13 = .ok (.lstore_n 3, 1) := by decide +kernel
theorem dX9_giveRest_14 : decode cX9_giveRest 14 = .ok (.lload_n 1, 1) := by decide +kernel
theorem dX9_giveRest_15 : decode cX9_giveRest 15 = .ok (.invokestatic 45, 3) := by decide +kernel
theorem dX9_giveRest_18 : decode cX9_giveRest 18 = .ok (.lstore 5, 2) := by decide +kernel
theorem dX9_giveRest_20 : decode cX9_giveRest 20 = .ok (.iconst 0, 1) := by decide +kernel
theorem dX9_giveRest_21 : decode cX9_giveRest 21 = .ok (.istore 7, 2) := by decide +kernel
theorem dX9_giveRest_23 : decode cX9_giveRest 23 = .ok (.iload 7, 2) := by decide +kernel
theorem dX9_giveRest_25 : decode cX9_giveRest 25 = .ok (.aload_n 0, 1) := by decide +kernel
theorem dX9_giveRest_26 : decode cX9_giveRest 26 = .ok (.getfield 30, 3) := by decide +kernel
theorem dX9_giveRest_29 : decode cX9_giveRest 29 = .ok (.if_icmp .ge 56, 3) := by decide +kernel
theorem dX9_giveRest_32 : decode cX9_giveRest 32 = .ok (.iload 7, 2) := by decide +kernel
theorem dX9_giveRest_34 : decode cX9_giveRest 34 = .ok (.i2l, 1) := by decide +kernel
theorem dX9_giveRest_35 : decode cX9_giveRest 35 = .ok (.lload 5, 2) := by decide +kernel
theorem dX9_giveRest_37 : decode cX9_giveRest 37 = .ok (.lcmp, 1) := by decide +kernel
theorem dX9_giveRest_38 : decode cX9_giveRest 38 = .ok (.ifCond .ge 47, 3) := by decide +kernel
theorem dX9_giveRest_41 : decode cX9_giveRest 41 = .ok (.aload_n 0, 1) := by decide +kernel
theorem dX9_giveRest_42 : decode cX9_giveRest 42 = .ok (.invokevirtual 60, 3) := by decide +kernel
theorem dX9_giveRest_45 : decode cX9_giveRest 45 = .ok (.istore 8, 2) := by decide +kernel
theorem dX9_giveRest_47 : decode cX9_giveRest 47 = .ok (.aload_n 0, 1) := by decide +kernel
theorem dX9_giveRest_48 : decode cX9_giveRest 48 = .ok (.getfield 14, 3) := by decide +kernel
theorem dX9_giveRest_51 : decode cX9_giveRest 51 = .ok (.iload 8, 2) := by decide +kernel
theorem dX9_giveRest_53 : decode cX9_giveRest 53 = .ok (.aload_n 0, 1) := by decide +kernel
theorem dX9_giveRest_54 : decode cX9_giveRest 54 = .ok (.getfield 14, 3) := by decide +kernel
theorem dX9_giveRest_57 : decode cX9_giveRest 57 = .ok (.iload 8, 2) := by decide +kernel
theorem dX9_giveRest_59 : decode cX9_giveRest 59 = .ok (.invokevirtual 51, 3) := by decide +kernel
theorem dX9_giveRest_62 : decode cX9_giveRest 62 = .ok (.lload_n 3, 1) := by decide +kernel
theorem dX9_giveRest_63 : decode cX9_giveRest 63 = .ok (.ladd, 1) := by decide +kernel
theorem dX9_giveRest_64 : decode cX9_giveRest 64 = .ok (.invokevirtual 42, 3) := by decide +kernel
theorem dX9_giveRest_67 : decode cX9_giveRest 67 = .ok (.aload_n 0, 1) := by decide +kernel
theorem dX9_giveRest_68 : decode cX9_giveRest 68 = .ok (.getfield 27, 3) := by decide +kernel
theorem dX9_giveRest_71 : decode cX9_giveRest 71 = .ok (.iload 8, 2) := by decide +kernel
theorem dX9_giveRest_73 : decode cX9_giveRest 73 = .ok (.ldc2_w 58, 3) := by decide +kernel
theorem dX9_giveRest_76 : decode cX9_giveRest 76 = .ok (.invokevirtual 42, 3) := by decide +kernel
theorem dX9_giveRest_79 : decode cX9_giveRest 79 = .ok (.iinc 7 1, 3) := by decide +kernel
theorem dX9_giveRest_82 : decode cX9_giveRest 82 = .ok (.goto (-59), 3) := by decide +kernel
theorem dX9_giveRest_85 : decode cX9_giveRest 85 = .ok (.return_, 1) := by decide +kernel
theorem dX9_withGreatestRemainder_0 : decode cX9_withGreatestRemainder 0 = .ok (.iconst 0, 1) := by decide +kernel
theorem dX9_withGreatestRemainder_1 : decode cX9_withGreatestRemainder 1 = .ok (.istore_n 1, 1) := by decide +kernel
theorem dX9_withGreatestRemainder_2 : decode cX9_withGreatestRemainder 2 = .ok (.iconst 1, 1) := by decide +kernel
theorem dX9_withGreatestRemainder_3 : decode cX9_withGreatestRemainder 3 = .ok (.istore_n 2, 1) := by decide +kernel
theorem dX9_withGreatestRemainder_4 : decode cX9_withGreatestRemainder 4 = .ok (.iload_n 2, 1) := by decide +kernel
theorem dX9_withGreatestRemainder_5 : decode cX9_withGreatestRemainder 5 = .ok (.aload_n 0, 1) := by decide +kernel
theorem dX9_withGreatestRemainder_6 : decode cX9_withGreatestRemainder 6 = .ok (.getfield 30, 3) := by decide +kernel
theorem dX9_withGreatestRemainder_9 : decode cX9_withGreatestRemainder 9 = .ok (.if_icmp .ge 31, 3) := by decide +kernel
theorem dX9_withGreatestRemainder_12 : decode cX9_withGreatestRemainder 12 = .ok (.aload_n 0, 1) := by decide +kernel
theorem dX9_withGreatestRemainder_13 : decode cX9_withGreatestRemainder 13 = .ok (.getfield 27, 3) := by decide +kernel
theorem dX9_withGreatestRemainder_16 : decode cX9_withGreatestRemainder 16 = .ok (.iload_n 2, 1) := by decide +kernel
theorem dX9_withGreatestRemainder_17 : decode cX9_withGreatestRemainder 17 = .ok (.invokevirtual 51, 3) := by decide +kernel
theorem dX9_withGreatestRemainder_20 : decode cX9_withGreatestRemainder 20 = .ok (.aload_n 0, 1) := by decide +kernel
theorem dX9_withGreatestRemainder_21 : decode cX9_withGreatestRemainder 21 = .ok (.getfield 27, 3) := by decide +kernel
theorem dX9_withGreatestRemainder_24 : decode cX9_withGreatestRemainder 24 = .ok (.iload_n 1, 1) := by decide +kernel
theorem dX9_withGreatestRemainder_25 : decode cX9_withGreatestRemainder 25 = .ok (.invokevirtual 51, 3) := by decide +kernel
theorem dX9_withGreatestRemainder_28 : decode cX9_withGreatestRemainder 28 = .ok (.lcmp, 1) := by decide +kernel
theorem dX9_withGreatestRemainder_29 : decode cX9_withGreatestRemainder 29 = .ok (.ifCond .le 5, 3) := by decide +kernel
theorem dX9_withGreatestRemainder_32 : decode cX9_withGreatestRemainder 32 = .ok (.iload_n 2, 1) := by decide +kernel
theorem dX9_withGreatestRemainder_33 : decode cX9_withGreatestRemainder 33 = .ok (.istore_n 1, 1) := by decide +kernel
theorem dX9_withGreatestRemainder_34 : decode cX9_withGreatestRemainder 34 = .ok (.iinc 2 1, 3) := by decide +kernel
theorem dX9_withGreatestRemainder_37 : decode cX9_withGreatestRemainder 37 = .ok (.goto (-33), 3) := by decide +kernel
theorem dX9_withGreatestRemainder_40 : decode cX9_withGreatestRemainder 40 = .ok (.iload_n 1, 1) := by decide +kernel
theorem dX9_withGreatestRemainder_41 : decode cX9_withGreatestRemainder 41 = .ok (.ireturn, 1) := by decide +kernel
theorem dX10_init_0 : decode cX10_init 0 = .ok (.aload_n 0, 1) := by decide +kernel
theorem dX10_init_1 : decode cX10_init 1 = .ok (.invokespecial 3, 3) := by decide +kernel
theorem dX10_init_4 : decode cX10_init 4 = .ok (.aload_n 0, 1) := by decide +kernel
theorem dX10_init_5 : decode cX10_init 5 = .ok (.new 9, 3) := by decide +kernel
theorem dX10_init_8 : decode cX10_init 8 = .ok (.dup, 1) := by decide +kernel
theorem dX10_init_9 : decode cX10_init 9 = .ok (.sipush 4000, 3) := by decide +kernel
theorem dX10_init_12 : decode cX10_init 12 = .ok (.invokespecial 11, 3) := by decide +kernel
theorem dX10_init_15 : decode cX10_init 15 = .ok (.putfield 14, 3) := by decide +kernel
theorem dX10_init_18 : decode cX10_init 18 = .ok (.aload_n 0, 1) := by decide +kernel
theorem dX10_init_19 : decode cX10_init 19 = .ok (.new 9, 3) := by decide +kernel
theorem dX10_init_22 : decode cX10_init 22 = .ok (.dup, 1) := by decide +kernel
theorem dX10_init_23 : decode cX10_init 23 = .ok (.bipush 20, 2) := by decide +kernel
theorem dX10_init_25 : decode cX10_init 25 = .ok (.invokespecial 11, 3) := by decide +kernel
theorem dX10_init_28 : decode cX10_init 28 = .ok (.putfield 20, 3) := by decide +kernel
theorem dX10_init_31 : decode cX10_init 31 = .ok (.aload_n 0, 1) := by decide +kernel
theorem dX10_init_32 : decode cX10_init 32 = .ok (.aload_n 1, 1) := by decide +kernel
theorem dX10_init_33 : decode cX10_init 33 = .ok (.putfield 23, 3) := by decide +kernel
theorem dX10_init_36 : decode cX10_init 36 = .ok (.return_, 1) := by decide +kernel
theorem dX10_clear_0 : decode cX10_clear 0 = .ok (.aload_n 0, 1) := by decide +kernel
theorem dX10_clear_1 : decode cX10_clear 1 = .ok (.iconst 0, 1) := by decide +kernel
theorem dX10_clear_2 : decode cX10_clear 2 = .ok (.putfield 27, 3) := by decide +kernel
theorem dX10_clear_5 : decode cX10_clear 5 = .ok (.return_, 1) := by decide +kernel
theorem dX10_write_0 : decode cX10_write 0 = .ok (.aload_n 0, 1) := by decide +kernel
theorem dX10_write_1 : decode cX10_write 1 = .ok (.invokevirtual 31, 3) := by decide +kernel
theorem dX10_write_4 : decode cX10_write 4 = .ok (.iload_n 1, 1) := by decide +kernel
theorem dX10_write_5 : decode cX10_write 5 = .ok (.ifCond .ne 10, 3) := by decide +kernel
theorem dX10_write_8 : decode cX10_write 8 = .ok (.aload_n 0, 1) := by decide +kernel
theorem dX10_write_9 : decode cX10_write 9 = .ok (.invokevirtual 34, 3) := by decide +kernel
theorem dX10_write_12 : decode cX10_write 12 = .ok (.goto 35, 3) := by decide +kernel
theorem dX10_write_15 : decode cX10_write 15 = .ok (.iload_n 1, 1) := by decide +kernel
theorem dX10_write_16 : decode cX10_write 16 = .ok (.iconst 1, 1) := by decide +kernel
theorem dX10_write_17 : decode cX10_write 17 = .ok (.if_icmp .ne 26, 3) := by decide +kernel
theorem dX10_write_20 : decode cX10_write 20 = .ok (.iconst 0, 1) := by decide +kernel
theorem dX10_write_21 : decode cX10_write 21 = .ok (.istore_n 2, 1) := by decide +kernel
theorem dX10_write_22 : decode cX10_write 22 = .ok (.iload_n 2, 1) := by decide +kernel
theorem dX10_write_23 : decode cX10_write 23 = .ok (.iconst 5, 1) := by decide +kernel
theorem dX10_write_24 : decode cX10_write 24 = .ok (.if_icmp .ge 16, 3) := by decide +kernel
theorem dX10_write_27 : decode cX10_write 27 = .ok (.aload_n 0, 1) := by decide +kernel
theorem dX10_write_28 : decode cX10_write 28 = .ok (.iconst (-1), 1) := by decide +kernel
theorem dX10_write_29 : decode cX10_write 29 = .ok (.iload_n 2, 1) := by decide +kernel
theorem dX10_write_30 : decode cX10_write 30 = .ok (.iconst 0, 1) := by decide +kernel
theorem dX10_write_31 : decode cX10_write 31 = .ok (.invokestatic 37, 3) := by decide +kernel
theorem dX10_write_34 : decode cX10_write 34 = .ok (.iinc 2 1, 3) := by decide +kernel
theorem dX10_write_37 : decode cX10_write 37 = .ok (.goto (-15), 3) := by decide +kernel
theorem dX10_write_40 : decode cX10_write 40 = .ok (.goto 7, 3) := by decide +kernel
theorem dX10_write_43 : decode cX10_write 43 = .ok (.aload_n 0, 1) := by decide +kernel
theorem dX10_write_44 : decode cX10_write 44 = .ok (.invokevirtual 41, 3) := by decide +kernel
theorem dX10_write_47 : decode cX10_write 47 = .ok (.aload_n 0, 1) := by decide +kernel
theorem dX10_write_48 : decode cX10_write 48 = .ok (.getfield 27, 3) := by decide +kernel
theorem dX10_write_51 : decode cX10_write 51 = .ok (.sipush 4000, 3) := by decide +kernel
theorem dX10_write_54 : decode cX10_write 54 = .ok (.if_icmp .le 9, 3) := by decide +kernel
theorem dX10_write_57 : decode cX10_write 57 = .ok (.aload_n 0, 1) := by decide +kernel
theorem dX10_write_58 : decode cX10_write 58 = .ok (.invokevirtual 31, 3) := by decide +kernel
theorem dX10_write_61 : decode cX10_write 61 = .ok (.iconst 0, 1) := by decide +kernel
theorem dX10_write_62 : decode cX10_write 62 = .ok (.ireturn, 1) := by decide +kernel
theorem dX10_write_63 : decode cX10_write 63 = .ok (.iconst 1, 1) := by decide +kernel
theorem dX10_write_64 : decode cX10_write 64 = .ok (.ireturn, 1) := by decide +kernel
theorem dX10_writeLeaves_0 : decode cX10_writeLeaves 0 = .ok (.iconst 0, 1) := by decide +kernel
theorem dX10_writeLeaves_1 : decode cX10_writeLeaves 1 = .ok (.istore_n 1, 1) := by decide +kernel
theorem dX10_writeLeaves_2 : decode cX10_writeLeaves 2 = .ok (.iload_n 1, 1) := by decide +kernel
theorem dX10_writeLeaves_3 : decode cX10_writeLeaves 3 = .ok (.aload_n 0, 1) := by decide +kernel
theorem dX10_writeLeaves_4 : decode cX10_writeLeaves 4 = .ok (.getfield 23, 3) := by decide +kernel
theorem dX10_writeLeaves_7 : decode cX10_writeLeaves 7 = .ok (.getfield 44, 3) := by decide +kernel
theorem dX10_writeLeaves_10 : decode cX10_writeLeaves 10 = .ok (.if_icmp .ge 53, 3) := by decide +kernel
theorem dX10_writeLeaves_13 : decode cX10_writeLeaves 13 = .ok (.aload_n 0, 1) := by decide +kernel
theorem dX10_writeLeaves_14 : decode cX10_writeLeaves 14 = .ok (.getfield 23, 3) := by decide +kernel
theorem dX10_writeLeaves_17 : decode cX10_writeLeaves 17 = .ok (.getfield 47, 3) := by decide +kernel
theorem dX10_writeLeaves_20 : decode cX10_writeLeaves 20 = .ok (.iload_n 1, 1) := by decide +kernel
theorem dX10_writeLeaves_21 : decode cX10_writeLeaves 21 = .ok (.invokevirtual 50, 3) := by decide +kernel
theorem dX10_writeLeaves_24 : decode cX10_writeLeaves 24 = .ok (.istore_n 2, 1) := by decide +kernel
theorem dX10_writeLeaves_25 : decode cX10_writeLeaves 25 = .ok (.aload_n 0, 1) := by decide +kernel
theorem dX10_writeLeaves_26 : decode cX10_writeLeaves 26 = .ok (.getfield 23, 3) := by decide +kernel
theorem dX10_writeLeaves_29 : decode cX10_writeLeaves 29 = .ok (.iload_n 2, 1) := by decide +kernel
theorem dX10_writeLeaves_30 : decode cX10_writeLeaves 30 = .ok (.invokevirtual 54, 3) := by decide +kernel
theorem dX10_writeLeaves_33 : decode cX10_writeLeaves 33 = .ok (.ifCond .eq 24, 3) := by decide +kernel
theorem dX10_writeLeaves_36 : decode cX10_writeLeaves 36 = .ok (.aload_n 0, 1) := by decide +kernel
theorem dX10_writeLeaves_37 : decode cX10_writeLeaves 37 = .ok (.getfield 23, 3) := by decide +kernel
theorem dX10_writeLeaves_40 : decode cX10_writeLeaves 40 = .ok (.getfield 58, 3) := by decide +kernel
theorem dX10_writeLeaves_43 : decode cX10_writeLeaves 43 = .ok (.iload_n 2, 1) := by decide +kernel
theorem dX10_writeLeaves_44 : decode cX10_writeLeaves 44 = .ok (.invokevirtual 62, 3) := by decide +kernel
theorem dX10_writeLeaves_47 : decode cX10_writeLeaves 47 = .ok (.lconst 0, 1) := by decide +kernel
theorem dX10_writeLeaves_48 : decode cX10_writeLeaves 48 = .ok (.lcmp, 1) := by decide +kernel
theorem dX10_writeLeaves_49 : decode cX10_writeLeaves 49 = .ok (.ifCond .eq 8, 3) := by decide +kernel
theorem dX10_writeLeaves_52 : decode cX10_writeLeaves 52 = .ok (.aload_n 0, 1) := by decide +kernel
theorem dX10_writeLeaves_53 : decode cX10_writeLeaves 53 = .ok (.iload_n 2, 1) := by decide +kernel
theorem dX10_writeLeaves_54 : decode cX10_writeLeaves 54 = .ok (.invokevirtual 67, 3) := by decide +kernel
theorem dX10_writeLeaves_57 : decode cX10_writeLeaves 57 = .ok (.iinc 1 1, 3) := by decide +kernel
theorem dX10_writeLeaves_60 : decode cX10_writeLeaves 60 = .ok (.goto (-58), 3) := by decide +kernel
theorem dX10_writeLeaves_63 : decode cX10_writeLeaves 63 = .ok (.return_, 1) := by decide +kernel
theorem dX10_writeUnder_0 : decode cX10_writeUnder 0 = .ok (.iload_n 3, 1) := by decide +kernel
theorem dX10_writeUnder_1 : decode cX10_writeUnder 1 = .ok (.iconst 5, 1) := by decide +kernel
theorem dX10_writeUnder_2 : decode cX10_writeUnder 2 = .ok (.if_icmp .le 4, 3) := by decide +kernel
theorem dX10_writeUnder_5 : decode cX10_writeUnder 5 = .ok (.return_, 1) := by decide +kernel
theorem dX10_writeUnder_6 : decode cX10_writeUnder 6 = .ok (.aload_n 0, 1) := by decide +kernel
theorem dX10_writeUnder_7 : decode cX10_writeUnder 7 = .ok (.getfield 23, 3) := by decide +kernel
theorem dX10_writeUnder_10 : decode cX10_writeUnder 10 = .ok (.astore 4, 2) := by decide +kernel
theorem dX10_writeUnder_12 : decode cX10_writeUnder 12 = .ok (.iconst 0, 1) := by decide +kernel
theorem dX10_writeUnder_13 : decode cX10_writeUnder 13 = .ok (.istore 5, 2) := by decide +kernel
theorem dX10_writeUnder_15 : decode cX10_writeUnder 15 = .ok (.iload 5, 2) := by decide +kernel
theorem dX10_writeUnder_17 : decode cX10_writeUnder 17 = .ok (.aload 4, 2) := by decide +kernel
theorem dX10_writeUnder_19 : decode cX10_writeUnder 19 = .ok (.getfield 44, 3) := by decide +kernel
theorem dX10_writeUnder_22 : decode cX10_writeUnder 22 = .ok (.if_icmp .ge 65, 3) := by decide +kernel
theorem dX10_writeUnder_25 : decode cX10_writeUnder 25 = .ok (.aload 4, 2) := by decide +kernel
theorem dX10_writeUnder_27 : decode cX10_writeUnder 27 = .ok (.getfield 47, 3) := by decide +kernel
theorem dX10_writeUnder_30 : decode cX10_writeUnder 30 = .ok (.iload 5, 2) := by decide +kernel
theorem dX10_writeUnder_32 : decode cX10_writeUnder 32 = .ok (.invokevirtual 50, 3) := by decide +kernel
theorem dX10_writeUnder_35 : decode cX10_writeUnder 35 = .ok (.istore 6, 2) := by decide +kernel
theorem dX10_writeUnder_37 : decode cX10_writeUnder 37 = .ok (.aload 4, 2) := by decide +kernel
theorem dX10_writeUnder_39 : decode cX10_writeUnder 39 = .ok (.getfield 70, 3) := by decide +kernel
theorem dX10_writeUnder_42 : decode cX10_writeUnder 42 = .ok (.iload 6, 2) := by decide +kernel
theorem dX10_writeUnder_44 : decode cX10_writeUnder 44 = .ok (.invokevirtual 50, 3) := by decide +kernel
theorem dX10_writeUnder_47 : decode cX10_writeUnder 47 = .ok (.iload_n 1, 1) := by decide +kernel
theorem dX10_writeUnder_48 : decode cX10_writeUnder 48 = .ok (.if_icmp .ne 33, 3) := by decide +kernel
theorem dX10_writeUnder_51 : decode cX10_writeUnder 51 = .ok (.aload 4, 2) := by decide +kernel
theorem dX10_writeUnder_53 : decode cX10_writeUnder 53 = .ok (.getfield 73, 3) := by decide +kernel
theorem dX10_writeUnder_56 : decode cX10_writeUnder 56 = .ok (.iload 6, 2) := by decide +kernel
theorem dX10_writeUnder_58 : decode cX10_writeUnder 58 = .ok (.invokevirtual 50, 3) := by decide +kernel
theorem dX10_writeUnder_61 : decode cX10_writeUnder 61 = .ok (.iload_n 2, 1) := by decide +kernel
theorem dX10_writeUnder_62 : decode cX10_writeUnder 62 = .ok (.if_icmp .ne 19, 3) := by decide +kernel
theorem dX10_writeUnder_65 : decode cX10_writeUnder 65 = .ok (.aload_n 0, 1) := by decide +kernel
theorem dX10_writeUnder_66 : decode cX10_writeUnder 66 = .ok (.iload 6, 2) := by decide +kernel
theorem dX10_writeUnder_68 : decode cX10_writeUnder 68 = .ok (.invokevirtual 67, 3) := by decide +kernel
theorem dX10_writeUnder_71 : decode cX10_writeUnder 71 = .ok (.aload_n 0, 1) := by decide +kernel
theorem dX10_writeUnder_72 : decode cX10_writeUnder 72 = .ok (.iload 6, 2) := by decide +kernel
theorem dX10_writeUnder_74 : decode cX10_writeUnder 74 = .ok (.iload_n 2, 1) := by decide +kernel
theorem dX10_writeUnder_75 : decode cX10_writeUnder 75 = .ok (.iload_n 3, 1) := by decide +kernel
theorem dX10_writeUnder_76 : decode cX10_writeUnder 76 = .ok (.iconst 1, 1) := by decide +kernel
theorem dX10_writeUnder_77 : decode cX10_writeUnder 77 = .ok (.iadd, 1) := by decide +kernel
theorem dX10_writeUnder_78 : decode cX10_writeUnder 78 = .ok (.invokestatic 37, 3) := by decide +kernel
theorem dX10_writeUnder_81 : decode cX10_writeUnder 81 = .ok (.iinc 5 1, 3) := by decide +kernel
theorem dX10_writeUnder_84 : decode cX10_writeUnder 84 = .ok (.goto (-69), 3) := by decide +kernel
theorem dX10_writeUnder_87 : decode cX10_writeUnder 87 = .ok (.return_, 1) := by decide +kernel
theorem dX10_writeKinds_0 : decode cX10_writeKinds 0 = .ok (.lconst 0, 1) := by decide +kernel
theorem dX10_writeKinds_1 : decode cX10_writeKinds 1 = .ok (.lstore_n 1, 1) := by decide +kernel
theorem dX10_writeKinds_2 : decode cX10_writeKinds 2 = .ok (.iconst 0, 1) := by decide +kernel
theorem dX10_writeKinds_3 : decode cX10_writeKinds 3 = .ok (.istore_n 3, 1) := by decide +kernel
theorem dX10_writeKinds_4 : decode cX10_writeKinds 4 = .ok (.iload_n 3, 1) := by decide +kernel
theorem dX10_writeKinds_5 : decode cX10_writeKinds 5 = .ok (.iconst 5, 1) := by decide +kernel
theorem dX10_writeKinds_6 : decode cX10_writeKinds 6 = .ok (.if_icmp .ge 48, 3) := by decide +kernel
theorem dX10_writeKinds_9 : decode cX10_writeKinds 9 = .ok (.aload_n 0, 1) := by decide +kernel
theorem dX10_writeKinds_10 : decode cX10_writeKinds 10 = .ok (.getfield 23, 3) := by decide +kernel
theorem dX10_writeKinds_13 : decode cX10_writeKinds 13 = .ok (.iload_n 3, 1) := by decide +kernel
theorem dX10_writeKinds_14 : decode cX10_writeKinds 14 = .ok (.invokevirtual 76, 3) := by decide +kernel
theorem dX10_writeKinds_17 : decode cX10_writeKinds 17 = .ok (.lstore 4, 2) := by decide +kernel
theorem dX10_writeKinds_19 : decode cX10_writeKinds 19 = .ok (.lload_n 1, 1) := by decide +kernel
theorem dX10_writeKinds_20 : decode cX10_writeKinds 20 = .ok (.lload 4, 2) := by decide +kernel
theorem dX10_writeKinds_22 : decode cX10_writeKinds 22 = .ok (.ladd, 1) := by decide +kernel
theorem dX10_writeKinds_23 : decode cX10_writeKinds 23 = .ok (.lstore_n 1, 1) := by decide +kernel
theorem dX10_writeKinds_24 : decode cX10_writeKinds 24 = .ok (.aload_n 0, 1) := by decide +kernel
theorem dX10_writeKinds_25 : decode cX10_writeKinds 25 = .ok (.iload_n 3, 1) := by decide +kernel
theorem dX10_writeKinds_26 : decode cX10_writeKinds 26 = .ok (.getstatic 79, 3) := by decide +kernel
theorem dX10_writeKinds_29 : decode cX10_writeKinds 29 = .ok (.arraylength, 1) := by decide +kernel
theorem dX10_writeKinds_30 : decode cX10_writeKinds 30 = .ok (.if_icmp .ge 11, 3) := by decide +kernel
theorem dX10_writeKinds_33 : decode cX10_writeKinds 33 = .ok (.getstatic 79, 3) := by decide +kernel
theorem dX10_writeKinds_36 : decode cX10_writeKinds 36 = .ok (.iload_n 3, 1) := by decide +kernel
theorem dX10_writeKinds_37 : decode cX10_writeKinds 37 = .ok (.caload, 1) := by decide +kernel
theorem dX10_writeKinds_38 : decode cX10_writeKinds 38 = .ok (.goto 5, 3) := by decide +kernel
theorem dX10_writeKinds_41 : decode cX10_writeKinds 41 = .ok (.bipush 32, 2) := by decide +kernel
theorem dX10_writeKinds_43 : decode cX10_writeKinds 43 = .ok (.lload 4, 2) := by decide +kernel
theorem dX10_writeKinds_45 : decode cX10_writeKinds 45 = .ok (.invokevirtual 83, 3) := by decide +kernel
theorem dX10_writeKinds_48 : decode cX10_writeKinds 48 = .ok (.iinc 3 1, 3) := by decide +kernel
theorem dX10_writeKinds_51 : decode cX10_writeKinds 51 = .ok (.goto (-47), 3) := by decide +kernel
theorem dX10_writeKinds_54 : decode cX10_writeKinds 54 = .ok (.aload_n 0, 1) := by decide +kernel
theorem dX10_writeKinds_55 : decode cX10_writeKinds 55 = .ok (.bipush 61, 2) := by decide +kernel
theorem dX10_writeKinds_57 : decode cX10_writeKinds 57 = .ok (.lload_n 1, 1) := by decide +kernel
theorem dX10_writeKinds_58 : decode cX10_writeKinds 58 = .ok (.invokevirtual 83, 3) := by decide +kernel
theorem dX10_writeKinds_61 : decode cX10_writeKinds 61 = .ok (.return_, 1) := by decide +kernel
theorem dX10_writeTotal_0 : decode cX10_writeTotal 0 = .ok (.aload_n 0, 1) := by decide +kernel
theorem dX10_writeTotal_1 : decode cX10_writeTotal 1 = .ok (.iload_n 1, 1) := by decide +kernel
theorem dX10_writeTotal_2 : decode cX10_writeTotal 2 = .ok (.invokevirtual 87, 3) := by decide +kernel
theorem dX10_writeTotal_5 : decode cX10_writeTotal 5 = .ok (.aload_n 0, 1) := by decide +kernel
theorem dX10_writeTotal_6 : decode cX10_writeTotal 6 = .ok (.bipush 32, 2) := by decide +kernel
theorem dX10_writeTotal_8 : decode cX10_writeTotal 8 = .ok (.invokevirtual 87, 3) := by decide +kernel
theorem dX10_writeTotal_11 : decode cX10_writeTotal 11 = .ok (.aload_n 0, 1) := by decide +kernel
theorem dX10_writeTotal_12 : decode cX10_writeTotal 12 = .ok (.lload_n 2, 1) := by decide +kernel
theorem dX10_writeTotal_13 : decode cX10_writeTotal 13 = .ok (.invokevirtual 90, 3) := by decide +kernel
theorem dX10_writeTotal_16 : decode cX10_writeTotal 16 = .ok (.aload_n 0, 1) := by decide +kernel
theorem dX10_writeTotal_17 : decode cX10_writeTotal 17 = .ok (.bipush 10, 2) := by decide +kernel
theorem dX10_writeTotal_19 : decode cX10_writeTotal 19 = .ok (.invokevirtual 87, 3) := by decide +kernel
theorem dX10_writeTotal_22 : decode cX10_writeTotal 22 = .ok (.return_, 1) := by decide +kernel
theorem dX10_writeRow_0 : decode cX10_writeRow 0 = .ok (.iconst 0, 1) := by decide +kernel
theorem dX10_writeRow_1 : decode cX10_writeRow 1 = .ok (.istore_n 2, 1) := by decide +kernel
theorem dX10_writeRow_2 : decode cX10_writeRow 2 = .ok (.iload_n 2, 1) := by decide +kernel
theorem dX10_writeRow_3 : decode cX10_writeRow 3 = .ok (.aload_n 0, 1) := by decide +kernel
theorem dX10_writeRow_4 : decode cX10_writeRow 4 = .ok (.getfield 23, 3) := by decide +kernel
theorem dX10_writeRow_7 : decode cX10_writeRow 7 = .ok (.getfield 94, 3) := by decide +kernel
theorem dX10_writeRow_10 : decode cX10_writeRow 10 = .ok (.iload_n 1, 1) := by decide +kernel
theorem dX10_writeRow_11 : decode cX10_writeRow 11 = .ok (.invokevirtual 50, 3) := by decide +kernel
theorem dX10_writeRow_14 : decode cX10_writeRow 14 = .ok (.if_icmp .ge 21, 3) := by decide +kernel
theorem dX10_writeRow_17 : decode cX10_writeRow 17 = .ok (.aload_n 0, 1) := by decide +kernel
theorem dX10_writeRow_18 : decode cX10_writeRow 18 = .ok (.bipush 32, 2) := by decide +kernel
theorem dX10_writeRow_20 : decode cX10_writeRow 20 = .ok (.invokevirtual 87, 3) := by decide +kernel
theorem dX10_writeRow_23 : decode cX10_writeRow 23 = .ok (.aload_n 0, 1) := by decide +kernel
theorem dX10_writeRow_24 : decode cX10_writeRow 24 = .ok (.bipush 32, 2) := by decide +kernel
theorem dX10_writeRow_26 : decode cX10_writeRow 26 = .ok (.invokevirtual 87, 3) := by decide +kernel
theorem dX10_writeRow_29 : decode cX10_writeRow 29 = .ok (.iinc 2 1, 3) := by decide +kernel
theorem dX10_writeRow_32 : decode cX10_writeRow 32 = .ok (.goto (-30), 3) := by decide +kernel
theorem dX10_writeRow_35 : decode cX10_writeRow 35 = .ok (.aload_n 0, 1) := by decide +kernel
theorem dX10_writeRow_36 : decode cX10_writeRow 36 = .ok (.getfield 23, 3) := by decide +kernel
theorem dX10_writeRow_39 : decode cX10_writeRow 39 = .ok (.getfield 97, 3) := by decide +kernel
theorem dX10_writeRow_42 : decode cX10_writeRow 42 = .ok (.iload_n 1, 1) := by decide +kernel
theorem dX10_writeRow_43 : decode cX10_writeRow 43 = .ok (.invokevirtual 50, 3) := by decide +kernel
theorem dX10_writeRow_46 : decode cX10_writeRow 46 = .ok (.istore_n 2, 1) := by decide +kernel
theorem dX10_writeRow_47 : decode cX10_writeRow 47 = .ok (.aload_n 0, 1) := by decide +kernel
theorem dX10_writeRow_48 : decode cX10_writeRow 48 = .ok (.bipush 48, 2) := by decide +kernel
theorem dX10_writeRow_50 : decode cX10_writeRow 50 = .ok (.iload_n 2, 1) := by decide +kernel
theorem dX10_writeRow_51 : decode cX10_writeRow 51 = .ok (.sipush 1000, 3) := by decide +kernel
theorem dX10_writeRow_54 : decode cX10_writeRow 54 = .ok (.idiv, 1) := by decide +kernel
theorem dX10_writeRow_55 : decode cX10_writeRow 55 = .ok (.bipush 10, 2) := by decide +kernel
theorem dX10_writeRow_57 : decode cX10_writeRow 57 = .ok (.irem, 1) := by decide +kernel
theorem dX10_writeRow_58 : decode cX10_writeRow 58 = .ok (.iadd, 1) := by decide +kernel
theorem dX10_writeRow_59 : decode cX10_writeRow 59 = .ok (.invokevirtual 87, 3) := by decide +kernel
theorem dX10_writeRow_62 : decode cX10_writeRow 62 = .ok (.aload_n 0, 1) := by decide +kernel
theorem dX10_writeRow_63 : decode cX10_writeRow 63 = .ok (.bipush 48, 2) := by decide +kernel
theorem dX10_writeRow_65 : decode cX10_writeRow 65 = .ok (.iload_n 2, 1) := by decide +kernel
theorem dX10_writeRow_66 : decode cX10_writeRow 66 = .ok (.bipush 100, 2) := by decide +kernel
theorem dX10_writeRow_68 : decode cX10_writeRow 68 = .ok (.idiv, 1) := by decide +kernel
theorem dX10_writeRow_69 : decode cX10_writeRow 69 = .ok (.bipush 10, 2) := by decide +kernel
theorem dX10_writeRow_71 : decode cX10_writeRow 71 = .ok (.irem, 1) := by decide +kernel
theorem dX10_writeRow_72 : decode cX10_writeRow 72 = .ok (.iadd, 1) := by decide +kernel
theorem dX10_writeRow_73 : decode cX10_writeRow 73 = .ok (.invokevirtual 87, 3) := by decide +kernel
theorem dX10_writeRow_76 : decode cX10_writeRow 76 = .ok (.aload_n 0, 1) := by decide +kernel
theorem dX10_writeRow_77 : decode cX10_writeRow 77 = .ok (.bipush 48, 2) := by decide +kernel
theorem dX10_writeRow_79 : decode cX10_writeRow 79 = .ok (.iload_n 2, 1) := by decide +kernel
theorem dX10_writeRow_80 : decode cX10_writeRow 80 = .ok (.bipush 10, 2) := by decide +kernel
theorem dX10_writeRow_82 : decode cX10_writeRow 82 = .ok (.idiv, 1) := by decide +kernel
theorem dX10_writeRow_83 : decode cX10_writeRow 83 = .ok (.bipush 10, 2) := by decide +kernel
theorem dX10_writeRow_85 : decode cX10_writeRow 85 = .ok (.irem, 1) := by decide +kernel
theorem dX10_writeRow_86 : decode cX10_writeRow 86 = .ok (.iadd, 1) := by decide +kernel
theorem dX10_writeRow_87 : decode cX10_writeRow 87 = .ok (.invokevirtual 87, 3) := by decide +kernel
theorem dX10_writeRow_90 : decode cX10_writeRow 90 = .ok (.aload_n 0, 1) := by decide +kernel
theorem dX10_writeRow_91 : decode cX10_writeRow 91 = .ok (.bipush 48, 2) := by decide +kernel
theorem dX10_writeRow_93 : decode cX10_writeRow 93 = .ok (.iload_n 2, 1) := by decide +kernel
theorem dX10_writeRow_94 : decode cX10_writeRow 94 = .ok (.bipush 10, 2) := by decide +kernel
theorem dX10_writeRow_96 : decode cX10_writeRow 96 = .ok (.irem, 1) := by decide +kernel
theorem dX10_writeRow_97 : decode cX10_writeRow 97 = .ok (.iadd, 1) := by decide +kernel
theorem dX10_writeRow_98 : decode cX10_writeRow 98 = .ok (.invokevirtual 87, 3) := by decide +kernel
theorem dX10_writeRow_101 : decode cX10_writeRow 101 = .ok (.aload_n 0, 1) := by decide +kernel
theorem dX10_writeRow_102 : decode cX10_writeRow 102 = .ok (.bipush 32, 2) := by decide +kernel
theorem dX10_writeRow_104 : decode cX10_writeRow 104 = .ok (.invokevirtual 87, 3) := by decide +kernel
theorem dX10_writeRow_107 : decode cX10_writeRow 107 = .ok (.aload_n 0, 1) := by decide +kernel
theorem dX10_writeRow_108 : decode cX10_writeRow 108 = .ok (.aload_n 0, 1) := by decide +kernel
theorem dX10_writeRow_109 : decode cX10_writeRow 109 = .ok (.getfield 23, 3) := by decide +kernel
theorem dX10_writeRow_112 : decode cX10_writeRow 112 = .ok (.iload_n 1, 1) := by decide +kernel
theorem dX10_writeRow_113 : decode cX10_writeRow 113 = .ok (.aload_n 0, 1) := by decide +kernel
theorem dX10_writeRow_114 : decode cX10_writeRow 114 = .ok (.getfield 23, 3) := by decide +kernel
theorem dX10_writeRow_117 : decode cX10_writeRow 117 = .ok (.getfield 58, 3) := by decide +kernel
theorem dX10_writeRow_120 : decode cX10_writeRow 120 = .ok (.invokevirtual 100, 3) := by decide +kernel
theorem dX10_writeRow_123 : decode cX10_writeRow 123 = .ok (.invokevirtual 90, 3) := by decide +kernel
theorem dX10_writeRow_126 : decode cX10_writeRow 126 = .ok (.aload_n 0, 1) := by decide +kernel
theorem dX10_writeRow_127 : decode cX10_writeRow 127 = .ok (.bipush 10, 2) := by decide +kernel
theorem dX10_writeRow_129 : decode cX10_writeRow 129 = .ok (.invokevirtual 87, 3) := by decide +kernel
theorem dX10_writeRow_132 : decode cX10_writeRow 132 = .ok (.return_, 1) := by decide +kernel
theorem dX10_putMoney_0 : decode cX10_putMoney 0 = .ok (.lload_n 1, 1) := by decide +kernel
theorem dX10_putMoney_1 : decode cX10_putMoney 1 = .ok (.lconst 0, 1) := by decide +kernel
theorem dX10_putMoney_2 : decode cX10_putMoney 2 = .ok (.lcmp, 1) := by decide +kernel
theorem dX10_putMoney_3 : decode cX10_putMoney 3 = .ok (.ifCond .ge 9, 3) := by decide +kernel
theorem dX10_putMoney_6 : decode cX10_putMoney 6 = .ok (.aload_n 0, 1) := by decide +kernel
theorem dX10_putMoney_7 : decode cX10_putMoney 7 = .ok (.bipush 45, 2) := by decide +kernel
theorem dX10_putMoney_9 : decode cX10_putMoney 9 = .ok (.invokevirtual 87, 3) := by decide +kernel
theorem dX10_putMoney_12 : decode cX10_putMoney 12 = .ok (.lload_n 1, 1) := by decide +kernel
theorem dX10_putMoney_13 : decode cX10_putMoney 13 = .ok (.invokestatic 104, 3) := by decide +kernel
theorem dX10_putMoney_16 : decode cX10_putMoney 16 = .ok (.lstore_n 3, 1) := by decide +kernel
theorem dX10_putMoney_17 : decode cX10_putMoney 17 = .ok (.iconst 0, 1) := by decide +kernel
theorem dX10_putMoney_18 : decode cX10_putMoney 18 = .ok (.istore 5, 2) := by decide +kernel
theorem dX10_putMoney_20 : decode cX10_putMoney 20 = .ok (.iload 5, 2) := by decide +kernel
theorem dX10_putMoney_22 : decode cX10_putMoney 22 = .ok (.bipush 20, 2) := by decide +kernel
theorem dX10_putMoney_24 : decode cX10_putMoney 24 = .ok (.if_icmp .ge 42, 3) := by decide +kernel
theorem dX10_putMoney_27 : decode cX10_putMoney 27 = .ok (.iload 5, 2) := by decide +kernel
theorem dX10_putMoney_29 : decode cX10_putMoney 29 = .ok (.iconst 3, 1) := by decide +kernel
theorem dX10_putMoney_30 : decode cX10_putMoney 30 = .ok (.if_icmp .lt 9, 3) := by decide +kernel
theorem dX10_putMoney_33 : decode cX10_putMoney 33 = .ok (.lload_n 3, 1) := by decide +kernel
theorem dX10_putMoney_34 : decode cX10_putMoney 34 = .ok (.lconst 0, 1) := by decide +kernel
theorem dX10_putMoney_35 : decode cX10_putMoney 35 = .ok (.lcmp, 1) := by decide +kernel
theorem dX10_putMoney_36 : decode cX10_putMoney 36 = .ok (.ifCond .le 30, 3) := by decide +kernel
theorem dX10_putMoney_39 : decode cX10_putMoney 39 = .ok (.aload_n 0, 1) := by decide +kernel
theorem dX10_putMoney_40 : decode cX10_putMoney 40 = .ok (.getfield 20, 3) := by decide +kernel
theorem dX10_putMoney_43 : decode cX10_putMoney 43 = .ok (.iload 5, 2) := by decide +kernel
theorem dX10_putMoney_45 : decode cX10_putMoney 45 = .ok (.lload_n 3, 1) := by decide +kernel
theorem dX10_putMoney_46 : decode cX10_putMoney 46 = .ok (.ldc2_w 110, 3) := by decide +kernel
theorem dX10_putMoney_49 : decode cX10_putMoney 49 = .ok (.lrem, 1) := by decide +kernel
theorem dX10_putMoney_50 : decode cX10_putMoney 50 = .ok (.l2i, 1) := by decide +kernel
theorem dX10_putMoney_51 : decode cX10_putMoney 51 = .ok (.invokevirtual 112, 3) := by decide +kernel
theorem dX10_putMoney_54 : decode cX10_putMoney 54 = .ok (.lload_n 3, 1) := by decide +kernel
theorem dX10_putMoney_55 : decode cX10_putMoney 55 = .ok (.ldc2_w 110, 3) := by decide +kernel
theorem dX10_putMoney_58 : decode cX10_putMoney 58 = .ok (.ldiv, 1) := by decide +kernel
theorem dX10_putMoney_59 : decode cX10_putMoney 59 = .ok (.lstore_n 3, 1) := by decide +kernel
theorem dX10_putMoney_60 : decode cX10_putMoney 60 = .ok (.iinc 5 1, 3) := by decide +kernel
theorem dX10_putMoney_63 : decode cX10_putMoney 63 = .ok (.goto (-43), 3) := by decide +kernel
theorem dX10_putMoney_66 : decode cX10_putMoney 66 = .ok (.iload 5, 2) := by decide +kernel
theorem dX10_putMoney_68 : decode cX10_putMoney 68 = .ok (.iconst 1, 1) := by decide +kernel
theorem dX10_putMoney_69 : decode cX10_putMoney 69 = .ok (.isub, 1) := by decide +kernel
theorem dX10_putMoney_70 : decode cX10_putMoney 70 = .ok (.istore 6, 2) := by decide +kernel
theorem dX10_putMoney_72 : decode cX10_putMoney 72 = .ok (.iload 6, 2) := by decide +kernel
theorem dX10_putMoney_74 : decode cX10_putMoney 74 = .ok (.ifCond .lt 61, 3) := by decide +kernel
theorem dX10_putMoney_77 : decode cX10_putMoney 77 = .ok (.aload_n 0, 1) := by decide +kernel
theorem dX10_putMoney_78 : decode cX10_putMoney 78 = .ok (.bipush 48, 2) := by decide +kernel
theorem dX10_putMoney_80 : decode cX10_putMoney 80 = .ok (.aload_n 0, 1) := by decide +kernel
theorem dX10_putMoney_81 : decode cX10_putMoney 81 = .ok (.getfield 20, 3) := by decide +kernel
theorem dX10_putMoney_84 : decode cX10_putMoney 84 = .ok (.iload 6, 2) := by decide +kernel
theorem dX10_putMoney_86 : decode cX10_putMoney 86 = .ok (.invokevirtual 50, 3) := by decide +kernel
theorem dX10_putMoney_89 : decode cX10_putMoney 89 = .ok (.iadd, 1) := by decide +kernel
theorem dX10_putMoney_90 : decode cX10_putMoney 90 = .ok (.invokevirtual 87, 3) := by decide +kernel
theorem dX10_putMoney_93 : decode cX10_putMoney 93 = .ok (.iload 6, 2) := by decide +kernel
theorem dX10_putMoney_95 : decode cX10_putMoney 95 = .ok (.iconst 2, 1) := by decide +kernel
theorem dX10_putMoney_96 : decode cX10_putMoney 96 = .ok (.if_icmp .ne 12, 3) := by decide +kernel
theorem dX10_putMoney_99 : decode cX10_putMoney 99 = .ok (.aload_n 0, 1) := by decide +kernel
theorem dX10_putMoney_100 : decode cX10_putMoney 100 = .ok (.bipush 46, 2) := by decide +kernel
theorem dX10_putMoney_102 : decode cX10_putMoney 102 = .ok (.invokevirtual 87, 3) := by decide +kernel
theorem dX10_putMoney_105 : decode cX10_putMoney 105 = .ok (.goto 24, 3) := by decide +kernel
theorem dX10_putMoney_108 : decode cX10_putMoney 108 = .ok (.iload 6, 2) := by decide +kernel
theorem dX10_putMoney_110 : decode cX10_putMoney 110 = .ok (.iconst 2, 1) := by decide +kernel
theorem dX10_putMoney_111 : decode cX10_putMoney 111 = .ok (.if_icmp .le 18, 3) := by decide +kernel
theorem dX10_putMoney_114 : decode cX10_putMoney 114 = .ok (.iload 6, 2) := by decide +kernel
theorem dX10_putMoney_116 : decode cX10_putMoney 116 = .ok (.iconst 2, 1) := by decide +kernel
theorem dX10_putMoney_117 : decode cX10_putMoney 117 = .ok (.isub, 1) := by decide +kernel
theorem dX10_putMoney_118 : decode cX10_putMoney 118 = .ok (.iconst 3, 1) := by decide +kernel
theorem dX10_putMoney_119 : decode cX10_putMoney 119 = .ok (.irem, 1) := by decide +kernel
theorem dX10_putMoney_120 : decode cX10_putMoney 120 = .ok (.ifCond .ne 9, 3) := by decide +kernel
theorem dX10_putMoney_123 : decode cX10_putMoney 123 = .ok (.aload_n 0, 1) := by decide +kernel
theorem dX10_putMoney_124 : decode cX10_putMoney 124 = .ok (.bipush 44, 2) := by decide +kernel
theorem dX10_putMoney_126 : decode cX10_putMoney 126 = .ok (.invokevirtual 87, 3) := by decide +kernel
theorem dX10_putMoney_129 : decode cX10_putMoney 129 = .ok (.iinc 6 (-1), 3) := by decide +kernel
theorem dX10_putMoney_132 : decode cX10_putMoney 132 = .ok (.goto (-60), 3) := by decide +kernel
theorem dX10_putMoney_135 : decode cX10_putMoney 135 = .ok (.return_, 1) := by decide +kernel
theorem dX10_put_0 : decode cX10_put 0 = .ok (.aload_n 0, 1) := by decide +kernel
theorem dX10_put_1 : decode cX10_put 1 = .ok (.getfield 14, 3) := by decide +kernel
theorem dX10_put_4 : decode cX10_put 4 = .ok (.aload_n 0, 1) := by decide +kernel
theorem dX10_put_5 : decode cX10_put 5 = .ok (.getfield 27, 3) := by decide +kernel
theorem dX10_put_8 : decode cX10_put 8 = .ok (.iload_n 1, 1) := by decide +kernel
theorem dX10_put_9 : decode cX10_put 9 = .ok (.invokevirtual 112, 3) := by decide +kernel
theorem dX10_put_12 : decode cX10_put 12 = .ok (.aload_n 0, 1) := by decide +kernel
theorem dX10_put_13 : decode cX10_put 13 = .ok (.dup, 1) := by decide +kernel
theorem dX10_put_14 : decode cX10_put 14 = .ok (.getfield 27, 3) := by decide +kernel
theorem dX10_put_17 : decode cX10_put 17 = .ok (.iconst 1, 1) := by decide +kernel
theorem dX10_put_18 : decode cX10_put 18 = .ok (.iadd, 1) := by decide +kernel
theorem dX10_put_19 : decode cX10_put 19 = .ok (.putfield 27, 3) := by decide +kernel
theorem dX10_put_22 : decode cX10_put 22 = .ok (.return_, 1) := by decide +kernel
theorem dX11_init_0 : decode cX11_init 0 = .ok (.aload_n 0, 1) := by decide +kernel
theorem dX11_init_1 : decode cX11_init 1 = .ok (.invokespecial 1, 3) := by decide +kernel
theorem dX11_init_4 : decode cX11_init 4 = .ok (.aload_n 0, 1) := by decide +kernel
theorem dX11_init_5 : decode cX11_init 5 = .ok (.new 7, 3) := by decide +kernel
theorem dX11_init_8 : decode cX11_init 8 = .ok (.dup, 1) := by decide +kernel
theorem dX11_init_9 : decode cX11_init 9 = .ok (.invokespecial 9, 3) := by decide +kernel
theorem dX11_init_12 : decode cX11_init 12 = .ok (.putfield 10, 3) := by decide +kernel
theorem dX11_init_15 : decode cX11_init 15 = .ok (.aload_n 0, 1) := by decide +kernel
theorem dX11_init_16 : decode cX11_init 16 = .ok (.new 16, 3) := by decide +kernel
theorem dX11_init_19 : decode cX11_init 19 = .ok (.dup, 1) := by decide +kernel
theorem dX11_init_20 : decode cX11_init 20 = .ok (.invokespecial 18, 3) := by decide +kernel
theorem dX11_init_23 : decode cX11_init 23 = .ok (.putfield 19, 3) := by decide +kernel
theorem dX11_init_26 : decode cX11_init 26 = .ok (.aload_n 0, 1) := by decide +kernel
theorem dX11_init_27 : decode cX11_init 27 = .ok (.new 23, 3) := by decide +kernel
theorem dX11_init_30 : decode cX11_init 30 = .ok (.dup, 1) := by decide +kernel
theorem dX11_init_31 : decode cX11_init 31 = .ok (.aload_n 0, 1) := by decide +kernel
theorem dX11_init_32 : decode cX11_init 32 = .ok (.getfield 19, 3) := by decide +kernel
theorem dX11_init_35 : decode cX11_init 35 = .ok (.aload_n 0, 1) := by decide +kernel
theorem dX11_init_36 : decode cX11_init 36 = .ok (.getfield 10, 3) := by decide +kernel
theorem dX11_init_39 : decode cX11_init 39 = .ok (.invokespecial 25, 3) := by decide +kernel
theorem dX11_init_42 : decode cX11_init 42 = .ok (.putfield 28, 3) := by decide +kernel
theorem dX11_init_45 : decode cX11_init 45 = .ok (.aload_n 0, 1) := by decide +kernel
theorem dX11_init_46 : decode cX11_init 46 = .ok (.new 32, 3) := by decide +kernel
theorem dX11_init_49 : decode cX11_init 49 = .ok (.dup, 1) := by decide +kernel
theorem dX11_init_50 : decode cX11_init 50 = .ok (.bipush 8, 2) := by decide +kernel
theorem dX11_init_52 : decode cX11_init 52 = .ok (.invokespecial 34, 3) := by decide +kernel
theorem dX11_init_55 : decode cX11_init 55 = .ok (.putfield 37, 3) := by decide +kernel
theorem dX11_init_58 : decode cX11_init 58 = .ok (.aload_n 0, 1) := by decide +kernel
theorem dX11_init_59 : decode cX11_init 59 = .ok (.new 32, 3) := by decide +kernel
theorem dX11_init_62 : decode cX11_init 62 = .ok (.dup, 1) := by decide +kernel
theorem dX11_init_63 : decode cX11_init 63 = .ok (.bipush 60, 2) := by decide +kernel
theorem dX11_init_65 : decode cX11_init 65 = .ok (.invokespecial 34, 3) := by decide +kernel
theorem dX11_init_68 : decode cX11_init 68 = .ok (.putfield 41, 3) := by decide +kernel
theorem dX11_init_71 : decode cX11_init 71 = .ok (.aload_n 0, 1) := by decide +kernel
theorem dX11_init_72 : decode cX11_init 72 = .ok (.new 44, 3) := by decide +kernel
theorem dX11_init_75 : decode cX11_init 75 = .ok (.dup, 1) := by decide +kernel
theorem dX11_init_76 : decode cX11_init 76 = .ok (.invokespecial 46, 3) := by decide +kernel
theorem dX11_init_79 : decode cX11_init 79 = .ok (.putfield 47, 3) := by decide +kernel
theorem dX11_init_82 : decode cX11_init 82 = .ok (.aload_n 0, 1) := by decide +kernel
theorem dX11_init_83 : decode cX11_init 83 = .ok (.new 51, 3) := by decide +kernel
theorem dX11_init_86 : decode cX11_init 86 = .ok (.dup, 1) := by decide +kernel
theorem dX11_init_87 : decode cX11_init 87 = .ok (.aload_n 0, 1) := by decide +kernel
theorem dX11_init_88 : decode cX11_init 88 = .ok (.getfield 10, 3) := by decide +kernel
theorem dX11_init_91 : decode cX11_init 91 = .ok (.getfield 53, 3) := by decide +kernel
theorem dX11_init_94 : decode cX11_init 94 = .ok (.invokespecial 57, 3) := by decide +kernel
theorem dX11_init_97 : decode cX11_init 97 = .ok (.putfield 60, 3) := by decide +kernel
theorem dX11_init_100 : decode cX11_init 100 = .ok (.aload_n 0, 1) := by decide +kernel
theorem dX11_init_101 : decode cX11_init 101 = .ok (.iconst 1, 1) := by decide +kernel
theorem dX11_init_102 : decode cX11_init 102 = .ok (.putfield 64, 3) := by decide +kernel
theorem dX11_init_105 : decode cX11_init 105 = .ok (.return_, 1) := by decide +kernel
theorem dX11_account_0 : decode cX11_account 0 = .ok (.aload_n 0, 1) := by decide +kernel
theorem dX11_account_1 : decode cX11_account 1 = .ok (.getfield 64, 3) := by decide +kernel
theorem dX11_account_4 : decode cX11_account 4 = .ok (.ifCond .ne 6, 3) := by decide +kernel
theorem dX11_account_7 : decode cX11_account 7 = .ok (.bipush (-6), 2) := by decide +kernel
theorem dX11_account_9 : decode cX11_account 9 = .ok (.ireturn, 1) := by decide +kernel
theorem dX11_account_10 : decode cX11_account 10 = .ok (.aload_n 0, 1) := by decide +kernel
theorem dX11_account_11 : decode cX11_account 11 = .ok (.getfield 10, 3) := by decide +kernel
theorem dX11_account_14 : decode cX11_account 14 = .ok (.iload_n 1, 1) := by decide +kernel
theorem dX11_account_15 : decode cX11_account 15 = .ok (.iload_n 2, 1) := by decide +kernel
theorem dX11_account_16 : decode cX11_account 16 = .ok (.iload_n 3, 1) := by decide +kernel
theorem dX11_account_17 : decode cX11_account 17 = .ok (.invokevirtual 68, 3) := by decide +kernel
theorem dX11_account_20 : decode cX11_account 20 = .ok (.istore 5, 2) := by decide +kernel
theorem dX11_account_22 : decode cX11_account 22 = .ok (.iload 5, 2) := by decide +kernel
theorem dX11_account_24 : decode cX11_account 24 = .ok (.ifCond .eq 6, 3) := by decide +kernel
theorem dX11_account_27 : decode cX11_account 27 = .ok (.iload 5, 2) := by decide +kernel
theorem dX11_account_29 : decode cX11_account 29 = .ok (.ireturn, 1) := by decide +kernel
theorem dX11_account_30 : decode cX11_account 30 = .ok (.aload_n 0, 1) := by decide +kernel
theorem dX11_account_31 : decode cX11_account 31 = .ok (.getfield 19, 3) := by decide +kernel
theorem dX11_account_34 : decode cX11_account 34 = .ok (.iconst 1, 1) := by decide +kernel
theorem dX11_account_35 : decode cX11_account 35 = .ok (.invokevirtual 72, 3) := by decide +kernel
theorem dX11_account_38 : decode cX11_account 38 = .ok (.aload_n 0, 1) := by decide +kernel
theorem dX11_account_39 : decode cX11_account 39 = .ok (.getfield 19, 3) := by decide +kernel
theorem dX11_account_42 : decode cX11_account 42 = .ok (.iload_n 1, 1) := by decide +kernel
theorem dX11_account_43 : decode cX11_account 43 = .ok (.i2l, 1) := by decide +kernel
theorem dX11_account_44 : decode cX11_account 44 = .ok (.invokevirtual 75, 3) := by decide +kernel
theorem dX11_account_47 : decode cX11_account 47 = .ok (.aload_n 0, 1) := by decide +kernel
theorem dX11_account_48 : decode cX11_account 48 = .ok (.getfield 19, 3) := by decide +kernel
theorem dX11_account_51 : decode cX11_account 51 = .ok (.iload_n 2, 1) := by decide +kernel
theorem dX11_account_52 : decode cX11_account 52 = .ok (.i2l, 1) := by decide +kernel
theorem dX11_account_53 : decode cX11_account 53 = .ok (.invokevirtual 75, 3) := by decide +kernel
theorem dX11_account_56 : decode cX11_account 56 = .ok (.aload_n 0, 1) := by decide +kernel
theorem dX11_account_57 : decode cX11_account 57 = .ok (.getfield 19, 3) := by decide +kernel
theorem dX11_account_60 : decode cX11_account 60 = .ok (.iload_n 3, 1) := by decide +kernel
theorem dX11_account_61 : decode cX11_account 61 = .ok (.i2l, 1) := by decide +kernel
theorem dX11_account_62 : decode cX11_account 62 = .ok (.invokevirtual 75, 3) := by decide +kernel
theorem dX11_account_65 : decode cX11_account 65 = .ok (.aload_n 0, 1) := by decide +kernel
theorem dX11_account_66 : decode cX11_account 66 = .ok (.getfield 19, 3) := by decide +kernel
theorem dX11_account_69 : decode cX11_account 69 = .ok (.iload 4, 2) := by decide +kernel
theorem dX11_account_71 : decode cX11_account 71 = .ok (.ifCond .eq 7, 3) := by decide +kernel
theorem dX11_account_74 : decode cX11_account 74 = .ok (.lconst 1, 1) := by decide +kernel
theorem dX11_account_75 : decode cX11_account 75 = .ok (.goto 4, 3) := by decide +kernel
theorem dX11_account_78 : decode cX11_account 78 = .ok (.lconst 0, 1) := by decide +kernel
theorem dX11_account_79 : decode cX11_account 79 = .ok (.invokevirtual 75, 3) := by decide +kernel
theorem dX11_account_82 : decode cX11_account 82 = .ok (.aload_n 0, 1) := by decide +kernel
theorem dX11_account_83 : decode cX11_account 83 = .ok (.getfield 19, 3) := by decide +kernel
theorem dX11_account_86 : decode cX11_account 86 = .ok (.invokevirtual 79, 3) := by decide +kernel
theorem dX11_account_89 : decode cX11_account 89 = .ok (.ifCond .eq 21, 3) := by decide +kernel
theorem dX11_account_92 : decode cX11_account 92 = .ok (.aload_n 0, 1) := by decide +kernel
theorem dX11_account_93 : decode cX11_account 93 = .ok (.getfield 10, 3) := by decide +kernel
theorem dX11_account_96 : decode cX11_account 96 = .ok (.getfield 53, 3) := by decide +kernel
theorem dX11_account_99 : decode cX11_account 99 = .ok (.iload_n 1, 1) := by decide +kernel
theorem dX11_account_100 : decode cX11_account 100 = .ok (.iload_n 2, 1) := by decide +kernel
theorem dX11_account_101 : decode cX11_account 101 = .ok (.iload_n 3, 1) := by decide +kernel
theorem dX11_account_102 : decode cX11_account 102 = .ok (.iload 4, 2) := by decide +kernel
theorem dX11_account_104 : decode cX11_account 104 = .ok (.invokevirtual 83, 3) := by decide +kernel
theorem dX11_account_107 : decode cX11_account 107 = .ok (.goto 5, 3) := by decide +kernel
theorem dX11_account_110 : decode cX11_account 110 = .ok (.bipush (-13), 2) := by decide +kernel
theorem dX11_account_112 : decode cX11_account 112 = .ok (.ireturn, 1) := by decide +kernel
theorem dX11_shut_0 : decode cX11_shut 0 = .ok (.aload_n 0, 1) := by decide +kernel
theorem dX11_shut_1 : decode cX11_shut 1 = .ok (.getfield 64, 3) := by decide +kernel
theorem dX11_shut_4 : decode cX11_shut 4 = .ok (.ifCond .ne 6, 3) := by decide +kernel
theorem dX11_shut_7 : decode cX11_shut 7 = .ok (.bipush (-6), 2) := by decide +kernel
theorem dX11_shut_9 : decode cX11_shut 9 = .ok (.ireturn, 1) := by decide +kernel
theorem dX11_shut_10 : decode cX11_shut 10 = .ok (.aload_n 0, 1) := by decide +kernel
theorem dX11_shut_11 : decode cX11_shut 11 = .ok (.getfield 10, 3) := by decide +kernel
theorem dX11_shut_14 : decode cX11_shut 14 = .ok (.iload_n 1, 1) := by decide +kernel
theorem dX11_shut_15 : decode cX11_shut 15 = .ok (.iload_n 2, 1) := by decide +kernel
theorem dX11_shut_16 : decode cX11_shut 16 = .ok (.invokevirtual 89, 3) := by decide +kernel
theorem dX11_shut_19 : decode cX11_shut 19 = .ok (.istore_n 3, 1) := by decide +kernel
theorem dX11_shut_20 : decode cX11_shut 20 = .ok (.iload_n 3, 1) := by decide +kernel
theorem dX11_shut_21 : decode cX11_shut 21 = .ok (.ifCond .eq 5, 3) := by decide +kernel
theorem dX11_shut_24 : decode cX11_shut 24 = .ok (.iload_n 3, 1) := by decide +kernel
theorem dX11_shut_25 : decode cX11_shut 25 = .ok (.ireturn, 1) := by decide +kernel
theorem dX11_shut_26 : decode cX11_shut 26 = .ok (.aload_n 0, 1) := by decide +kernel
theorem dX11_shut_27 : decode cX11_shut 27 = .ok (.getfield 19, 3) := by decide +kernel
theorem dX11_shut_30 : decode cX11_shut 30 = .ok (.iconst 2, 1) := by decide +kernel
theorem dX11_shut_31 : decode cX11_shut 31 = .ok (.invokevirtual 72, 3) := by decide +kernel
theorem dX11_shut_34 : decode cX11_shut 34 = .ok (.aload_n 0, 1) := by decide +kernel
theorem dX11_shut_35 : decode cX11_shut 35 = .ok (.getfield 19, 3) := by decide +kernel
theorem dX11_shut_38 : decode cX11_shut 38 = .ok (.iload_n 1, 1) := by decide +kernel
theorem dX11_shut_39 : decode cX11_shut 39 = .ok (.i2l, 1) := by decide +kernel
theorem dX11_shut_40 : decode cX11_shut 40 = .ok (.invokevirtual 75, 3) := by decide +kernel
theorem dX11_shut_43 : decode cX11_shut 43 = .ok (.aload_n 0, 1) := by decide +kernel
theorem dX11_shut_44 : decode cX11_shut 44 = .ok (.getfield 19, 3) := by decide +kernel
theorem dX11_shut_47 : decode cX11_shut 47 = .ok (.iload_n 2, 1) := by decide +kernel
theorem dX11_shut_48 : decode cX11_shut 48 = .ok (.ifCond .eq 7, 3) := by decide +kernel
theorem dX11_shut_51 : decode cX11_shut 51 = .ok (.lconst 1, 1) := by decide +kernel
theorem dX11_shut_52 : decode cX11_shut 52 = .ok (.goto 4, 3) := by decide +kernel
theorem dX11_shut_55 : decode cX11_shut 55 = .ok (.lconst 0, 1) := by decide +kernel
theorem dX11_shut_56 : decode cX11_shut 56 = .ok (.invokevirtual 75, 3) := by decide +kernel
theorem dX11_shut_59 : decode cX11_shut 59 = .ok (.aload_n 0, 1) := by decide +kernel
theorem dX11_shut_60 : decode cX11_shut 60 = .ok (.getfield 19, 3) := by decide +kernel
theorem dX11_shut_63 : decode cX11_shut 63 = .ok (.invokevirtual 79, 3) := by decide +kernel
theorem dX11_shut_66 : decode cX11_shut 66 = .ok (.ifCond .ne 6, 3) := by decide +kernel
theorem dX11_shut_69 : decode cX11_shut 69 = .ok (.bipush (-13), 2) := by decide +kernel
theorem dX11_shut_71 : decode cX11_shut 71 = .ok (.ireturn, 1) := by decide +kernel
theorem dX11_shut_72 : decode cX11_shut 72 = .ok (.aload_n 0, 1) := by decide +kernel
theorem dX11_shut_73 : decode cX11_shut 73 = .ok (.getfield 10, 3) := by decide +kernel
theorem dX11_shut_76 : decode cX11_shut 76 = .ok (.getfield 53, 3) := by decide +kernel
theorem dX11_shut_79 : decode cX11_shut 79 = .ok (.iload_n 1, 1) := by decide +kernel
theorem dX11_shut_80 : decode cX11_shut 80 = .ok (.iload_n 2, 1) := by decide +kernel
theorem dX11_shut_81 : decode cX11_shut 81 = .ok (.invokevirtual 93, 3) := by decide +kernel
theorem dX11_shut_84 : decode cX11_shut 84 = .ok (.iload_n 2, 1) := by decide +kernel
theorem dX11_shut_85 : decode cX11_shut 85 = .ok (.ifCond .eq 7, 3) := by decide +kernel
theorem dX11_shut_88 : decode cX11_shut 88 = .ok (.iconst 0, 1) := by decide +kernel
theorem dX11_shut_89 : decode cX11_shut 89 = .ok (.goto 4, 3) := by decide +kernel
theorem dX11_shut_92 : decode cX11_shut 92 = .ok (.iconst 1, 1) := by decide +kernel
theorem dX11_shut_93 : decode cX11_shut 93 = .ok (.ireturn, 1) := by decide +kernel
theorem dX11_period_0 : decode cX11_period 0 = .ok (.aload_n 0, 1) := by decide +kernel
theorem dX11_period_1 : decode cX11_period 1 = .ok (.getfield 64, 3) := by decide +kernel
theorem dX11_period_4 : decode cX11_period 4 = .ok (.ifCond .ne 6, 3) := by decide +kernel
theorem dX11_period_7 : decode cX11_period 7 = .ok (.bipush (-6), 2) := by decide +kernel
theorem dX11_period_9 : decode cX11_period 9 = .ok (.ireturn, 1) := by decide +kernel
theorem dX11_period_10 : decode cX11_period 10 = .ok (.aload_n 0, 1) := by decide +kernel
theorem dX11_period_11 : decode cX11_period 11 = .ok (.getfield 10, 3) := by decide +kernel
theorem dX11_period_14 : decode cX11_period 14 = .ok (.iload_n 1, 1) := by decide +kernel
theorem dX11_period_15 : decode cX11_period 15 = .ok (.invokevirtual 97, 3) := by decide +kernel
theorem dX11_period_18 : decode cX11_period 18 = .ok (.istore_n 2, 1) := by decide +kernel
theorem dX11_period_19 : decode cX11_period 19 = .ok (.iload_n 2, 1) := by decide +kernel
theorem dX11_period_20 : decode cX11_period 20 = .ok (.ifCond .eq 5, 3) := by decide +kernel
theorem dX11_period_23 : decode cX11_period 23 = .ok (.iload_n 2, 1) := by decide +kernel
theorem dX11_period_24 : decode cX11_period 24 = .ok (.ireturn, 1) := by decide +kernel
theorem dX11_period_25 : decode cX11_period 25 = .ok (.aload_n 0, 1) := by decide +kernel
theorem dX11_period_26 : decode cX11_period 26 = .ok (.getfield 19, 3) := by decide +kernel
theorem dX11_period_29 : decode cX11_period 29 = .ok (.iconst 3, 1) := by decide +kernel
theorem dX11_period_30 : decode cX11_period 30 = .ok (.invokevirtual 72, 3) := by decide +kernel
theorem dX11_period_33 : decode cX11_period 33 = .ok (.aload_n 0, 1) := by decide +kernel
theorem dX11_period_34 : decode cX11_period 34 = .ok (.getfield 19, 3) := by decide +kernel
theorem dX11_period_37 : decode cX11_period 37 = .ok (.iload_n 1, 1) := by decide +kernel
theorem dX11_period_38 : decode cX11_period 38 = .ok (.i2l, 1) := by decide +kernel
theorem dX11_period_39 : decode cX11_period 39 = .ok (.invokevirtual 75, 3) := by decide +kernel
theorem dX11_period_42 : decode cX11_period 42 = .ok (.aload_n 0, 1) := by decide +kernel
theorem dX11_period_43 : decode cX11_period 43 = .ok (.getfield 19, 3) := by decide +kernel
theorem dX11_period_46 : decode cX11_period 46 = .ok (.invokevirtual 79, 3) := by decide +kernel
theorem dX11_period_49 : decode cX11_period 49 = .ok (.ifCond .eq 17, 3) := by decide +kernel
theorem dX11_period_52 : decode cX11_period 52 = .ok (.aload_n 0, 1) := by decide +kernel
theorem dX11_period_53 : decode cX11_period 53 = .ok (.getfield 10, 3) := by decide +kernel
theorem dX11_period_56 : decode cX11_period 56 = .ok (.getfield 101, 3) := by decide +kernel
theorem dX11_period_59 : decode cX11_period 59 = .ok (.iload_n 1, 1) := by decide +kernel
theorem dX11_period_60 : decode cX11_period 60 = .ok (.invokevirtual 105, 3) := by decide +kernel
theorem dX11_period_63 : decode cX11_period 63 = .ok (.goto 5, 3) := by decide +kernel
theorem dX11_period_66 : decode cX11_period 66 = .ok (.bipush (-13), 2) := by decide +kernel
theorem dX11_period_68 : decode cX11_period 68 = .ok (.ireturn, 1) := by decide +kernel
theorem dX11_owner_0 : decode cX11_owner 0 = .ok (.aload_n 0, 1) := by decide +kernel
theorem dX11_owner_1 : decode cX11_owner 1 = .ok (.getfield 64, 3) := by decide +kernel
theorem dX11_owner_4 : decode cX11_owner 4 = .ok (.ifCond .ne 6, 3) := by decide +kernel
theorem dX11_owner_7 : decode cX11_owner 7 = .ok (.bipush (-6), 2) := by decide +kernel
theorem dX11_owner_9 : decode cX11_owner 9 = .ok (.ireturn, 1) := by decide +kernel
theorem dX11_owner_10 : decode cX11_owner 10 = .ok (.aload_n 0, 1) := by decide +kernel
theorem dX11_owner_11 : decode cX11_owner 11 = .ok (.getfield 10, 3) := by decide +kernel
theorem dX11_owner_14 : decode cX11_owner 14 = .ok (.iload_n 1, 1) := by decide +kernel
theorem dX11_owner_15 : decode cX11_owner 15 = .ok (.invokevirtual 109, 3) := by decide +kernel
theorem dX11_owner_18 : decode cX11_owner 18 = .ok (.istore_n 2, 1) := by decide +kernel
theorem dX11_owner_19 : decode cX11_owner 19 = .ok (.iload_n 2, 1) := by decide +kernel
theorem dX11_owner_20 : decode cX11_owner 20 = .ok (.ifCond .eq 5, 3) := by decide +kernel
theorem dX11_owner_23 : decode cX11_owner 23 = .ok (.iload_n 2, 1) := by decide +kernel
theorem dX11_owner_24 : decode cX11_owner 24 = .ok (.ireturn, 1) := by decide +kernel
theorem dX11_owner_25 : decode cX11_owner 25 = .ok (.aload_n 0, 1) := by decide +kernel
theorem dX11_owner_26 : decode cX11_owner 26 = .ok (.getfield 19, 3) := by decide +kernel
theorem dX11_owner_29 : decode cX11_owner 29 = .ok (.iconst 4, 1) := by decide +kernel
theorem dX11_owner_30 : decode cX11_owner 30 = .ok (.invokevirtual 72, 3) := by decide +kernel
theorem dX11_owner_33 : decode cX11_owner 33 = .ok (.aload_n 0, 1) := by decide +kernel
theorem dX11_owner_34 : decode cX11_owner 34 = .ok (.getfield 19, 3) := by decide +kernel
theorem dX11_owner_37 : decode cX11_owner 37 = .ok (.iload_n 1, 1) := by decide +kernel
theorem dX11_owner_38 : decode cX11_owner 38 = .ok (.i2l, 1) := by decide +kernel
theorem dX11_owner_39 : decode cX11_owner 39 = .ok (.invokevirtual 75, 3) := by decide +kernel
theorem dX11_owner_42 : decode cX11_owner 42 = .ok (.aload_n 0, 1) := by decide +kernel
theorem dX11_owner_43 : decode cX11_owner 43 = .ok (.getfield 19, 3) := by decide +kernel
theorem dX11_owner_46 : decode cX11_owner 46 = .ok (.invokevirtual 79, 3) := by decide +kernel
theorem dX11_owner_49 : decode cX11_owner 49 = .ok (.ifCond .eq 14, 3) := by decide +kernel
theorem dX11_owner_52 : decode cX11_owner 52 = .ok (.aload_n 0, 1) := by decide +kernel
theorem dX11_owner_53 : decode cX11_owner 53 = .ok (.getfield 10, 3) := by decide +kernel
theorem dX11_owner_56 : decode cX11_owner 56 = .ok (.iload_n 1, 1) := by decide +kernel
theorem dX11_owner_57 : decode cX11_owner 57 = .ok (.invokevirtual 112, 3) := by decide +kernel
theorem dX11_owner_60 : decode cX11_owner 60 = .ok (.goto 5, 3) := by decide +kernel
theorem dX11_owner_63 : decode cX11_owner 63 = .ok (.bipush (-13), 2) := by decide +kernel
theorem dX11_owner_65 : decode cX11_owner 65 = .ok (.ireturn, 1) := by decide +kernel
theorem dX11_line_0 : decode cX11_line 0 = .ok (.aload_n 0, 1) := by decide +kernel
theorem dX11_line_1 : decode cX11_line 1 = .ok (.getfield 64, 3) := by decide +kernel
theorem dX11_line_4 : decode cX11_line 4 = .ok (.ifCond .ne 6, 3) := by decide +kernel
theorem dX11_line_7 : decode cX11_line 7 = .ok (.bipush (-6), 2) := by decide +kernel
theorem dX11_line_9 : decode cX11_line 9 = .ok (.ireturn, 1) := by decide +kernel
theorem dX11_line_10 : decode cX11_line 10 = .ok (.aload_n 0, 1) := by decide +kernel
theorem dX11_line_11 : decode cX11_line 11 = .ok (.getfield 10, 3) := by decide +kernel
theorem dX11_line_14 : decode cX11_line 14 = .ok (.iload_n 1, 1) := by decide +kernel
theorem dX11_line_15 : decode cX11_line 15 = .ok (.lload_n 2, 1) := by decide +kernel
theorem dX11_line_16 : decode cX11_line 16 = .ok (.invokevirtual 115, 3) := by decide +kernel
theorem dX11_line_19 : decode cX11_line 19 = .ok (.istore 4, 2) := by decide +kernel
theorem dX11_line_21 : decode cX11_line 21 = .ok (.iload 4, 2) := by decide +kernel
theorem dX11_line_23 : decode cX11_line 23 = .ok (.ifCond .eq 6, 3) := by decide +kernel
theorem dX11_line_26 : decode cX11_line 26 = .ok (.iload 4, 2) := by decide +kernel
theorem dX11_line_28 : decode cX11_line 28 = .ok (.ireturn, 1) := by decide +kernel
theorem dX11_line_29 : decode cX11_line 29 = .ok (.aload_n 0, 1) := by decide +kernel
theorem dX11_line_30 : decode cX11_line 30 = .ok (.getfield 37, 3) := by decide +kernel
theorem dX11_line_33 : decode cX11_line 33 = .ok (.getfield 119, 3) := by decide +kernel
theorem dX11_line_36 : decode cX11_line 36 = .ok (.bipush 8, 2) := by decide +kernel
theorem dX11_line_38 : decode cX11_line 38 = .ok (.if_icmp .lt 6, 3) := by decide +kernel
theorem dX11_line_41 : decode cX11_line 41 = .ok (.bipush (-13), 2) := by decide +kernel
theorem dX11_line_43 : decode cX11_line 43 = .ok (.ireturn, 1) := by decide +kernel
theorem dX11_line_44 : decode cX11_line 44 = .ok (.aload_n 0, 1) := by decide +kernel
theorem dX11_line_45 : decode cX11_line 45 = .ok (.getfield 37, 3) := by decide +kernel
theorem dX11_line_48 : decode cX11_line 48 = .ok (.iload_n 1, 1) := by decide +kernel
theorem dX11_line_49 : decode cX11_line 49 = .ok (.lload_n 2, 1) := by decide +kernel
theorem dX11_line_50 : decode cX11_line 50 = .ok (.invokevirtual 123, 3) := by decide +kernel
theorem dX11_line_53 : decode cX11_line 53 = .ok (.aload_n 0, 1) := by decide +kernel
theorem dX11_line_54 : decode cX11_line 54 = .ok (.getfield 37, 3) := by decide +kernel
theorem dX11_line_57 : decode cX11_line 57 = .ok (.getfield 119, 3) := by decide +kernel
theorem dX11_line_60 : decode cX11_line 60 = .ok (.ireturn, 1) := by decide +kernel
theorem dX11_drop_0 : decode cX11_drop 0 = .ok (.aload_n 0, 1) := by decide +kernel
theorem dX11_drop_1 : decode cX11_drop 1 = .ok (.getfield 64, 3) := by decide +kernel
theorem dX11_drop_4 : decode cX11_drop 4 = .ok (.ifCond .ne 6, 3) := by decide +kernel
theorem dX11_drop_7 : decode cX11_drop 7 = .ok (.bipush (-6), 2) := by decide +kernel
theorem dX11_drop_9 : decode cX11_drop 9 = .ok (.ireturn, 1) := by decide +kernel
theorem dX11_drop_10 : decode cX11_drop 10 = .ok (.aload_n 0, 1) := by decide +kernel
theorem dX11_drop_11 : decode cX11_drop 11 = .ok (.getfield 37, 3) := by decide +kernel
theorem dX11_drop_14 : decode cX11_drop 14 = .ok (.getfield 119, 3) := by decide +kernel
theorem dX11_drop_17 : decode cX11_drop 17 = .ok (.istore_n 1, 1) := by decide +kernel
theorem dX11_drop_18 : decode cX11_drop 18 = .ok (.aload_n 0, 1) := by decide +kernel
theorem dX11_drop_19 : decode cX11_drop 19 = .ok (.getfield 37, 3) := by decide +kernel
theorem dX11_drop_22 : decode cX11_drop 22 = .ok (.invokevirtual 126, 3) := by decide +kernel
theorem dX11_drop_25 : decode cX11_drop 25 = .ok (.iload_n 1, 1) := by decide +kernel
theorem dX11_drop_26 : decode cX11_drop 26 = .ok (.ireturn, 1) := by decide +kernel
theorem dX11_post_0 : decode cX11_post 0 = .ok (.aload_n 0, 1) := by decide +kernel
theorem dX11_post_1 : decode cX11_post 1 = .ok (.getfield 64, 3) := by decide +kernel
theorem dX11_post_4 : decode cX11_post 4 = .ok (.ifCond .eq 16, 3) := by decide +kernel
theorem dX11_post_7 : decode cX11_post 7 = .ok (.aload_n 0, 1) := by decide +kernel
theorem dX11_post_8 : decode cX11_post 8 = .ok (.aload_n 0, 1) := by decide +kernel
theorem dX11_post_9 : decode cX11_post 9 = .ok (.getfield 37, 3) := by decide +kernel
theorem dX11_post_12 : decode cX11_post 12 = .ok (.iload_n 1, 1) := by decide +kernel
theorem dX11_post_13 : decode cX11_post 13 = .ok (.iload_n 2, 1) := by decide +kernel
theorem dX11_post_14 : decode cX11_post 14 = .ok (.invokevirtual 129, 3) := by decide +kernel
theorem dX11_post_17 : decode cX11_post 17 = .ok (.goto 5, 3) := by decide +kernel
theorem dX11_post_20 : decode cX11_post 20 = .ok (.bipush (-6), 2) := by decide +kernel
theorem dX11_post_22 : decode cX11_post 22 = .ok (.ireturn, 1) := by decide +kernel
theorem dX11_back_0 : decode cX11_back 0 = .ok (.aload_n 0, 1) := by decide +kernel
theorem dX11_back_1 : decode cX11_back 1 = .ok (.getfield 64, 3) := by decide +kernel
theorem dX11_back_4 : decode cX11_back 4 = .ok (.ifCond .ne 6, 3) := by decide +kernel
theorem dX11_back_7 : decode cX11_back 7 = .ok (.bipush (-6), 2) := by decide +kernel
theorem dX11_back_9 : decode cX11_back 9 = .ok (.ireturn, 1) := by decide +kernel
theorem dX11_back_10 : decode cX11_back 10 = .ok (.aload_n 0, 1) := by decide +kernel
theorem dX11_back_11 : decode cX11_back 11 = .ok (.getfield 10, 3) := by decide +kernel
theorem dX11_back_14 : decode cX11_back 14 = .ok (.iload_n 1, 1) := by decide +kernel
theorem dX11_back_15 : decode cX11_back 15 = .ok (.iload_n 2, 1) := by decide +kernel
theorem dX11_back_16 : decode cX11_back 16 = .ok (.aload_n 0, 1) := by decide +kernel
theorem dX11_back_17 : decode cX11_back 17 = .ok (.getfield 41, 3) := by decide +kernel
theorem dX11_back_20 : decode cX11_back 20 = .ok (.invokevirtual 133, 3) := by decide +kernel
theorem dX11_back_23 : decode cX11_back 23 = .ok (.istore_n 3, 1) := by decide +kernel
theorem dX11_back_24 : decode cX11_back 24 = .ok (.iload_n 3, 1) := by decide +kernel
theorem dX11_back_25 : decode cX11_back 25 = .ok (.ifCond .eq 5, 3) := by decide +kernel
theorem dX11_back_28 : decode cX11_back 28 = .ok (.iload_n 3, 1) := by decide +kernel
theorem dX11_back_29 : decode cX11_back 29 = .ok (.ireturn, 1) := by decide +kernel
theorem dX11_back_30 : decode cX11_back 30 = .ok (.aload_n 0, 1) := by decide +kernel
theorem dX11_back_31 : decode cX11_back 31 = .ok (.getfield 19, 3) := by decide +kernel
theorem dX11_back_34 : decode cX11_back 34 = .ok (.bipush 6, 2) := by decide +kernel
theorem dX11_back_36 : decode cX11_back 36 = .ok (.invokevirtual 72, 3) := by decide +kernel
theorem dX11_back_39 : decode cX11_back 39 = .ok (.aload_n 0, 1) := by decide +kernel
theorem dX11_back_40 : decode cX11_back 40 = .ok (.getfield 19, 3) := by decide +kernel
theorem dX11_back_43 : decode cX11_back 43 = .ok (.iload_n 1, 1) := by decide +kernel
theorem dX11_back_44 : decode cX11_back 44 = .ok (.i2l, 1) := by decide +kernel
theorem dX11_back_45 : decode cX11_back 45 = .ok (.invokevirtual 75, 3) := by decide +kernel
theorem dX11_back_48 : decode cX11_back 48 = .ok (.aload_n 0, 1) := by decide +kernel
theorem dX11_back_49 : decode cX11_back 49 = .ok (.getfield 19, 3) := by decide +kernel
theorem dX11_back_52 : decode cX11_back 52 = .ok (.iload_n 2, 1) := by decide +kernel
theorem dX11_back_53 : decode cX11_back 53 = .ok (.i2l, 1) := by decide +kernel
theorem dX11_back_54 : decode cX11_back 54 = .ok (.invokevirtual 75, 3) := by decide +kernel
theorem dX11_back_57 : decode cX11_back 57 = .ok (.aload_n 0, 1) := by decide +kernel
theorem dX11_back_58 : decode cX11_back 58 = .ok (.getfield 19, 3) := by decide +kernel
theorem dX11_back_61 : decode cX11_back 61 = .ok (.invokevirtual 79, 3) := by decide +kernel
theorem dX11_back_64 : decode cX11_back 64 = .ok (.ifCond .eq 19, 3) := by decide +kernel
theorem dX11_back_67 : decode cX11_back 67 = .ok (.aload_n 0, 1) := by decide +kernel
theorem dX11_back_68 : decode cX11_back 68 = .ok (.getfield 10, 3) := by decide +kernel
theorem dX11_back_71 : decode cX11_back 71 = .ok (.iload_n 1, 1) := by decide +kernel
theorem dX11_back_72 : decode cX11_back 72 = .ok (.iload_n 2, 1) := by decide +kernel
theorem dX11_back_73 : decode cX11_back 73 = .ok (.aload_n 0, 1) := by decide +kernel
theorem dX11_back_74 : decode cX11_back 74 = .ok (.getfield 41, 3) := by decide +kernel
theorem dX11_back_77 : decode cX11_back 77 = .ok (.invokevirtual 137, 3) := by decide +kernel
theorem dX11_back_80 : decode cX11_back 80 = .ok (.goto 5, 3) := by decide +kernel
theorem dX11_back_83 : decode cX11_back 83 = .ok (.bipush (-13), 2) := by decide +kernel
theorem dX11_back_85 : decode cX11_back 85 = .ok (.ireturn, 1) := by decide +kernel
theorem dX11_close_0 : decode cX11_close 0 = .ok (.aload_n 0, 1) := by decide +kernel
theorem dX11_close_1 : decode cX11_close 1 = .ok (.getfield 64, 3) := by decide +kernel
theorem dX11_close_4 : decode cX11_close 4 = .ok (.ifCond .ne 6, 3) := by decide +kernel
theorem dX11_close_7 : decode cX11_close 7 = .ok (.bipush (-6), 2) := by decide +kernel
theorem dX11_close_9 : decode cX11_close 9 = .ok (.ireturn, 1) := by decide +kernel
theorem dX11_close_10 : decode cX11_close 10 = .ok (.aload_n 0, 1) := by decide +kernel
theorem dX11_close_11 : decode cX11_close 11 = .ok (.getfield 10, 3) := by decide +kernel
theorem dX11_close_14 : decode cX11_close 14 = .ok (.aload_n 0, 1) := by decide +kernel
theorem dX11_close_15 : decode cX11_close 15 = .ok (.getfield 41, 3) := by decide +kernel
theorem dX11_close_18 : decode cX11_close 18 = .ok (.invokevirtual 140, 3) := by decide +kernel
theorem dX11_close_21 : decode cX11_close 21 = .ok (.istore_n 1, 1) := by decide +kernel
theorem dX11_close_22 : decode cX11_close 22 = .ok (.iload_n 1, 1) := by decide +kernel
theorem dX11_close_23 : decode cX11_close 23 = .ok (.ifCond .eq 5, 3) := by decide +kernel
theorem dX11_close_26 : decode cX11_close 26 = .ok (.iload_n 1, 1) := by decide +kernel
theorem dX11_close_27 : decode cX11_close 27 = .ok (.ireturn, 1) := by decide +kernel
theorem dX11_close_28 : decode cX11_close 28 = .ok (.aload_n 0, 1) := by decide +kernel
theorem dX11_close_29 : decode cX11_close 29 = .ok (.getfield 19, 3) := by decide +kernel
theorem dX11_close_32 : decode cX11_close 32 = .ok (.bipush 7, 2) := by decide +kernel
theorem dX11_close_34 : decode cX11_close 34 = .ok (.invokevirtual 72, 3) := by decide +kernel
theorem dX11_close_37 : decode cX11_close 37 = .ok (.aload_n 0, 1) := by decide +kernel
theorem dX11_close_38 : decode cX11_close 38 = .ok (.getfield 19, 3) := by decide +kernel
theorem dX11_close_41 : decode cX11_close 41 = .ok (.invokevirtual 79, 3) := by decide +kernel
theorem dX11_close_44 : decode cX11_close 44 = .ok (.ifCond .eq 17, 3) := by decide +kernel
theorem dX11_close_47 : decode cX11_close 47 = .ok (.aload_n 0, 1) := by decide +kernel
theorem dX11_close_48 : decode cX11_close 48 = .ok (.getfield 10, 3) := by decide +kernel
theorem dX11_close_51 : decode cX11_close 51 = .ok (.aload_n 0, 1) := by decide +kernel
theorem dX11_close_52 : decode cX11_close 52 = .ok (.getfield 41, 3) := by decide +kernel
theorem dX11_close_55 : decode cX11_close 55 = .ok (.invokevirtual 144, 3) := by decide +kernel
theorem dX11_close_58 : decode cX11_close 58 = .ok (.goto 5, 3) := by decide +kernel
theorem dX11_close_61 : decode cX11_close 61 = .ok (.bipush (-13), 2) := by decide +kernel
theorem dX11_close_63 : decode cX11_close 63 = .ok (.ireturn, 1) := by decide +kernel
theorem dX11_reopen_0 : decode cX11_reopen 0 = .ok (.aload_n 0, 1) := by decide +kernel
theorem dX11_reopen_1 : decode cX11_reopen 1 = .ok (.getfield 64, 3) := by decide +kernel
theorem dX11_reopen_4 : decode cX11_reopen 4 = .ok (.ifCond .ne 6, 3) := by decide +kernel
theorem dX11_reopen_7 : decode cX11_reopen 7 = .ok (.bipush (-6), 2) := by decide +kernel
theorem dX11_reopen_9 : decode cX11_reopen 9 = .ok (.ireturn, 1) := by decide +kernel
theorem dX11_reopen_10 : decode cX11_reopen 10 = .ok (.aload_n 0, 1) := by decide +kernel
theorem dX11_reopen_11 : decode cX11_reopen 11 = .ok (.getfield 10, 3) := by decide +kernel
theorem dX11_reopen_14 : decode cX11_reopen 14 = .ok (.aload_n 0, 1) := by decide +kernel
theorem dX11_reopen_15 : decode cX11_reopen 15 = .ok (.getfield 41, 3) := by decide +kernel
theorem dX11_reopen_18 : decode cX11_reopen 18 = .ok (.invokevirtual 147, 3) := by decide +kernel
theorem dX11_reopen_21 : decode cX11_reopen 21 = .ok (.istore_n 1, 1) := by decide +kernel
theorem dX11_reopen_22 : decode cX11_reopen 22 = .ok (.iload_n 1, 1) := by decide +kernel
theorem dX11_reopen_23 : decode cX11_reopen 23 = .ok (.ifCond .eq 5, 3) := by decide +kernel
theorem dX11_reopen_26 : decode cX11_reopen 26 = .ok (.iload_n 1, 1) := by decide +kernel
theorem dX11_reopen_27 : decode cX11_reopen 27 = .ok (.ireturn, 1) := by decide +kernel
theorem dX11_reopen_28 : decode cX11_reopen 28 = .ok (.aload_n 0, 1) := by decide +kernel
theorem dX11_reopen_29 : decode cX11_reopen 29 = .ok (.getfield 19, 3) := by decide +kernel
theorem dX11_reopen_32 : decode cX11_reopen 32 = .ok (.bipush 8, 2) := by decide +kernel
theorem dX11_reopen_34 : decode cX11_reopen 34 = .ok (.invokevirtual 72, 3) := by decide +kernel
theorem dX11_reopen_37 : decode cX11_reopen 37 = .ok (.aload_n 0, 1) := by decide +kernel
theorem dX11_reopen_38 : decode cX11_reopen 38 = .ok (.getfield 19, 3) := by decide +kernel
theorem dX11_reopen_41 : decode cX11_reopen 41 = .ok (.invokevirtual 79, 3) := by decide +kernel
theorem dX11_reopen_44 : decode cX11_reopen 44 = .ok (.ifCond .eq 17, 3) := by decide +kernel
theorem dX11_reopen_47 : decode cX11_reopen 47 = .ok (.aload_n 0, 1) := by decide +kernel
theorem dX11_reopen_48 : decode cX11_reopen 48 = .ok (.getfield 10, 3) := by decide +kernel
theorem dX11_reopen_51 : decode cX11_reopen 51 = .ok (.aload_n 0, 1) := by decide +kernel
theorem dX11_reopen_52 : decode cX11_reopen 52 = .ok (.getfield 41, 3) := by decide +kernel
theorem dX11_reopen_55 : decode cX11_reopen 55 = .ok (.invokevirtual 150, 3) := by decide +kernel
theorem dX11_reopen_58 : decode cX11_reopen 58 = .ok (.goto 5, 3) := by decide +kernel
theorem dX11_reopen_61 : decode cX11_reopen 61 = .ok (.bipush (-13), 2) := by decide +kernel
theorem dX11_reopen_63 : decode cX11_reopen 63 = .ok (.ireturn, 1) := by decide +kernel
theorem dX11_share_0 : decode cX11_share 0 = .ok (.aload_n 0, 1) := by decide +kernel
theorem dX11_share_1 : decode cX11_share 1 = .ok (.getfield 64, 3) := by decide +kernel
theorem dX11_share_4 : decode cX11_share 4 = .ok (.ifCond .ne 6, 3) := by decide +kernel
theorem dX11_share_7 : decode cX11_share 7 = .ok (.bipush (-6), 2) := by decide +kernel
theorem dX11_share_9 : decode cX11_share 9 = .ok (.ireturn, 1) := by decide +kernel
theorem dX11_share_10 : decode cX11_share 10 = .ok (.aload_n 0, 1) := by decide +kernel
theorem dX11_share_11 : decode cX11_share 11 = .ok (.iload_n 1, 1) := by decide +kernel
theorem dX11_share_12 : decode cX11_share 12 = .ok (.lload_n 2, 1) := by decide +kernel
theorem dX11_share_13 : decode cX11_share 13 = .ok (.invokevirtual 153, 3) := by decide +kernel
theorem dX11_share_16 : decode cX11_share 16 = .ok (.istore 6, 2) := by decide +kernel
theorem dX11_share_18 : decode cX11_share 18 = .ok (.iload 6, 2) := by decide +kernel
theorem dX11_share_20 : decode cX11_share 20 = .ok (.ifCond .eq 6, 3) := by decide +kernel
theorem dX11_share_23 : decode cX11_share 23 = .ok (.iload 6, 2) := by decide +kernel
theorem dX11_share_25 : decode cX11_share 25 = .ok (.ireturn, 1) := by decide +kernel
theorem dX11_share_26 : decode cX11_share 26 = .ok (.aload_n 0, 1) := by decide +kernel
theorem dX11_share_27 : decode cX11_share 27 = .ok (.iload_n 1, 1) := by decide +kernel
theorem dX11_share_28 : decode cX11_share 28 = .ok (.lload_n 2, 1) := by decide +kernel
theorem dX11_share_29 : decode cX11_share 29 = .ok (.invokevirtual 156, 3) := by decide +kernel
theorem dX11_share_32 : decode cX11_share 32 = .ok (.aload_n 0, 1) := by decide +kernel
theorem dX11_share_33 : decode cX11_share 33 = .ok (.aload_n 0, 1) := by decide +kernel
theorem dX11_share_34 : decode cX11_share 34 = .ok (.getfield 41, 3) := by decide +kernel
theorem dX11_share_37 : decode cX11_share 37 = .ok (.iload 4, 2) := by decide +kernel
theorem dX11_share_39 : decode cX11_share 39 = .ok (.iload 5, 2) := by decide +kernel
theorem dX11_share_41 : decode cX11_share 41 = .ok (.invokevirtual 129, 3) := by decide +kernel
theorem dX11_share_44 : decode cX11_share 44 = .ok (.ireturn, 1) := by decide +kernel
theorem dX11_sync_0 : decode cX11_sync 0 = .ok (.aload_n 0, 1) := by decide +kernel
theorem dX11_sync_1 : decode cX11_sync 1 = .ok (.getfield 64, 3) := by decide +kernel
theorem dX11_sync_4 : decode cX11_sync 4 = .ok (.ifCond .eq 13, 3) := by decide +kernel
theorem dX11_sync_7 : decode cX11_sync 7 = .ok (.aload_n 0, 1) := by decide +kernel
theorem dX11_sync_8 : decode cX11_sync 8 = .ok (.getfield 19, 3) := by decide +kernel
theorem dX11_sync_11 : decode cX11_sync 11 = .ok (.invokevirtual 159, 3) := by decide +kernel
theorem dX11_sync_14 : decode cX11_sync 14 = .ok (.goto 5, 3) := by decide +kernel
theorem dX11_sync_17 : decode cX11_sync 17 = .ok (.bipush (-6), 2) := by decide +kernel
theorem dX11_sync_19 : decode cX11_sync 19 = .ok (.ireturn, 1) := by decide +kernel
theorem dX11_crash_0 : decode cX11_crash 0 = .ok (.iload_n 1, 1) := by decide +kernel
theorem dX11_crash_1 : decode cX11_crash 1 = .ok (.ifCond .lt 14, 3) := by decide +kernel
theorem dX11_crash_4 : decode cX11_crash 4 = .ok (.iload_n 2, 1) := by decide +kernel
theorem dX11_crash_5 : decode cX11_crash 5 = .ok (.ifCond .lt 10, 3) := by decide +kernel
theorem dX11_crash_8 : decode cX11_crash 8 = .ok (.iload_n 2, 1) := by decide +kernel
theorem dX11_crash_9 : decode cX11_crash 9 = .ok (.sipush 255, 3) := by decide +kernel
theorem dX11_crash_12 : decode cX11_crash 12 = .ok (.if_icmp .le 6, 3) := by decide +kernel
theorem dX11_crash_15 : decode cX11_crash 15 = .ok (.bipush (-3), 2) := by decide +kernel
theorem dX11_crash_17 : decode cX11_crash 17 = .ok (.ireturn, 1) := by decide +kernel
theorem dX11_crash_18 : decode cX11_crash 18 = .ok (.aload_n 0, 1) := by decide +kernel
theorem dX11_crash_19 : decode cX11_crash 19 = .ok (.getfield 19, 3) := by decide +kernel
theorem dX11_crash_22 : decode cX11_crash 22 = .ok (.iload_n 1, 1) := by decide +kernel
theorem dX11_crash_23 : decode cX11_crash 23 = .ok (.iload_n 2, 1) := by decide +kernel
theorem dX11_crash_24 : decode cX11_crash 24 = .ok (.invokevirtual 163, 3) := by decide +kernel
theorem dX11_crash_27 : decode cX11_crash 27 = .ok (.aload_n 0, 1) := by decide +kernel
theorem dX11_crash_28 : decode cX11_crash 28 = .ok (.getfield 37, 3) := by decide +kernel
theorem dX11_crash_31 : decode cX11_crash 31 = .ok (.invokevirtual 126, 3) := by decide +kernel
theorem dX11_crash_34 : decode cX11_crash 34 = .ok (.aload_n 0, 1) := by decide +kernel
theorem dX11_crash_35 : decode cX11_crash 35 = .ok (.getfield 60, 3) := by decide +kernel
theorem dX11_crash_38 : decode cX11_crash 38 = .ok (.invokevirtual 167, 3) := by decide +kernel
theorem dX11_crash_41 : decode cX11_crash 41 = .ok (.aload_n 0, 1) := by decide +kernel
theorem dX11_crash_42 : decode cX11_crash 42 = .ok (.iconst 0, 1) := by decide +kernel
theorem dX11_crash_43 : decode cX11_crash 43 = .ok (.putfield 64, 3) := by decide +kernel
theorem dX11_crash_46 : decode cX11_crash 46 = .ok (.aload_n 0, 1) := by decide +kernel
theorem dX11_crash_47 : decode cX11_crash 47 = .ok (.getfield 19, 3) := by decide +kernel
theorem dX11_crash_50 : decode cX11_crash 50 = .ok (.getfield 168, 3) := by decide +kernel
theorem dX11_crash_53 : decode cX11_crash 53 = .ok (.ireturn, 1) := by decide +kernel
theorem dX11_recover_0 : decode cX11_recover 0 = .ok (.aload_n 0, 1) := by decide +kernel
theorem dX11_recover_1 : decode cX11_recover 1 = .ok (.getfield 64, 3) := by decide +kernel
theorem dX11_recover_4 : decode cX11_recover 4 = .ok (.ifCond .eq 6, 3) := by decide +kernel
theorem dX11_recover_7 : decode cX11_recover 7 = .ok (.bipush (-6), 2) := by decide +kernel
theorem dX11_recover_9 : decode cX11_recover 9 = .ok (.ireturn, 1) := by decide +kernel
theorem dX11_recover_10 : decode cX11_recover 10 = .ok (.aload_n 0, 1) := by decide +kernel
theorem dX11_recover_11 : decode cX11_recover 11 = .ok (.getfield 10, 3) := by decide +kernel
theorem dX11_recover_14 : decode cX11_recover 14 = .ok (.invokevirtual 169, 3) := by decide +kernel
theorem dX11_recover_17 : decode cX11_recover 17 = .ok (.iconst 0, 1) := by decide +kernel
theorem dX11_recover_18 : decode cX11_recover 18 = .ok (.istore_n 1, 1) := by decide +kernel
theorem dX11_recover_19 : decode cX11_recover 19 = .ok (.iconst 0, 1) := by decide +kernel
theorem dX11_recover_20 : decode cX11_recover 20 = .ok (.istore_n 2, 1) := by decide +kernel
theorem dX11_recover_21 : decode cX11_recover 21 = .ok (.aload_n 0, 1) := by decide +kernel
theorem dX11_recover_22 : decode cX11_recover 22 = .ok (.getfield 19, 3) := by decide +kernel
theorem dX11_recover_25 : decode cX11_recover 25 = .ok (.iload_n 1, 1) := by decide +kernel
theorem dX11_recover_26 : decode cX11_recover 26 = .ok (.invokevirtual 170, 3) := by decide +kernel
theorem dX11_recover_29 : decode cX11_recover 29 = .ok (.istore_n 3, 1) := by decide +kernel
theorem dX11_recover_30 : decode cX11_recover 30 = .ok (.iload_n 3, 1) := by decide +kernel
theorem dX11_recover_31 : decode cX11_recover 31 = .ok (.ifCond .le 41, 3) := by decide +kernel
theorem dX11_recover_34 : decode cX11_recover 34 = .ok (.iload_n 1, 1) := by decide +kernel
theorem dX11_recover_35 : decode cX11_recover 35 = .ok (.sipush 6000, 3) := by decide +kernel
theorem dX11_recover_38 : decode cX11_recover 38 = .ok (.if_icmp .ge 34, 3) := by decide +kernel
theorem dX11_recover_41 : decode cX11_recover 41 = .ok (.aload_n 0, 1) := by decide +kernel
theorem dX11_recover_42 : decode cX11_recover 42 = .ok (.getfield 28, 3) := by decide +kernel
theorem dX11_recover_45 : decode cX11_recover 45 = .ok (.iload_n 1, 1) := by decide +kernel
theorem dX11_recover_46 : decode cX11_recover 46 = .ok (.iload_n 3, 1) := by decide +kernel
theorem dX11_recover_47 : decode cX11_recover 47 = .ok (.invokevirtual 173, 3) := by decide +kernel
theorem dX11_recover_50 : decode cX11_recover 50 = .ok (.ifCond .eq 22, 3) := by decide +kernel
theorem dX11_recover_53 : decode cX11_recover 53 = .ok (.iload_n 1, 1) := by decide +kernel
theorem dX11_recover_54 : decode cX11_recover 54 = .ok (.iload_n 3, 1) := by decide +kernel
theorem dX11_recover_55 : decode cX11_recover 55 = .ok (.iadd, 1) := by decide +kernel
theorem dX11_recover_56 : decode cX11_recover 56 = .ok (.istore_n 1, 1) := by decide +kernel
theorem dX11_recover_57 : decode cX11_recover 57 = .ok (.iinc 2 1, 3) := by decide +kernel
theorem dX11_recover_60 : decode cX11_recover 60 = .ok (.aload_n 0, 1) := by decide +kernel
theorem dX11_recover_61 : decode cX11_recover 61 = .ok (.getfield 19, 3) := by decide +kernel
theorem dX11_recover_64 : decode cX11_recover 64 = .ok (.iload_n 1, 1) := by decide +kernel
theorem dX11_recover_65 : decode cX11_recover 65 = .ok (.invokevirtual 170, 3) := by decide +kernel
theorem dX11_recover_68 : decode cX11_recover 68 = .ok (.istore_n 3, 1) := by decide +kernel
theorem dX11_recover_69 : decode cX11_recover 69 = .ok (.goto (-39), 3) := by decide +kernel
theorem dX11_recover_72 : decode cX11_recover 72 = .ok (.aload_n 0, 1) := by decide +kernel
theorem dX11_recover_73 : decode cX11_recover 73 = .ok (.getfield 19, 3) := by decide +kernel
theorem dX11_recover_76 : decode cX11_recover 76 = .ok (.iload_n 1, 1) := by decide +kernel
theorem dX11_recover_77 : decode cX11_recover 77 = .ok (.iload_n 2, 1) := by decide +kernel
theorem dX11_recover_78 : decode cX11_recover 78 = .ok (.invokevirtual 177, 3) := by decide +kernel
theorem dX11_recover_81 : decode cX11_recover 81 = .ok (.aload_n 0, 1) := by decide +kernel
theorem dX11_recover_82 : decode cX11_recover 82 = .ok (.iconst 1, 1) := by decide +kernel
theorem dX11_recover_83 : decode cX11_recover 83 = .ok (.putfield 64, 3) := by decide +kernel
theorem dX11_recover_86 : decode cX11_recover 86 = .ok (.iload_n 2, 1) := by decide +kernel
theorem dX11_recover_87 : decode cX11_recover 87 = .ok (.ireturn, 1) := by decide +kernel
theorem dX11_byteAt_0 : decode cX11_byteAt 0 = .ok (.iload_n 1, 1) := by decide +kernel
theorem dX11_byteAt_1 : decode cX11_byteAt 1 = .ok (.ifCond .lt 28, 3) := by decide +kernel
theorem dX11_byteAt_4 : decode cX11_byteAt 4 = .ok (.iload_n 1, 1) := by decide +kernel
theorem dX11_byteAt_5 : decode cX11_byteAt 5 = .ok (.aload_n 0, 1) := by decide +kernel
theorem dX11_byteAt_6 : decode cX11_byteAt 6 = .ok (.getfield 19, 3) := by decide +kernel
theorem dX11_byteAt_9 : decode cX11_byteAt 9 = .ok (.getfield 168, 3) := by decide +kernel
theorem dX11_byteAt_12 : decode cX11_byteAt 12 = .ok (.if_icmp .ge 17, 3) := by decide +kernel
theorem dX11_byteAt_15 : decode cX11_byteAt 15 = .ok (.aload_n 0, 1) := by decide +kernel
theorem dX11_byteAt_16 : decode cX11_byteAt 16 = .ok (.getfield 19, 3) := by decide +kernel
theorem dX11_byteAt_19 : decode cX11_byteAt 19 = .ok (.getfield 180, 3) := by decide +kernel
theorem dX11_byteAt_22 : decode cX11_byteAt 22 = .ok (.iload_n 1, 1) := by decide +kernel
theorem dX11_byteAt_23 : decode cX11_byteAt 23 = .ok (.invokevirtual 184, 3) := by decide +kernel
theorem dX11_byteAt_26 : decode cX11_byteAt 26 = .ok (.goto 5, 3) := by decide +kernel
theorem dX11_byteAt_29 : decode cX11_byteAt 29 = .ok (.bipush (-2), 2) := by decide +kernel
theorem dX11_byteAt_31 : decode cX11_byteAt 31 = .ok (.ireturn, 1) := by decide +kernel
theorem dX11_of_0 : decode cX11_of 0 = .ok (.aload_n 0, 1) := by decide +kernel
theorem dX11_of_1 : decode cX11_of 1 = .ok (.getfield 64, 3) := by decide +kernel
theorem dX11_of_4 : decode cX11_of 4 = .ok (.ifCond .ne 6, 3) := by decide +kernel
theorem dX11_of_7 : decode cX11_of 7 = .ok (.bipush (-6), 2) := by decide +kernel
theorem dX11_of_9 : decode cX11_of 9 = .ok (.ireturn, 1) := by decide +kernel
theorem dX11_of_10 : decode cX11_of 10 = .ok (.aload_n 0, 1) := by decide +kernel
theorem dX11_of_11 : decode cX11_of 11 = .ok (.getfield 10, 3) := by decide +kernel
theorem dX11_of_14 : decode cX11_of 14 = .ok (.getfield 53, 3) := by decide +kernel
theorem dX11_of_17 : decode cX11_of 17 = .ok (.iload_n 1, 1) := by decide +kernel
theorem dX11_of_18 : decode cX11_of 18 = .ok (.invokevirtual 189, 3) := by decide +kernel
theorem dX11_of_21 : decode cX11_of 21 = .ok (.ifCond .eq 18, 3) := by decide +kernel
theorem dX11_of_24 : decode cX11_of 24 = .ok (.aload_n 0, 1) := by decide +kernel
theorem dX11_of_25 : decode cX11_of 25 = .ok (.getfield 10, 3) := by decide +kernel
theorem dX11_of_28 : decode cX11_of 28 = .ok (.getfield 53, 3) := by decide +kernel
theorem dX11_of_31 : decode cX11_of 31 = .ok (.iload_n 1, 1) := by decide +kernel
theorem dX11_of_32 : decode cX11_of 32 = .ok (.iload_n 2, 1) := by decide +kernel
theorem dX11_of_33 : decode cX11_of 33 = .ok (.invokevirtual 193, 3) := by decide +kernel
theorem dX11_of_36 : decode cX11_of 36 = .ok (.goto 5, 3) := by decide +kernel
theorem dX11_of_39 : decode cX11_of 39 = .ok (.bipush (-2), 2) := by decide +kernel
theorem dX11_of_41 : decode cX11_of 41 = .ok (.ireturn, 1) := by decide +kernel
theorem dX11_balance_0 : decode cX11_balance 0 = .ok (.aload_n 0, 1) := by decide +kernel
theorem dX11_balance_1 : decode cX11_balance 1 = .ok (.getfield 64, 3) := by decide +kernel
theorem dX11_balance_4 : decode cX11_balance 4 = .ok (.ifCond .eq 17, 3) := by decide +kernel
theorem dX11_balance_7 : decode cX11_balance 7 = .ok (.aload_n 0, 1) := by decide +kernel
theorem dX11_balance_8 : decode cX11_balance 8 = .ok (.getfield 10, 3) := by decide +kernel
theorem dX11_balance_11 : decode cX11_balance 11 = .ok (.getfield 53, 3) := by decide +kernel
theorem dX11_balance_14 : decode cX11_balance 14 = .ok (.iload_n 1, 1) := by decide +kernel
theorem dX11_balance_15 : decode cX11_balance 15 = .ok (.invokevirtual 189, 3) := by decide +kernel
theorem dX11_balance_18 : decode cX11_balance 18 = .ok (.ifCond .ne 7, 3) := by decide +kernel
theorem dX11_balance_21 : decode cX11_balance 21 = .ok (.ldc2_w 197, 3) := by decide +kernel
theorem dX11_balance_24 : decode cX11_balance 24 = .ok (.lreturn, 1) := by decide +kernel
theorem dX11_balance_25 : decode cX11_balance 25 = .ok (.aload_n 0, 1) := by decide +kernel
theorem dX11_balance_26 : decode cX11_balance 26 = .ok (.getfield 10, 3) := by decide +kernel
theorem dX11_balance_29 : decode cX11_balance 29 = .ok (.getfield 53, 3) := by decide +kernel
theorem dX11_balance_32 : decode cX11_balance 32 = .ok (.iload_n 1, 1) := by decide +kernel
theorem dX11_balance_33 : decode cX11_balance 33 = .ok (.aload_n 0, 1) := by decide +kernel
theorem dX11_balance_34 : decode cX11_balance 34 = .ok (.getfield 10, 3) := by decide +kernel
theorem dX11_balance_37 : decode cX11_balance 37 = .ok (.getfield 53, 3) := by decide +kernel
theorem dX11_balance_40 : decode cX11_balance 40 = .ok (.getfield 199, 3) := by decide +kernel
theorem dX11_balance_43 : decode cX11_balance 43 = .ok (.invokevirtual 203, 3) := by decide +kernel
theorem dX11_balance_46 : decode cX11_balance 46 = .ok (.lreturn, 1) := by decide +kernel
theorem dX11_sum_0 : decode cX11_sum 0 = .ok (.aload_n 0, 1) := by decide +kernel
theorem dX11_sum_1 : decode cX11_sum 1 = .ok (.getfield 64, 3) := by decide +kernel
theorem dX11_sum_4 : decode cX11_sum 4 = .ok (.ifCond .eq 17, 3) := by decide +kernel
theorem dX11_sum_7 : decode cX11_sum 7 = .ok (.aload_n 0, 1) := by decide +kernel
theorem dX11_sum_8 : decode cX11_sum 8 = .ok (.getfield 10, 3) := by decide +kernel
theorem dX11_sum_11 : decode cX11_sum 11 = .ok (.getfield 53, 3) := by decide +kernel
theorem dX11_sum_14 : decode cX11_sum 14 = .ok (.iload_n 1, 1) := by decide +kernel
theorem dX11_sum_15 : decode cX11_sum 15 = .ok (.invokevirtual 189, 3) := by decide +kernel
theorem dX11_sum_18 : decode cX11_sum 18 = .ok (.ifCond .ne 7, 3) := by decide +kernel
theorem dX11_sum_21 : decode cX11_sum 21 = .ok (.ldc2_w 197, 3) := by decide +kernel
theorem dX11_sum_24 : decode cX11_sum 24 = .ok (.lreturn, 1) := by decide +kernel
theorem dX11_sum_25 : decode cX11_sum 25 = .ok (.aload_n 0, 1) := by decide +kernel
theorem dX11_sum_26 : decode cX11_sum 26 = .ok (.getfield 10, 3) := by decide +kernel
theorem dX11_sum_29 : decode cX11_sum 29 = .ok (.iload_n 1, 1) := by decide +kernel
theorem dX11_sum_30 : decode cX11_sum 30 = .ok (.iload_n 2, 1) := by decide +kernel
theorem dX11_sum_31 : decode cX11_sum 31 = .ok (.iload_n 3, 1) := by decide +kernel
theorem dX11_sum_32 : decode cX11_sum 32 = .ok (.invokevirtual 207, 3) := by decide +kernel
theorem dX11_sum_35 : decode cX11_sum 35 = .ok (.lreturn, 1) := by decide +kernel
theorem dX11_entry_0 : decode cX11_entry 0 = .ok (.aload_n 0, 1) := by decide +kernel
theorem dX11_entry_1 : decode cX11_entry 1 = .ok (.getfield 64, 3) := by decide +kernel
theorem dX11_entry_4 : decode cX11_entry 4 = .ok (.ifCond .ne 6, 3) := by decide +kernel
theorem dX11_entry_7 : decode cX11_entry 7 = .ok (.bipush (-6), 2) := by decide +kernel
theorem dX11_entry_9 : decode cX11_entry 9 = .ok (.ireturn, 1) := by decide +kernel
theorem dX11_entry_10 : decode cX11_entry 10 = .ok (.aload_n 0, 1) := by decide +kernel
theorem dX11_entry_11 : decode cX11_entry 11 = .ok (.getfield 10, 3) := by decide +kernel
theorem dX11_entry_14 : decode cX11_entry 14 = .ok (.getfield 211, 3) := by decide +kernel
theorem dX11_entry_17 : decode cX11_entry 17 = .ok (.iload_n 1, 1) := by decide +kernel
theorem dX11_entry_18 : decode cX11_entry 18 = .ok (.invokevirtual 215, 3) := by decide +kernel
theorem dX11_entry_21 : decode cX11_entry 21 = .ok (.ifCond .eq 18, 3) := by decide +kernel
theorem dX11_entry_24 : decode cX11_entry 24 = .ok (.aload_n 0, 1) := by decide +kernel
theorem dX11_entry_25 : decode cX11_entry 25 = .ok (.getfield 10, 3) := by decide +kernel
theorem dX11_entry_28 : decode cX11_entry 28 = .ok (.getfield 211, 3) := by decide +kernel
theorem dX11_entry_31 : decode cX11_entry 31 = .ok (.iload_n 1, 1) := by decide +kernel
theorem dX11_entry_32 : decode cX11_entry 32 = .ok (.iload_n 2, 1) := by decide +kernel
theorem dX11_entry_33 : decode cX11_entry 33 = .ok (.invokevirtual 218, 3) := by decide +kernel
theorem dX11_entry_36 : decode cX11_entry 36 = .ok (.goto 5, 3) := by decide +kernel
theorem dX11_entry_39 : decode cX11_entry 39 = .ok (.bipush (-2), 2) := by decide +kernel
theorem dX11_entry_41 : decode cX11_entry 41 = .ok (.ireturn, 1) := by decide +kernel
theorem dX11_lineOf_0 : decode cX11_lineOf 0 = .ok (.aload_n 0, 1) := by decide +kernel
theorem dX11_lineOf_1 : decode cX11_lineOf 1 = .ok (.getfield 64, 3) := by decide +kernel
theorem dX11_lineOf_4 : decode cX11_lineOf 4 = .ok (.ifCond .eq 39, 3) := by decide +kernel
theorem dX11_lineOf_7 : decode cX11_lineOf 7 = .ok (.aload_n 0, 1) := by decide +kernel
theorem dX11_lineOf_8 : decode cX11_lineOf 8 = .ok (.getfield 10, 3) := by decide +kernel
theorem dX11_lineOf_11 : decode cX11_lineOf 11 = .ok (.getfield 211, 3) := by decide +kernel
theorem dX11_lineOf_14 : decode cX11_lineOf 14 = .ok (.iload_n 1, 1) := by decide +kernel
theorem dX11_lineOf_15 : decode cX11_lineOf 15 = .ok (.invokevirtual 215, 3) := by decide +kernel
theorem dX11_lineOf_18 : decode cX11_lineOf 18 = .ok (.ifCond .eq 25, 3) := by decide +kernel
theorem dX11_lineOf_21 : decode cX11_lineOf 21 = .ok (.iload_n 2, 1) := by decide +kernel
theorem dX11_lineOf_22 : decode cX11_lineOf 22 = .ok (.ifCond .lt 21, 3) := by decide +kernel
theorem dX11_lineOf_25 : decode cX11_lineOf 25 = .ok (.iload_n 2, 1) := by decide +kernel
theorem dX11_lineOf_26 : decode cX11_lineOf 26 = .ok (.aload_n 0, 1) := by decide +kernel
theorem dX11_lineOf_27 : decode cX11_lineOf 27 = .ok (.getfield 10, 3) := by decide +kernel
theorem dX11_lineOf_30 : decode cX11_lineOf 30 = .ok (.getfield 211, 3) := by decide +kernel
theorem dX11_lineOf_33 : decode cX11_lineOf 33 = .ok (.getfield 219, 3) := by decide +kernel
theorem dX11_lineOf_36 : decode cX11_lineOf 36 = .ok (.iload_n 1, 1) := by decide +kernel
theorem dX11_lineOf_37 : decode cX11_lineOf 37 = .ok (.invokevirtual 184, 3) := by decide +kernel
theorem dX11_lineOf_40 : decode cX11_lineOf 40 = .ok (.if_icmp .lt 7, 3) := by decide +kernel
theorem dX11_lineOf_43 : decode cX11_lineOf 43 = .ok (.ldc2_w 197, 3) := by decide +kernel
theorem dX11_lineOf_46 : decode cX11_lineOf 46 = .ok (.lreturn, 1) := by decide +kernel
theorem dX11_lineOf_47 : decode cX11_lineOf 47 = .ok (.iload_n 3, 1) := by decide +kernel
theorem dX11_lineOf_48 : decode cX11_lineOf 48 = .ok (.lookupswitch 55 #[(0, 28), (1, 42)], 28) := by decide +kernel
theorem dX11_lineOf_76 : decode cX11_lineOf 76 = .ok (.aload_n 0, 1) := by decide +kernel
theorem dX11_lineOf_77 : decode cX11_lineOf 77 = .ok (.getfield 10, 3) := by decide +kernel
theorem dX11_lineOf_80 : decode cX11_lineOf 80 = .ok (.getfield 211, 3) := by decide +kernel
theorem dX11_lineOf_83 : decode cX11_lineOf 83 = .ok (.iload_n 1, 1) := by decide +kernel
theorem dX11_lineOf_84 : decode cX11_lineOf 84 = .ok (.iload_n 2, 1) := by decide +kernel
theorem dX11_lineOf_85 : decode cX11_lineOf 85 = .ok (.invokevirtual 222, 3) := by decide +kernel
theorem dX11_lineOf_88 : decode cX11_lineOf 88 = .ok (.i2l, 1) := by decide +kernel
theorem dX11_lineOf_89 : decode cX11_lineOf 89 = .ok (.lreturn, 1) := by decide +kernel
theorem dX11_lineOf_90 : decode cX11_lineOf 90 = .ok (.aload_n 0, 1) := by decide +kernel
theorem dX11_lineOf_91 : decode cX11_lineOf 91 = .ok (.getfield 10, 3) := by decide +kernel
theorem dX11_lineOf_94 : decode cX11_lineOf 94 = .ok (.getfield 211, 3) := by decide +kernel
theorem dX11_lineOf_97 : decode cX11_lineOf 97 = .ok (.iload_n 1, 1) := by decide +kernel
theorem dX11_lineOf_98 : decode cX11_lineOf 98 = .ok (.iload_n 2, 1) := by decide +kernel
theorem dX11_lineOf_99 : decode cX11_lineOf 99 = .ok (.invokevirtual 225, 3) := by decide +kernel
theorem dX11_lineOf_102 : decode cX11_lineOf 102 = .ok (.lreturn, 1) := by decide +kernel
theorem dX11_lineOf_103 : decode cX11_lineOf 103 = .ok (.ldc2_w 197, 3) := by decide +kernel
theorem dX11_lineOf_106 : decode cX11_lineOf 106 = .ok (.lreturn, 1) := by decide +kernel
theorem dX11_ledger_0 : decode cX11_ledger 0 = .ok (.aload_n 0, 1) := by decide +kernel
theorem dX11_ledger_1 : decode cX11_ledger 1 = .ok (.getfield 64, 3) := by decide +kernel
theorem dX11_ledger_4 : decode cX11_ledger 4 = .ok (.ifCond .eq 39, 3) := by decide +kernel
theorem dX11_ledger_7 : decode cX11_ledger 7 = .ok (.aload_n 0, 1) := by decide +kernel
theorem dX11_ledger_8 : decode cX11_ledger 8 = .ok (.getfield 10, 3) := by decide +kernel
theorem dX11_ledger_11 : decode cX11_ledger 11 = .ok (.getfield 53, 3) := by decide +kernel
theorem dX11_ledger_14 : decode cX11_ledger 14 = .ok (.iload_n 1, 1) := by decide +kernel
theorem dX11_ledger_15 : decode cX11_ledger 15 = .ok (.invokevirtual 229, 3) := by decide +kernel
theorem dX11_ledger_18 : decode cX11_ledger 18 = .ok (.ifCond .eq 25, 3) := by decide +kernel
theorem dX11_ledger_21 : decode cX11_ledger 21 = .ok (.iload_n 2, 1) := by decide +kernel
theorem dX11_ledger_22 : decode cX11_ledger 22 = .ok (.ifCond .lt 21, 3) := by decide +kernel
theorem dX11_ledger_25 : decode cX11_ledger 25 = .ok (.iload_n 2, 1) := by decide +kernel
theorem dX11_ledger_26 : decode cX11_ledger 26 = .ok (.aload_n 0, 1) := by decide +kernel
theorem dX11_ledger_27 : decode cX11_ledger 27 = .ok (.getfield 10, 3) := by decide +kernel
theorem dX11_ledger_30 : decode cX11_ledger 30 = .ok (.getfield 53, 3) := by decide +kernel
theorem dX11_ledger_33 : decode cX11_ledger 33 = .ok (.getfield 232, 3) := by decide +kernel
theorem dX11_ledger_36 : decode cX11_ledger 36 = .ok (.iload_n 1, 1) := by decide +kernel
theorem dX11_ledger_37 : decode cX11_ledger 37 = .ok (.invokevirtual 184, 3) := by decide +kernel
theorem dX11_ledger_40 : decode cX11_ledger 40 = .ok (.if_icmp .lt 7, 3) := by decide +kernel
theorem dX11_ledger_43 : decode cX11_ledger 43 = .ok (.ldc2_w 197, 3) := by decide +kernel
theorem dX11_ledger_46 : decode cX11_ledger 46 = .ok (.lreturn, 1) := by decide +kernel
theorem dX11_ledger_47 : decode cX11_ledger 47 = .ok (.aload_n 0, 1) := by decide +kernel
theorem dX11_ledger_48 : decode cX11_ledger 48 = .ok (.getfield 10, 3) := by decide +kernel
theorem dX11_ledger_51 : decode cX11_ledger 51 = .ok (.getfield 211, 3) := by decide +kernel
theorem dX11_ledger_54 : decode cX11_ledger 54 = .ok (.iload_n 1, 1) := by decide +kernel
theorem dX11_ledger_55 : decode cX11_ledger 55 = .ok (.iload_n 2, 1) := by decide +kernel
theorem dX11_ledger_56 : decode cX11_ledger 56 = .ok (.iload_n 3, 1) := by decide +kernel
theorem dX11_ledger_57 : decode cX11_ledger 57 = .ok (.invokevirtual 233, 3) := by decide +kernel
theorem dX11_ledger_60 : decode cX11_ledger 60 = .ok (.lreturn, 1) := by decide +kernel
theorem dX11_periodOf_0 : decode cX11_periodOf 0 = .ok (.aload_n 0, 1) := by decide +kernel
theorem dX11_periodOf_1 : decode cX11_periodOf 1 = .ok (.getfield 64, 3) := by decide +kernel
theorem dX11_periodOf_4 : decode cX11_periodOf 4 = .ok (.ifCond .ne 6, 3) := by decide +kernel
theorem dX11_periodOf_7 : decode cX11_periodOf 7 = .ok (.bipush (-6), 2) := by decide +kernel
theorem dX11_periodOf_9 : decode cX11_periodOf 9 = .ok (.ireturn, 1) := by decide +kernel
theorem dX11_periodOf_10 : decode cX11_periodOf 10 = .ok (.aload_n 0, 1) := by decide +kernel
theorem dX11_periodOf_11 : decode cX11_periodOf 11 = .ok (.getfield 10, 3) := by decide +kernel
theorem dX11_periodOf_14 : decode cX11_periodOf 14 = .ok (.getfield 101, 3) := by decide +kernel
theorem dX11_periodOf_17 : decode cX11_periodOf 17 = .ok (.iload_n 1, 1) := by decide +kernel
theorem dX11_periodOf_18 : decode cX11_periodOf 18 = .ok (.invokevirtual 236, 3) := by decide +kernel
theorem dX11_periodOf_21 : decode cX11_periodOf 21 = .ok (.ifCond .eq 18, 3) := by decide +kernel
theorem dX11_periodOf_24 : decode cX11_periodOf 24 = .ok (.aload_n 0, 1) := by decide +kernel
theorem dX11_periodOf_25 : decode cX11_periodOf 25 = .ok (.getfield 10, 3) := by decide +kernel
theorem dX11_periodOf_28 : decode cX11_periodOf 28 = .ok (.getfield 101, 3) := by decide +kernel
theorem dX11_periodOf_31 : decode cX11_periodOf 31 = .ok (.iload_n 1, 1) := by decide +kernel
theorem dX11_periodOf_32 : decode cX11_periodOf 32 = .ok (.iload_n 2, 1) := by decide +kernel
theorem dX11_periodOf_33 : decode cX11_periodOf 33 = .ok (.invokevirtual 237, 3) := by decide +kernel
theorem dX11_periodOf_36 : decode cX11_periodOf 36 = .ok (.goto 5, 3) := by decide +kernel
theorem dX11_periodOf_39 : decode cX11_periodOf 39 = .ok (.bipush (-2), 2) := by decide +kernel
theorem dX11_periodOf_41 : decode cX11_periodOf 41 = .ok (.ireturn, 1) := by decide +kernel
theorem dX11_sheet_0 : decode cX11_sheet 0 = .ok (.aload_n 0, 1) := by decide +kernel
theorem dX11_sheet_1 : decode cX11_sheet 1 = .ok (.getfield 64, 3) := by decide +kernel
theorem dX11_sheet_4 : decode cX11_sheet 4 = .ok (.ifCond .ne 6, 3) := by decide +kernel
theorem dX11_sheet_7 : decode cX11_sheet 7 = .ok (.bipush (-6), 2) := by decide +kernel
theorem dX11_sheet_9 : decode cX11_sheet 9 = .ok (.ireturn, 1) := by decide +kernel
theorem dX11_sheet_10 : decode cX11_sheet 10 = .ok (.iload_n 1, 1) := by decide +kernel
theorem dX11_sheet_11 : decode cX11_sheet 11 = .ok (.ifCond .lt 8, 3) := by decide +kernel
theorem dX11_sheet_14 : decode cX11_sheet 14 = .ok (.iload_n 1, 1) := by decide +kernel
theorem dX11_sheet_15 : decode cX11_sheet 15 = .ok (.iconst 3, 1) := by decide +kernel
theorem dX11_sheet_16 : decode cX11_sheet 16 = .ok (.if_icmp .lt 6, 3) := by decide +kernel
theorem dX11_sheet_19 : decode cX11_sheet 19 = .ok (.bipush (-3), 2) := by decide +kernel
theorem dX11_sheet_21 : decode cX11_sheet 21 = .ok (.ireturn, 1) := by decide +kernel
theorem dX11_sheet_22 : decode cX11_sheet 22 = .ok (.aload_n 0, 1) := by decide +kernel
theorem dX11_sheet_23 : decode cX11_sheet 23 = .ok (.getfield 60, 3) := by decide +kernel
theorem dX11_sheet_26 : decode cX11_sheet 26 = .ok (.iload_n 1, 1) := by decide +kernel
theorem dX11_sheet_27 : decode cX11_sheet 27 = .ok (.invokevirtual 238, 3) := by decide +kernel
theorem dX11_sheet_30 : decode cX11_sheet 30 = .ok (.ifCond .eq 13, 3) := by decide +kernel
theorem dX11_sheet_33 : decode cX11_sheet 33 = .ok (.aload_n 0, 1) := by decide +kernel
theorem dX11_sheet_34 : decode cX11_sheet 34 = .ok (.getfield 60, 3) := by decide +kernel
theorem dX11_sheet_37 : decode cX11_sheet 37 = .ok (.getfield 240, 3) := by decide +kernel
theorem dX11_sheet_40 : decode cX11_sheet 40 = .ok (.goto 5, 3) := by decide +kernel
theorem dX11_sheet_43 : decode cX11_sheet 43 = .ok (.bipush (-13), 2) := by decide +kernel
theorem dX11_sheet_45 : decode cX11_sheet 45 = .ok (.ireturn, 1) := by decide +kernel
theorem dX11_shown_0 : decode cX11_shown 0 = .ok (.aload_n 0, 1) := by decide +kernel
theorem dX11_shown_1 : decode cX11_shown 1 = .ok (.getfield 64, 3) := by decide +kernel
theorem dX11_shown_4 : decode cX11_shown 4 = .ok (.ifCond .ne 6, 3) := by decide +kernel
theorem dX11_shown_7 : decode cX11_shown 7 = .ok (.bipush (-6), 2) := by decide +kernel
theorem dX11_shown_9 : decode cX11_shown 9 = .ok (.ireturn, 1) := by decide +kernel
theorem dX11_shown_10 : decode cX11_shown 10 = .ok (.iload_n 1, 1) := by decide +kernel
theorem dX11_shown_11 : decode cX11_shown 11 = .ok (.ifCond .lt 28, 3) := by decide +kernel
theorem dX11_shown_14 : decode cX11_shown 14 = .ok (.iload_n 1, 1) := by decide +kernel
theorem dX11_shown_15 : decode cX11_shown 15 = .ok (.aload_n 0, 1) := by decide +kernel
theorem dX11_shown_16 : decode cX11_shown 16 = .ok (.getfield 60, 3) := by decide +kernel
theorem dX11_shown_19 : decode cX11_shown 19 = .ok (.getfield 240, 3) := by decide +kernel
theorem dX11_shown_22 : decode cX11_shown 22 = .ok (.if_icmp .ge 17, 3) := by decide +kernel
theorem dX11_shown_25 : decode cX11_shown 25 = .ok (.aload_n 0, 1) := by decide +kernel
theorem dX11_shown_26 : decode cX11_shown 26 = .ok (.getfield 60, 3) := by decide +kernel
theorem dX11_shown_29 : decode cX11_shown 29 = .ok (.getfield 241, 3) := by decide +kernel
theorem dX11_shown_32 : decode cX11_shown 32 = .ok (.iload_n 1, 1) := by decide +kernel
theorem dX11_shown_33 : decode cX11_shown 33 = .ok (.invokevirtual 184, 3) := by decide +kernel
theorem dX11_shown_36 : decode cX11_shown 36 = .ok (.goto 5, 3) := by decide +kernel
theorem dX11_shown_39 : decode cX11_shown 39 = .ok (.bipush (-2), 2) := by decide +kernel
theorem dX11_shown_41 : decode cX11_shown 41 = .ok (.ireturn, 1) := by decide +kernel
theorem dX11_part_0 : decode cX11_part 0 = .ok (.iload 7, 2) := by decide +kernel
theorem dX11_part_2 : decode cX11_part 2 = .ok (.ifCond .lt 19, 3) := by decide +kernel
theorem dX11_part_5 : decode cX11_part 5 = .ok (.iload 7, 2) := by decide +kernel
theorem dX11_part_7 : decode cX11_part 7 = .ok (.iconst 4, 1) := by decide +kernel
theorem dX11_part_8 : decode cX11_part 8 = .ok (.if_icmp .ge 13, 3) := by decide +kernel
theorem dX11_part_11 : decode cX11_part 11 = .ok (.lload_n 1, 1) := by decide +kernel
theorem dX11_part_12 : decode cX11_part 12 = .ok (.ldc2_w 242, 3) := by decide +kernel
theorem dX11_part_15 : decode cX11_part 15 = .ok (.invokestatic 244, 3) := by decide +kernel
theorem dX11_part_18 : decode cX11_part 18 = .ok (.ifCond .ne 7, 3) := by decide +kernel
theorem dX11_part_21 : decode cX11_part 21 = .ok (.ldc2_w 197, 3) := by decide +kernel
theorem dX11_part_24 : decode cX11_part 24 = .ok (.lreturn, 1) := by decide +kernel
theorem dX11_part_25 : decode cX11_part 25 = .ok (.iload_n 3, 1) := by decide +kernel
theorem dX11_part_26 : decode cX11_part 26 = .ok (.invokestatic 248, 3) := by decide +kernel
theorem dX11_part_29 : decode cX11_part 29 = .ok (.ifCond .eq 27, 3) := by decide +kernel
theorem dX11_part_32 : decode cX11_part 32 = .ok (.iload 4, 2) := by decide +kernel
theorem dX11_part_34 : decode cX11_part 34 = .ok (.invokestatic 248, 3) := by decide +kernel
theorem dX11_part_37 : decode cX11_part 37 = .ok (.ifCond .eq 19, 3) := by decide +kernel
theorem dX11_part_40 : decode cX11_part 40 = .ok (.iload 5, 2) := by decide +kernel
theorem dX11_part_42 : decode cX11_part 42 = .ok (.invokestatic 248, 3) := by decide +kernel
theorem dX11_part_45 : decode cX11_part 45 = .ok (.ifCond .eq 11, 3) := by decide +kernel
theorem dX11_part_48 : decode cX11_part 48 = .ok (.iload 6, 2) := by decide +kernel
theorem dX11_part_50 : decode cX11_part 50 = .ok (.invokestatic 248, 3) := by decide +kernel
theorem dX11_part_53 : decode cX11_part 53 = .ok (.ifCond .ne 7, 3) := by decide +kernel
theorem dX11_part_56 : decode cX11_part 56 = .ok (.ldc2_w 197, 3) := by decide +kernel
theorem dX11_part_59 : decode cX11_part 59 = .ok (.lreturn, 1) := by decide +kernel
theorem dX11_part_60 : decode cX11_part 60 = .ok (.aload_n 0, 1) := by decide +kernel
theorem dX11_part_61 : decode cX11_part 61 = .ok (.getfield 47, 3) := by decide +kernel
theorem dX11_part_64 : decode cX11_part 64 = .ok (.invokevirtual 251, 3) := by decide +kernel
theorem dX11_part_67 : decode cX11_part 67 = .ok (.aload_n 0, 1) := by decide +kernel
theorem dX11_part_68 : decode cX11_part 68 = .ok (.getfield 47, 3) := by decide +kernel
theorem dX11_part_71 : decode cX11_part 71 = .ok (.iload_n 3, 1) := by decide +kernel
theorem dX11_part_72 : decode cX11_part 72 = .ok (.invokevirtual 252, 3) := by decide +kernel
theorem dX11_part_75 : decode cX11_part 75 = .ok (.aload_n 0, 1) := by decide +kernel
theorem dX11_part_76 : decode cX11_part 76 = .ok (.getfield 47, 3) := by decide +kernel
theorem dX11_part_79 : decode cX11_part 79 = .ok (.iload 4, 2) := by decide +kernel
theorem dX11_part_81 : decode cX11_part 81 = .ok (.invokevirtual 252, 3) := by decide +kernel
theorem dX11_part_84 : decode cX11_part 84 = .ok (.aload_n 0, 1) := by decide +kernel
theorem dX11_part_85 : decode cX11_part 85 = .ok (.getfield 47, 3) := by decide +kernel
theorem dX11_part_88 : decode cX11_part 88 = .ok (.iload 5, 2) := by decide +kernel
theorem dX11_part_90 : decode cX11_part 90 = .ok (.invokevirtual 252, 3) := by decide +kernel
theorem dX11_part_93 : decode cX11_part 93 = .ok (.aload_n 0, 1) := by decide +kernel
theorem dX11_part_94 : decode cX11_part 94 = .ok (.getfield 47, 3) := by decide +kernel
theorem dX11_part_97 : decode cX11_part 97 = .ok (.iload 6, 2) := by decide +kernel
theorem dX11_part_99 : decode cX11_part 99 = .ok (.invokevirtual 252, 3) := by decide +kernel
theorem dX11_part_102 : decode cX11_part 102 = .ok (.aload_n 0, 1) := by decide +kernel
theorem dX11_part_103 : decode cX11_part 103 = .ok (.getfield 47, 3) := by decide +kernel
theorem dX11_part_106 : decode cX11_part 106 = .ok (.lload_n 1, 1) := by decide +kernel
theorem dX11_part_107 : decode cX11_part 107 = .ok (.invokevirtual 254, 3) := by decide +kernel
theorem dX11_part_110 : decode cX11_part 110 = .ok (.ifCond .eq 18, 3) := by decide +kernel
theorem dX11_part_113 : decode cX11_part 113 = .ok (.aload_n 0, 1) := by decide +kernel
theorem dX11_part_114 : decode cX11_part 114 = .ok (.getfield 47, 3) := by decide +kernel
theorem dX11_part_117 : decode cX11_part 117 = .ok (.getfield 258, 3) := by decide +kernel
theorem dX11_part_120 : decode cX11_part 120 = .ok (.iload 7, 2) := by decide +kernel
theorem dX11_part_122 : decode cX11_part 122 = .ok (.invokevirtual 261, 3) := by decide +kernel
theorem dX11_part_125 : decode cX11_part 125 = .ok (.goto 6, 3) := by decide +kernel
theorem dX11_part_128 : decode cX11_part 128 = .ok (.ldc2_w 197, 3) := by decide +kernel
theorem dX11_part_131 : decode cX11_part 131 = .ok (.lreturn, 1) := by decide +kernel
theorem dX11_count_0 : decode cX11_count 0 = .ok (.iload_n 1, 1) := by decide +kernel
theorem dX11_count_1 : decode cX11_count 1 = .ok (.tableswitch 84 5 10 #[39, 47, 55, 84, 63, 71], 39) := by decide +kernel
theorem dX11_count_40 : decode cX11_count 40 = .ok (.aload_n 0, 1) := by decide +kernel
theorem dX11_count_41 : decode cX11_count 41 = .ok (.getfield 19, 3) := by decide +kernel
theorem dX11_count_44 : decode cX11_count 44 = .ok (.getfield 168, 3) := by decide +kernel
theorem dX11_count_47 : decode cX11_count 47 = .ok (.ireturn, 1) := by decide +kernel
theorem dX11_count_48 : decode cX11_count 48 = .ok (.aload_n 0, 1) := by decide +kernel
theorem dX11_count_49 : decode cX11_count 49 = .ok (.getfield 19, 3) := by decide +kernel
theorem dX11_count_52 : decode cX11_count 52 = .ok (.getfield 266, 3) := by decide +kernel
theorem dX11_count_55 : decode cX11_count 55 = .ok (.ireturn, 1) := by decide +kernel
theorem dX11_count_56 : decode cX11_count 56 = .ok (.aload_n 0, 1) := by decide +kernel
theorem dX11_count_57 : decode cX11_count 57 = .ok (.getfield 19, 3) := by decide +kernel
theorem dX11_count_60 : decode cX11_count 60 = .ok (.getfield 269, 3) := by decide +kernel
theorem dX11_count_63 : decode cX11_count 63 = .ok (.ireturn, 1) := by decide +kernel
theorem dX11_count_64 : decode cX11_count 64 = .ok (.aload_n 0, 1) := by decide +kernel
theorem dX11_count_65 : decode cX11_count 65 = .ok (.getfield 60, 3) := by decide +kernel
theorem dX11_count_68 : decode cX11_count 68 = .ok (.getfield 240, 3) := by decide +kernel
theorem dX11_count_71 : decode cX11_count 71 = .ok (.ireturn, 1) := by decide +kernel
theorem dX11_count_72 : decode cX11_count 72 = .ok (.aload_n 0, 1) := by decide +kernel
theorem dX11_count_73 : decode cX11_count 73 = .ok (.getfield 64, 3) := by decide +kernel
theorem dX11_count_76 : decode cX11_count 76 = .ok (.ifCond .eq 7, 3) := by decide +kernel
theorem dX11_count_79 : decode cX11_count 79 = .ok (.iconst 1, 1) := by decide +kernel
theorem dX11_count_80 : decode cX11_count 80 = .ok (.goto 4, 3) := by decide +kernel
theorem dX11_count_83 : decode cX11_count 83 = .ok (.iconst 0, 1) := by decide +kernel
theorem dX11_count_84 : decode cX11_count 84 = .ok (.ireturn, 1) := by decide +kernel
theorem dX11_count_85 : decode cX11_count 85 = .ok (.aload_n 0, 1) := by decide +kernel
theorem dX11_count_86 : decode cX11_count 86 = .ok (.iload_n 1, 1) := by decide +kernel
theorem dX11_count_87 : decode cX11_count 87 = .ok (.invokevirtual 272, 3) := by decide +kernel
theorem dX11_count_90 : decode cX11_count 90 = .ok (.ireturn, 1) := by decide +kernel
theorem dX11_countOfBooks_0 : decode cX11_countOfBooks 0 = .ok (.iload_n 1, 1) := by decide +kernel
theorem dX11_countOfBooks_1 : decode cX11_countOfBooks 1 = .ok (.tableswitch 183 0 8 #[51, 74, 97, 120, 143, 183, 183, 183, 163], 51) := by decide +kernel
theorem dX11_countOfBooks_52 : decode cX11_countOfBooks 52 = .ok (.aload_n 0, 1) := by decide +kernel
theorem dX11_countOfBooks_53 : decode cX11_countOfBooks 53 = .ok (.getfield 64, 3) := by decide +kernel
theorem dX11_countOfBooks_56 : decode cX11_countOfBooks 56 = .ok (.ifCond .eq 16, 3) := by decide +kernel
theorem dX11_countOfBooks_59 : decode cX11_countOfBooks 59 = .ok (.aload_n 0, 1) := by decide +kernel
theorem dX11_countOfBooks_60 : decode cX11_countOfBooks 60 = .ok (.getfield 10, 3) := by decide +kernel
theorem dX11_countOfBooks_63 : decode cX11_countOfBooks 63 = .ok (.getfield 53, 3) := by decide +kernel
theorem dX11_countOfBooks_66 : decode cX11_countOfBooks 66 = .ok (.getfield 275, 3) := by decide +kernel
theorem dX11_countOfBooks_69 : decode cX11_countOfBooks 69 = .ok (.goto 5, 3) := by decide +kernel
theorem dX11_countOfBooks_72 : decode cX11_countOfBooks 72 = .ok (.bipush (-6), 2) := by decide +kernel
theorem dX11_countOfBooks_74 : decode cX11_countOfBooks 74 = .ok (.ireturn, 1) := by decide +kernel
theorem dX11_countOfBooks_75 : decode cX11_countOfBooks 75 = .ok (.aload_n 0, 1) := by decide +kernel
theorem dX11_countOfBooks_76 : decode cX11_countOfBooks 76 = .ok (.getfield 64, 3) := by decide +kernel
theorem dX11_countOfBooks_79 : decode cX11_countOfBooks 79 = .ok (.ifCond .eq 16, 3) := by decide +kernel
theorem dX11_countOfBooks_82 : decode cX11_countOfBooks 82 = .ok (.aload_n 0, 1) := by decide +kernel
theorem dX11_countOfBooks_83 : decode cX11_countOfBooks 83 = .ok (.getfield 10, 3) := by decide +kernel
theorem dX11_countOfBooks_86 : decode cX11_countOfBooks 86 = .ok (.getfield 101, 3) := by decide +kernel
theorem dX11_countOfBooks_89 : decode cX11_countOfBooks 89 = .ok (.getfield 276, 3) := by decide +kernel
theorem dX11_countOfBooks_92 : decode cX11_countOfBooks 92 = .ok (.goto 5, 3) := by decide +kernel
theorem dX11_countOfBooks_95 : decode cX11_countOfBooks 95 = .ok (.bipush (-6), 2) := by decide +kernel
theorem dX11_countOfBooks_97 : decode cX11_countOfBooks 97 = .ok (.ireturn, 1) := by decide +kernel
theorem dX11_countOfBooks_98 : decode cX11_countOfBooks 98 = .ok (.aload_n 0, 1) := by decide +kernel
theorem dX11_countOfBooks_99 : decode cX11_countOfBooks 99 = .ok (.getfield 64, 3) := by decide +kernel
theorem dX11_countOfBooks_102 : decode cX11_countOfBooks 102 = .ok (.ifCond .eq 16, 3) := by decide +kernel
theorem dX11_countOfBooks_105 : decode cX11_countOfBooks 105 = .ok (.aload_n 0, 1) := by decide +kernel
theorem dX11_countOfBooks_106 : decode cX11_countOfBooks 106 = .ok (.getfield 10, 3) := by decide +kernel
theorem dX11_countOfBooks_109 : decode cX11_countOfBooks 109 = .ok (.getfield 101, 3) := by decide +kernel
theorem dX11_countOfBooks_112 : decode cX11_countOfBooks 112 = .ok (.getfield 277, 3) := by decide +kernel
theorem dX11_countOfBooks_115 : decode cX11_countOfBooks 115 = .ok (.goto 5, 3) := by decide +kernel
theorem dX11_countOfBooks_118 : decode cX11_countOfBooks 118 = .ok (.bipush (-6), 2) := by decide +kernel
theorem dX11_countOfBooks_120 : decode cX11_countOfBooks 120 = .ok (.ireturn, 1) := by decide +kernel
theorem dX11_countOfBooks_121 : decode cX11_countOfBooks 121 = .ok (.aload_n 0, 1) := by decide +kernel
theorem dX11_countOfBooks_122 : decode cX11_countOfBooks 122 = .ok (.getfield 64, 3) := by decide +kernel
theorem dX11_countOfBooks_125 : decode cX11_countOfBooks 125 = .ok (.ifCond .eq 16, 3) := by decide +kernel
theorem dX11_countOfBooks_128 : decode cX11_countOfBooks 128 = .ok (.aload_n 0, 1) := by decide +kernel
theorem dX11_countOfBooks_129 : decode cX11_countOfBooks 129 = .ok (.getfield 10, 3) := by decide +kernel
theorem dX11_countOfBooks_132 : decode cX11_countOfBooks 132 = .ok (.getfield 211, 3) := by decide +kernel
theorem dX11_countOfBooks_135 : decode cX11_countOfBooks 135 = .ok (.getfield 280, 3) := by decide +kernel
theorem dX11_countOfBooks_138 : decode cX11_countOfBooks 138 = .ok (.goto 5, 3) := by decide +kernel
theorem dX11_countOfBooks_141 : decode cX11_countOfBooks 141 = .ok (.bipush (-6), 2) := by decide +kernel
theorem dX11_countOfBooks_143 : decode cX11_countOfBooks 143 = .ok (.ireturn, 1) := by decide +kernel
theorem dX11_countOfBooks_144 : decode cX11_countOfBooks 144 = .ok (.aload_n 0, 1) := by decide +kernel
theorem dX11_countOfBooks_145 : decode cX11_countOfBooks 145 = .ok (.getfield 64, 3) := by decide +kernel
theorem dX11_countOfBooks_148 : decode cX11_countOfBooks 148 = .ok (.ifCond .eq 13, 3) := by decide +kernel
theorem dX11_countOfBooks_151 : decode cX11_countOfBooks 151 = .ok (.aload_n 0, 1) := by decide +kernel
theorem dX11_countOfBooks_152 : decode cX11_countOfBooks 152 = .ok (.getfield 37, 3) := by decide +kernel
theorem dX11_countOfBooks_155 : decode cX11_countOfBooks 155 = .ok (.getfield 119, 3) := by decide +kernel
theorem dX11_countOfBooks_158 : decode cX11_countOfBooks 158 = .ok (.goto 5, 3) := by decide +kernel
theorem dX11_countOfBooks_161 : decode cX11_countOfBooks 161 = .ok (.bipush (-6), 2) := by decide +kernel
theorem dX11_countOfBooks_163 : decode cX11_countOfBooks 163 = .ok (.ireturn, 1) := by decide +kernel
theorem dX11_countOfBooks_164 : decode cX11_countOfBooks 164 = .ok (.aload_n 0, 1) := by decide +kernel
theorem dX11_countOfBooks_165 : decode cX11_countOfBooks 165 = .ok (.getfield 64, 3) := by decide +kernel
theorem dX11_countOfBooks_168 : decode cX11_countOfBooks 168 = .ok (.ifCond .eq 13, 3) := by decide +kernel
theorem dX11_countOfBooks_171 : decode cX11_countOfBooks 171 = .ok (.aload_n 0, 1) := by decide +kernel
theorem dX11_countOfBooks_172 : decode cX11_countOfBooks 172 = .ok (.getfield 10, 3) := by decide +kernel
theorem dX11_countOfBooks_175 : decode cX11_countOfBooks 175 = .ok (.getfield 281, 3) := by decide +kernel
theorem dX11_countOfBooks_178 : decode cX11_countOfBooks 178 = .ok (.goto 5, 3) := by decide +kernel
theorem dX11_countOfBooks_181 : decode cX11_countOfBooks 181 = .ok (.bipush (-6), 2) := by decide +kernel
theorem dX11_countOfBooks_183 : decode cX11_countOfBooks 183 = .ok (.ireturn, 1) := by decide +kernel
theorem dX11_countOfBooks_184 : decode cX11_countOfBooks 184 = .ok (.bipush (-3), 2) := by decide +kernel
theorem dX11_countOfBooks_186 : decode cX11_countOfBooks 186 = .ok (.ireturn, 1) := by decide +kernel
theorem dX11_writePlain_0 : decode cX11_writePlain 0 = .ok (.aload_n 0, 1) := by decide +kernel
theorem dX11_writePlain_1 : decode cX11_writePlain 1 = .ok (.getfield 10, 3) := by decide +kernel
theorem dX11_writePlain_4 : decode cX11_writePlain 4 = .ok (.aload_n 1, 1) := by decide +kernel
theorem dX11_writePlain_5 : decode cX11_writePlain 5 = .ok (.iload_n 2, 1) := by decide +kernel
theorem dX11_writePlain_6 : decode cX11_writePlain 6 = .ok (.invokevirtual 284, 3) := by decide +kernel
theorem dX11_writePlain_9 : decode cX11_writePlain 9 = .ok (.istore 4, 2) := by decide +kernel
theorem dX11_writePlain_11 : decode cX11_writePlain 11 = .ok (.iload 4, 2) := by decide +kernel
theorem dX11_writePlain_13 : decode cX11_writePlain 13 = .ok (.ifCond .eq 6, 3) := by decide +kernel
theorem dX11_writePlain_16 : decode cX11_writePlain 16 = .ok (.iload 4, 2) := by decide +kernel
theorem dX11_writePlain_18 : decode cX11_writePlain 18 = .ok (.ireturn, 1) := by decide +kernel
theorem dX11_writePlain_19 : decode cX11_writePlain 19 = .ok (.aload_n 0, 1) := by decide +kernel
theorem dX11_writePlain_20 : decode cX11_writePlain 20 = .ok (.getfield 19, 3) := by decide +kernel
theorem dX11_writePlain_23 : decode cX11_writePlain 23 = .ok (.iconst 5, 1) := by decide +kernel
theorem dX11_writePlain_24 : decode cX11_writePlain 24 = .ok (.invokevirtual 72, 3) := by decide +kernel
theorem dX11_writePlain_27 : decode cX11_writePlain 27 = .ok (.aload_n 0, 1) := by decide +kernel
theorem dX11_writePlain_28 : decode cX11_writePlain 28 = .ok (.getfield 19, 3) := by decide +kernel
theorem dX11_writePlain_31 : decode cX11_writePlain 31 = .ok (.iload_n 2, 1) := by decide +kernel
theorem dX11_writePlain_32 : decode cX11_writePlain 32 = .ok (.i2l, 1) := by decide +kernel
theorem dX11_writePlain_33 : decode cX11_writePlain 33 = .ok (.invokevirtual 75, 3) := by decide +kernel
theorem dX11_writePlain_36 : decode cX11_writePlain 36 = .ok (.aload_n 0, 1) := by decide +kernel
theorem dX11_writePlain_37 : decode cX11_writePlain 37 = .ok (.getfield 19, 3) := by decide +kernel
theorem dX11_writePlain_40 : decode cX11_writePlain 40 = .ok (.iload_n 3, 1) := by decide +kernel
theorem dX11_writePlain_41 : decode cX11_writePlain 41 = .ok (.i2l, 1) := by decide +kernel
theorem dX11_writePlain_42 : decode cX11_writePlain 42 = .ok (.invokevirtual 75, 3) := by decide +kernel
theorem dX11_writePlain_45 : decode cX11_writePlain 45 = .ok (.aload_n 0, 1) := by decide +kernel
theorem dX11_writePlain_46 : decode cX11_writePlain 46 = .ok (.getfield 19, 3) := by decide +kernel
theorem dX11_writePlain_49 : decode cX11_writePlain 49 = .ok (.aload_n 1, 1) := by decide +kernel
theorem dX11_writePlain_50 : decode cX11_writePlain 50 = .ok (.getfield 119, 3) := by decide +kernel
theorem dX11_writePlain_53 : decode cX11_writePlain 53 = .ok (.i2l, 1) := by decide +kernel
theorem dX11_writePlain_54 : decode cX11_writePlain 54 = .ok (.invokevirtual 75, 3) := by decide +kernel
theorem dX11_writePlain_57 : decode cX11_writePlain 57 = .ok (.iconst 0, 1) := by decide +kernel
theorem dX11_writePlain_58 : decode cX11_writePlain 58 = .ok (.istore 5, 2) := by decide +kernel
theorem dX11_writePlain_60 : decode cX11_writePlain 60 = .ok (.iload 5, 2) := by decide +kernel
theorem dX11_writePlain_62 : decode cX11_writePlain 62 = .ok (.aload_n 1, 1) := by decide +kernel
theorem dX11_writePlain_63 : decode cX11_writePlain 63 = .ok (.getfield 119, 3) := by decide +kernel
theorem dX11_writePlain_66 : decode cX11_writePlain 66 = .ok (.if_icmp .ge 42, 3) := by decide +kernel
theorem dX11_writePlain_69 : decode cX11_writePlain 69 = .ok (.aload_n 0, 1) := by decide +kernel
theorem dX11_writePlain_70 : decode cX11_writePlain 70 = .ok (.getfield 19, 3) := by decide +kernel
theorem dX11_writePlain_73 : decode cX11_writePlain 73 = .ok (.aload_n 1, 1) := by decide +kernel
theorem dX11_writePlain_74 : decode cX11_writePlain 74 = .ok (.getfield 288, 3) := by decide +kernel
theorem dX11_writePlain_77 : decode cX11_writePlain 77 = .ok (.iload 5, 2) := by decide +kernel
theorem dX11_writePlain_79 : decode cX11_writePlain 79 = .ok (.invokevirtual 184, 3) := by decide +kernel
theorem dX11_writePlain_82 : decode cX11_writePlain 82 = .ok (.i2l, 1) := by decide +kernel
theorem dX11_writePlain_83 : decode cX11_writePlain 83 = .ok (.invokevirtual 75, 3) := by decide +kernel
theorem dX11_writePlain_86 : decode cX11_writePlain 86 = .ok (.aload_n 0, 1) := by decide +kernel
theorem dX11_writePlain_87 : decode cX11_writePlain 87 = .ok (.getfield 19, 3) := by decide +kernel
theorem dX11_writePlain_90 : decode cX11_writePlain 90 = .ok (.aload_n 1, 1) := by decide +kernel
theorem dX11_writePlain_91 : decode cX11_writePlain 91 = .ok (.getfield 290, 3) := by decide +kernel
theorem dX11_writePlain_94 : decode cX11_writePlain 94 = .ok (.iload 5, 2) := by decide +kernel
theorem dX11_writePlain_96 : decode cX11_writePlain 96 = .ok (.invokevirtual 261, 3) := by decide +kernel
theorem dX11_writePlain_99 : decode cX11_writePlain 99 = .ok (.invokevirtual 75, 3) := by decide +kernel
theorem dX11_writePlain_102 : decode cX11_writePlain 102 = .ok (.iinc 5 1, 3) := by decide +kernel
theorem dX11_writePlain_105 : decode cX11_writePlain 105 = .ok (.goto (-45), 3) := by decide +kernel
theorem dX11_writePlain_108 : decode cX11_writePlain 108 = .ok (.aload_n 0, 1) := by decide +kernel
theorem dX11_writePlain_109 : decode cX11_writePlain 109 = .ok (.getfield 19, 3) := by decide +kernel
theorem dX11_writePlain_112 : decode cX11_writePlain 112 = .ok (.invokevirtual 79, 3) := by decide +kernel
theorem dX11_writePlain_115 : decode cX11_writePlain 115 = .ok (.ifCond .ne 6, 3) := by decide +kernel
theorem dX11_writePlain_118 : decode cX11_writePlain 118 = .ok (.bipush (-13), 2) := by decide +kernel
theorem dX11_writePlain_120 : decode cX11_writePlain 120 = .ok (.ireturn, 1) := by decide +kernel
theorem dX11_writePlain_121 : decode cX11_writePlain 121 = .ok (.aload_n 0, 1) := by decide +kernel
theorem dX11_writePlain_122 : decode cX11_writePlain 122 = .ok (.getfield 10, 3) := by decide +kernel
theorem dX11_writePlain_125 : decode cX11_writePlain 125 = .ok (.aload_n 1, 1) := by decide +kernel
theorem dX11_writePlain_126 : decode cX11_writePlain 126 = .ok (.iload_n 2, 1) := by decide +kernel
theorem dX11_writePlain_127 : decode cX11_writePlain 127 = .ok (.iload_n 3, 1) := by decide +kernel
theorem dX11_writePlain_128 : decode cX11_writePlain 128 = .ok (.iconst 0, 1) := by decide +kernel
theorem dX11_writePlain_129 : decode cX11_writePlain 129 = .ok (.iconst (-1), 1) := by decide +kernel
theorem dX11_writePlain_130 : decode cX11_writePlain 130 = .ok (.invokevirtual 293, 3) := by decide +kernel
theorem dX11_writePlain_133 : decode cX11_writePlain 133 = .ok (.istore 5, 2) := by decide +kernel
theorem dX11_writePlain_135 : decode cX11_writePlain 135 = .ok (.aload_n 0, 1) := by decide +kernel
theorem dX11_writePlain_136 : decode cX11_writePlain 136 = .ok (.getfield 37, 3) := by decide +kernel
theorem dX11_writePlain_139 : decode cX11_writePlain 139 = .ok (.invokevirtual 126, 3) := by decide +kernel
theorem dX11_writePlain_142 : decode cX11_writePlain 142 = .ok (.iload 5, 2) := by decide +kernel
theorem dX11_writePlain_144 : decode cX11_writePlain 144 = .ok (.ireturn, 1) := by decide +kernel
theorem dX11_refusesShare_0 : decode cX11_refusesShare 0 = .ok (.aload_n 0, 1) := by decide +kernel
theorem dX11_refusesShare_1 : decode cX11_refusesShare 1 = .ok (.getfield 10, 3) := by decide +kernel
theorem dX11_refusesShare_4 : decode cX11_refusesShare 4 = .ok (.getfield 53, 3) := by decide +kernel
theorem dX11_refusesShare_7 : decode cX11_refusesShare 7 = .ok (.iload_n 1, 1) := by decide +kernel
theorem dX11_refusesShare_8 : decode cX11_refusesShare 8 = .ok (.invokevirtual 189, 3) := by decide +kernel
theorem dX11_refusesShare_11 : decode cX11_refusesShare 11 = .ok (.ifCond .ne 6, 3) := by decide +kernel
theorem dX11_refusesShare_14 : decode cX11_refusesShare 14 = .ok (.bipush (-2), 2) := by decide +kernel
theorem dX11_refusesShare_16 : decode cX11_refusesShare 16 = .ok (.ireturn, 1) := by decide +kernel
theorem dX11_refusesShare_17 : decode cX11_refusesShare 17 = .ok (.lload_n 2, 1) := by decide +kernel
theorem dX11_refusesShare_18 : decode cX11_refusesShare 18 = .ok (.invokestatic 297, 3) := by decide +kernel
theorem dX11_refusesShare_21 : decode cX11_refusesShare 21 = .ok (.ifCond .eq 13, 3) := by decide +kernel
theorem dX11_refusesShare_24 : decode cX11_refusesShare 24 = .ok (.aload_n 0, 1) := by decide +kernel
theorem dX11_refusesShare_25 : decode cX11_refusesShare 25 = .ok (.getfield 37, 3) := by decide +kernel
theorem dX11_refusesShare_28 : decode cX11_refusesShare 28 = .ok (.invokestatic 300, 3) := by decide +kernel
theorem dX11_refusesShare_31 : decode cX11_refusesShare 31 = .ok (.ifCond .ne 6, 3) := by decide +kernel
theorem dX11_refusesShare_34 : decode cX11_refusesShare 34 = .ok (.bipush (-3), 2) := by decide +kernel
theorem dX11_refusesShare_36 : decode cX11_refusesShare 36 = .ok (.ireturn, 1) := by decide +kernel
theorem dX11_refusesShare_37 : decode cX11_refusesShare 37 = .ok (.aload_n 0, 1) := by decide +kernel
theorem dX11_refusesShare_38 : decode cX11_refusesShare 38 = .ok (.getfield 10, 3) := by decide +kernel
theorem dX11_refusesShare_41 : decode cX11_refusesShare 41 = .ok (.getfield 53, 3) := by decide +kernel
theorem dX11_refusesShare_44 : decode cX11_refusesShare 44 = .ok (.iload_n 1, 1) := by decide +kernel
theorem dX11_refusesShare_45 : decode cX11_refusesShare 45 = .ok (.invokevirtual 229, 3) := by decide +kernel
theorem dX11_refusesShare_48 : decode cX11_refusesShare 48 = .ok (.ifCond .ne 6, 3) := by decide +kernel
theorem dX11_refusesShare_51 : decode cX11_refusesShare 51 = .ok (.bipush (-4), 2) := by decide +kernel
theorem dX11_refusesShare_53 : decode cX11_refusesShare 53 = .ok (.ireturn, 1) := by decide +kernel
theorem dX11_refusesShare_54 : decode cX11_refusesShare 54 = .ok (.aload_n 0, 1) := by decide +kernel
theorem dX11_refusesShare_55 : decode cX11_refusesShare 55 = .ok (.getfield 37, 3) := by decide +kernel
theorem dX11_refusesShare_58 : decode cX11_refusesShare 58 = .ok (.getfield 119, 3) := by decide +kernel
theorem dX11_refusesShare_61 : decode cX11_refusesShare 61 = .ok (.ifCond .ne 8, 3) := by decide +kernel
theorem dX11_refusesShare_64 : decode cX11_refusesShare 64 = .ok (.bipush (-6), 2) := by decide +kernel
theorem dX11_refusesShare_66 : decode cX11_refusesShare 66 = .ok (.goto 4, 3) := by decide +kernel
theorem dX11_refusesShare_69 : decode cX11_refusesShare 69 = .ok (.iconst 0, 1) := by decide +kernel
theorem dX11_refusesShare_70 : decode cX11_refusesShare 70 = .ok (.ireturn, 1) := by decide +kernel
theorem dX11_shareOut_0 : decode cX11_shareOut 0 = .ok (.aload_n 0, 1) := by decide +kernel
theorem dX11_shareOut_1 : decode cX11_shareOut 1 = .ok (.getfield 47, 3) := by decide +kernel
theorem dX11_shareOut_4 : decode cX11_shareOut 4 = .ok (.invokevirtual 251, 3) := by decide +kernel
theorem dX11_shareOut_7 : decode cX11_shareOut 7 = .ok (.iconst 0, 1) := by decide +kernel
theorem dX11_shareOut_8 : decode cX11_shareOut 8 = .ok (.istore 4, 2) := by decide +kernel
theorem dX11_shareOut_10 : decode cX11_shareOut 10 = .ok (.iload 4, 2) := by decide +kernel
theorem dX11_shareOut_12 : decode cX11_shareOut 12 = .ok (.aload_n 0, 1) := by decide +kernel
theorem dX11_shareOut_13 : decode cX11_shareOut 13 = .ok (.getfield 37, 3) := by decide +kernel
theorem dX11_shareOut_16 : decode cX11_shareOut 16 = .ok (.getfield 119, 3) := by decide +kernel
theorem dX11_shareOut_19 : decode cX11_shareOut 19 = .ok (.if_icmp .ge 29, 3) := by decide +kernel
theorem dX11_shareOut_22 : decode cX11_shareOut 22 = .ok (.aload_n 0, 1) := by decide +kernel
theorem dX11_shareOut_23 : decode cX11_shareOut 23 = .ok (.getfield 47, 3) := by decide +kernel
theorem dX11_shareOut_26 : decode cX11_shareOut 26 = .ok (.aload_n 0, 1) := by decide +kernel
theorem dX11_shareOut_27 : decode cX11_shareOut 27 = .ok (.getfield 37, 3) := by decide +kernel
theorem dX11_shareOut_30 : decode cX11_shareOut 30 = .ok (.getfield 290, 3) := by decide +kernel
theorem dX11_shareOut_33 : decode cX11_shareOut 33 = .ok (.iload 4, 2) := by decide +kernel
theorem dX11_shareOut_35 : decode cX11_shareOut 35 = .ok (.invokevirtual 261, 3) := by decide +kernel
theorem dX11_shareOut_38 : decode cX11_shareOut 38 = .ok (.l2i, 1) := by decide +kernel
theorem dX11_shareOut_39 : decode cX11_shareOut 39 = .ok (.invokevirtual 252, 3) := by decide +kernel
theorem dX11_shareOut_42 : decode cX11_shareOut 42 = .ok (.iinc 4 1, 3) := by decide +kernel
theorem dX11_shareOut_45 : decode cX11_shareOut 45 = .ok (.goto (-35), 3) := by decide +kernel
theorem dX11_shareOut_48 : decode cX11_shareOut 48 = .ok (.aload_n 0, 1) := by decide +kernel
theorem dX11_shareOut_49 : decode cX11_shareOut 49 = .ok (.getfield 47, 3) := by decide +kernel
theorem dX11_shareOut_52 : decode cX11_shareOut 52 = .ok (.lload_n 2, 1) := by decide +kernel
theorem dX11_shareOut_53 : decode cX11_shareOut 53 = .ok (.invokevirtual 254, 3) := by decide +kernel
theorem dX11_shareOut_56 : decode cX11_shareOut 56 = .ok (.pop, 1) := by decide +kernel
theorem dX11_shareOut_57 : decode cX11_shareOut 57 = .ok (.aload_n 0, 1) := by decide +kernel
theorem dX11_shareOut_58 : decode cX11_shareOut 58 = .ok (.getfield 41, 3) := by decide +kernel
theorem dX11_shareOut_61 : decode cX11_shareOut 61 = .ok (.invokevirtual 126, 3) := by decide +kernel
theorem dX11_shareOut_64 : decode cX11_shareOut 64 = .ok (.aload_n 0, 1) := by decide +kernel
theorem dX11_shareOut_65 : decode cX11_shareOut 65 = .ok (.getfield 41, 3) := by decide +kernel
theorem dX11_shareOut_68 : decode cX11_shareOut 68 = .ok (.iload_n 1, 1) := by decide +kernel
theorem dX11_shareOut_69 : decode cX11_shareOut 69 = .ok (.lload_n 2, 1) := by decide +kernel
theorem dX11_shareOut_70 : decode cX11_shareOut 70 = .ok (.lneg, 1) := by decide +kernel
theorem dX11_shareOut_71 : decode cX11_shareOut 71 = .ok (.invokevirtual 123, 3) := by decide +kernel
theorem dX11_shareOut_74 : decode cX11_shareOut 74 = .ok (.iconst 0, 1) := by decide +kernel
theorem dX11_shareOut_75 : decode cX11_shareOut 75 = .ok (.istore 4, 2) := by decide +kernel
theorem dX11_shareOut_77 : decode cX11_shareOut 77 = .ok (.iload 4, 2) := by decide +kernel
theorem dX11_shareOut_79 : decode cX11_shareOut 79 = .ok (.aload_n 0, 1) := by decide +kernel
theorem dX11_shareOut_80 : decode cX11_shareOut 80 = .ok (.getfield 37, 3) := by decide +kernel
theorem dX11_shareOut_83 : decode cX11_shareOut 83 = .ok (.getfield 119, 3) := by decide +kernel
theorem dX11_shareOut_86 : decode cX11_shareOut 86 = .ok (.if_icmp .ge 57, 3) := by decide +kernel
theorem dX11_shareOut_89 : decode cX11_shareOut 89 = .ok (.aload_n 0, 1) := by decide +kernel
theorem dX11_shareOut_90 : decode cX11_shareOut 90 = .ok (.getfield 47, 3) := by decide +kernel
theorem dX11_shareOut_93 : decode cX11_shareOut 93 = .ok (.getfield 258, 3) := by decide +kernel
theorem dX11_shareOut_96 : decode cX11_shareOut 96 = .ok (.iload 4, 2) := by decide +kernel
theorem dX11_shareOut_98 : decode cX11_shareOut 98 = .ok (.invokevirtual 261, 3) := by decide +kernel
theorem dX11_shareOut_101 : decode cX11_shareOut 101 = .ok (.lconst 0, 1) := by decide +kernel
theorem dX11_shareOut_102 : decode cX11_shareOut 102 = .ok (.lcmp, 1) := by decide +kernel
theorem dX11_shareOut_103 : decode cX11_shareOut 103 = .ok (.ifCond .eq 34, 3) := by decide +kernel
theorem dX11_shareOut_106 : decode cX11_shareOut 106 = .ok (.aload_n 0, 1) := by decide +kernel
theorem dX11_shareOut_107 : decode cX11_shareOut 107 = .ok (.getfield 41, 3) := by decide +kernel
theorem dX11_shareOut_110 : decode cX11_shareOut 110 = .ok (.aload_n 0, 1) := by decide +kernel
theorem dX11_shareOut_111 : decode cX11_shareOut 111 = .ok (.getfield 37, 3) := by decide +kernel
theorem dX11_shareOut_114 : decode cX11_shareOut 114 = .ok (.getfield 288, 3) := by decide +kernel
theorem dX11_shareOut_117 : decode cX11_shareOut 117 = .ok (.iload 4, 2) := by decide +kernel
theorem dX11_shareOut_119 : decode cX11_shareOut 119 = .ok (.invokevirtual 184, 3) := by decide +kernel
theorem dX11_shareOut_122 : decode cX11_shareOut 122 = .ok (.aload_n 0, 1) := by decide +kernel
theorem dX11_shareOut_123 : decode cX11_shareOut 123 = .ok (.getfield 47, 3) := by decide +kernel
theorem dX11_shareOut_126 : decode cX11_shareOut 126 = .ok (.getfield 258, 3) := by decide +kernel
theorem dX11_shareOut_129 : decode cX11_shareOut 129 = .ok (.iload 4, 2) := by decide +kernel
theorem dX11_shareOut_131 : decode cX11_shareOut 131 = .ok (.invokevirtual 261, 3) := by decide +kernel
theorem dX11_shareOut_134 : decode cX11_shareOut 134 = .ok (.invokevirtual 123, 3) := by decide +kernel
theorem dX11_shareOut_137 : decode cX11_shareOut 137 = .ok (.iinc 4 1, 3) := by decide +kernel
theorem dX11_shareOut_140 : decode cX11_shareOut 140 = .ok (.goto (-63), 3) := by decide +kernel
theorem dX11_shareOut_143 : decode cX11_shareOut 143 = .ok (.return_, 1) := by decide +kernel
theorem dX11_areWeights_0 : decode cX11_areWeights 0 = .ok (.iconst 0, 1) := by decide +kernel
theorem dX11_areWeights_1 : decode cX11_areWeights 1 = .ok (.istore_n 1, 1) := by decide +kernel
theorem dX11_areWeights_2 : decode cX11_areWeights 2 = .ok (.iload_n 1, 1) := by decide +kernel
theorem dX11_areWeights_3 : decode cX11_areWeights 3 = .ok (.aload_n 0, 1) := by decide +kernel
theorem dX11_areWeights_4 : decode cX11_areWeights 4 = .ok (.getfield 119, 3) := by decide +kernel
theorem dX11_areWeights_7 : decode cX11_areWeights 7 = .ok (.if_icmp .ge 34, 3) := by decide +kernel
theorem dX11_areWeights_10 : decode cX11_areWeights 10 = .ok (.aload_n 0, 1) := by decide +kernel
theorem dX11_areWeights_11 : decode cX11_areWeights 11 = .ok (.getfield 290, 3) := by decide +kernel
theorem dX11_areWeights_14 : decode cX11_areWeights 14 = .ok (.iload_n 1, 1) := by decide +kernel
theorem dX11_areWeights_15 : decode cX11_areWeights 15 = .ok (.invokevirtual 261, 3) := by decide +kernel
theorem dX11_areWeights_18 : decode cX11_areWeights 18 = .ok (.lstore_n 2, 1) := by decide +kernel
theorem dX11_areWeights_19 : decode cX11_areWeights 19 = .ok (.lload_n 2, 1) := by decide +kernel
theorem dX11_areWeights_20 : decode cX11_areWeights 20 = .ok (.lconst 1, 1) := by decide +kernel
theorem dX11_areWeights_21 : decode cX11_areWeights 21 = .ok (.lcmp, 1) := by decide +kernel
theorem dX11_areWeights_22 : decode cX11_areWeights 22 = .ok (.ifCond .lt 11, 3) := by decide +kernel
theorem dX11_areWeights_25 : decode cX11_areWeights 25 = .ok (.lload_n 2, 1) := by decide +kernel
theorem dX11_areWeights_26 : decode cX11_areWeights 26 = .ok (.ldc2_w 304, 3) := by decide +kernel
theorem dX11_areWeights_29 : decode cX11_areWeights 29 = .ok (.lcmp, 1) := by decide +kernel
theorem dX11_areWeights_30 : decode cX11_areWeights 30 = .ok (.ifCond .le 5, 3) := by decide +kernel
theorem dX11_areWeights_33 : decode cX11_areWeights 33 = .ok (.iconst 0, 1) := by decide +kernel
theorem dX11_areWeights_34 : decode cX11_areWeights 34 = .ok (.ireturn, 1) := by decide +kernel
theorem dX11_areWeights_35 : decode cX11_areWeights 35 = .ok (.iinc 1 1, 3) := by decide +kernel
theorem dX11_areWeights_38 : decode cX11_areWeights 38 = .ok (.goto (-36), 3) := by decide +kernel
theorem dX11_areWeights_41 : decode cX11_areWeights 41 = .ok (.aload_n 0, 1) := by decide +kernel
theorem dX11_areWeights_42 : decode cX11_areWeights 42 = .ok (.getfield 119, 3) := by decide +kernel
theorem dX11_areWeights_45 : decode cX11_areWeights 45 = .ok (.bipush 7, 2) := by decide +kernel
theorem dX11_areWeights_47 : decode cX11_areWeights 47 = .ok (.if_icmp .gt 7, 3) := by decide +kernel
theorem dX11_areWeights_50 : decode cX11_areWeights 50 = .ok (.iconst 1, 1) := by decide +kernel
theorem dX11_areWeights_51 : decode cX11_areWeights 51 = .ok (.goto 4, 3) := by decide +kernel
theorem dX11_areWeights_54 : decode cX11_areWeights 54 = .ok (.iconst 0, 1) := by decide +kernel
theorem dX11_areWeights_55 : decode cX11_areWeights 55 = .ok (.ireturn, 1) := by decide +kernel
theorem dX11_isPartWeight_0 : decode cX11_isPartWeight 0 = .ok (.iload_n 0, 1) := by decide +kernel
theorem dX11_isPartWeight_1 : decode cX11_isPartWeight 1 = .ok (.ifCond .lt 14, 3) := by decide +kernel
theorem dX11_isPartWeight_4 : decode cX11_isPartWeight 4 = .ok (.iload_n 0, 1) := by decide +kernel
theorem dX11_isPartWeight_5 : decode cX11_isPartWeight 5 = .ok (.sipush 1000, 3) := by decide +kernel
theorem dX11_isPartWeight_8 : decode cX11_isPartWeight 8 = .ok (.if_icmp .gt 7, 3) := by decide +kernel
theorem dX11_isPartWeight_11 : decode cX11_isPartWeight 11 = .ok (.iconst 1, 1) := by decide +kernel
theorem dX11_isPartWeight_12 : decode cX11_isPartWeight 12 = .ok (.goto 4, 3) := by decide +kernel
theorem dX11_isPartWeight_15 : decode cX11_isPartWeight 15 = .ok (.iconst 0, 1) := by decide +kernel
theorem dX11_isPartWeight_16 : decode cX11_isPartWeight 16 = .ok (.ireturn, 1) := by decide +kernel
theorem dX11_isAmount_0 : decode cX11_isAmount 0 = .ok (.lload_n 0, 1) := by decide +kernel
theorem dX11_isAmount_1 : decode cX11_isAmount 1 = .ok (.lconst 0, 1) := by decide +kernel
theorem dX11_isAmount_2 : decode cX11_isAmount 2 = .ok (.lcmp, 1) := by decide +kernel
theorem dX11_isAmount_3 : decode cX11_isAmount 3 = .ok (.ifCond .eq 17, 3) := by decide +kernel
theorem dX11_isAmount_6 : decode cX11_isAmount 6 = .ok (.lload_n 0, 1) := by decide +kernel
theorem dX11_isAmount_7 : decode cX11_isAmount 7 = .ok (.ldc2_w 242, 3) := by decide +kernel
theorem dX11_isAmount_10 : decode cX11_isAmount 10 = .ok (.invokestatic 244, 3) := by decide +kernel
theorem dX11_isAmount_13 : decode cX11_isAmount 13 = .ok (.ifCond .eq 7, 3) := by decide +kernel
theorem dX11_isAmount_16 : decode cX11_isAmount 16 = .ok (.iconst 1, 1) := by decide +kernel
theorem dX11_isAmount_17 : decode cX11_isAmount 17 = .ok (.goto 4, 3) := by decide +kernel
theorem dX11_isAmount_20 : decode cX11_isAmount 20 = .ok (.iconst 0, 1) := by decide +kernel
theorem dX11_isAmount_21 : decode cX11_isAmount 21 = .ok (.ireturn, 1) := by decide +kernel
theorem dX11_isWithin_0 : decode cX11_isWithin 0 = .ok (.lload_n 0, 1) := by decide +kernel
theorem dX11_isWithin_1 : decode cX11_isWithin 1 = .ok (.lload_n 2, 1) := by decide +kernel
theorem dX11_isWithin_2 : decode cX11_isWithin 2 = .ok (.lneg, 1) := by decide +kernel
theorem dX11_isWithin_3 : decode cX11_isWithin 3 = .ok (.lcmp, 1) := by decide +kernel
theorem dX11_isWithin_4 : decode cX11_isWithin 4 = .ok (.ifCond .lt 13, 3) := by decide +kernel
theorem dX11_isWithin_7 : decode cX11_isWithin 7 = .ok (.lload_n 0, 1) := by decide +kernel
theorem dX11_isWithin_8 : decode cX11_isWithin 8 = .ok (.lload_n 2, 1) := by decide +kernel
theorem dX11_isWithin_9 : decode cX11_isWithin 9 = .ok (.lcmp, 1) := by decide +kernel
theorem dX11_isWithin_10 : decode cX11_isWithin 10 = .ok (.ifCond .gt 7, 3) := by decide +kernel
theorem dX11_isWithin_13 : decode cX11_isWithin 13 = .ok (.iconst 1, 1) := by decide +kernel
theorem dX11_isWithin_14 : decode cX11_isWithin 14 = .ok (.goto 4, 3) := by decide +kernel
theorem dX11_isWithin_17 : decode cX11_isWithin 17 = .ok (.iconst 0, 1) := by decide +kernel
theorem dX11_isWithin_18 : decode cX11_isWithin 18 = .ok (.ireturn, 1) := by decide +kernel
theorem dX12_init_0 : decode cX12_init 0 = .ok (.aload_n 0, 1) := by decide +kernel
theorem dX12_init_1 : decode cX12_init 1 = .ok (.invokespecial 1, 3) := by decide +kernel
theorem dX12_init_4 : decode cX12_init 4 = .ok (.aload_n 0, 1) := by decide +kernel
theorem dX12_init_5 : decode cX12_init 5 = .ok (.iconst 1, 1) := by decide +kernel
theorem dX12_init_6 : decode cX12_init 6 = .ok (.putfield 7, 3) := by decide +kernel
theorem dX12_init_9 : decode cX12_init 9 = .ok (.aload_n 0, 1) := by decide +kernel
theorem dX12_init_10 : decode cX12_init 10 = .ok (.bipush 60, 2) := by decide +kernel
theorem dX12_init_12 : decode cX12_init 12 = .ok (.newarray .int, 2) := by decide +kernel
theorem dX12_init_14 : decode cX12_init 14 = .ok (.putfield 13, 3) := by decide +kernel
theorem dX12_init_17 : decode cX12_init 17 = .ok (.aload_n 0, 1) := by decide +kernel
theorem dX12_init_18 : decode cX12_init 18 = .ok (.bipush 60, 2) := by decide +kernel
theorem dX12_init_20 : decode cX12_init 20 = .ok (.newarray .int, 2) := by decide +kernel
theorem dX12_init_22 : decode cX12_init 22 = .ok (.putfield 17, 3) := by decide +kernel
theorem dX12_init_25 : decode cX12_init 25 = .ok (.aload_n 0, 1) := by decide +kernel
theorem dX12_init_26 : decode cX12_init 26 = .ok (.bipush 60, 2) := by decide +kernel
theorem dX12_init_28 : decode cX12_init 28 = .ok (.newarray .int, 2) := by decide +kernel
theorem dX12_init_30 : decode cX12_init 30 = .ok (.putfield 20, 3) := by decide +kernel
theorem dX12_init_33 : decode cX12_init 33 = .ok (.aload_n 0, 1) := by decide +kernel
theorem dX12_init_34 : decode cX12_init 34 = .ok (.bipush 60, 2) := by decide +kernel
theorem dX12_init_36 : decode cX12_init 36 = .ok (.newarray .boolean, 2) := by decide +kernel
theorem dX12_init_38 : decode cX12_init 38 = .ok (.putfield 23, 3) := by decide +kernel
theorem dX12_init_41 : decode cX12_init 41 = .ok (.aload_n 0, 1) := by decide +kernel
theorem dX12_init_42 : decode cX12_init 42 = .ok (.bipush 60, 2) := by decide +kernel
theorem dX12_init_44 : decode cX12_init 44 = .ok (.newarray .int, 2) := by decide +kernel
theorem dX12_init_46 : decode cX12_init 46 = .ok (.putfield 27, 3) := by decide +kernel
theorem dX12_init_49 : decode cX12_init 49 = .ok (.aload_n 0, 1) := by decide +kernel
theorem dX12_init_50 : decode cX12_init 50 = .ok (.bipush 60, 2) := by decide +kernel
theorem dX12_init_52 : decode cX12_init 52 = .ok (.newarray .boolean, 2) := by decide +kernel
theorem dX12_init_54 : decode cX12_init 54 = .ok (.putfield 30, 3) := by decide +kernel
theorem dX12_init_57 : decode cX12_init 57 = .ok (.aload_n 0, 1) := by decide +kernel
theorem dX12_init_58 : decode cX12_init 58 = .ok (.bipush 60, 2) := by decide +kernel
theorem dX12_init_60 : decode cX12_init 60 = .ok (.newarray .long, 2) := by decide +kernel
theorem dX12_init_62 : decode cX12_init 62 = .ok (.putfield 33, 3) := by decide +kernel
theorem dX12_init_65 : decode cX12_init 65 = .ok (.aload_n 0, 1) := by decide +kernel
theorem dX12_init_66 : decode cX12_init 66 = .ok (.iconst (-1), 1) := by decide +kernel
theorem dX12_init_67 : decode cX12_init 67 = .ok (.putfield 37, 3) := by decide +kernel
theorem dX12_init_70 : decode cX12_init 70 = .ok (.aload_n 0, 1) := by decide +kernel
theorem dX12_init_71 : decode cX12_init 71 = .ok (.bipush 24, 2) := by decide +kernel
theorem dX12_init_73 : decode cX12_init 73 = .ok (.newarray .int, 2) := by decide +kernel
theorem dX12_init_75 : decode cX12_init 75 = .ok (.putfield 41, 3) := by decide +kernel
theorem dX12_init_78 : decode cX12_init 78 = .ok (.aload_n 0, 1) := by decide +kernel
theorem dX12_init_79 : decode cX12_init 79 = .ok (.bipush 24, 2) := by decide +kernel
theorem dX12_init_81 : decode cX12_init 81 = .ok (.newarray .int, 2) := by decide +kernel
theorem dX12_init_83 : decode cX12_init 83 = .ok (.putfield 44, 3) := by decide +kernel
theorem dX12_init_86 : decode cX12_init 86 = .ok (.aload_n 0, 1) := by decide +kernel
theorem dX12_init_87 : decode cX12_init 87 = .ok (.sipush 400, 3) := by decide +kernel
theorem dX12_init_90 : decode cX12_init 90 = .ok (.newarray .int, 2) := by decide +kernel
theorem dX12_init_92 : decode cX12_init 92 = .ok (.putfield 47, 3) := by decide +kernel
theorem dX12_init_95 : decode cX12_init 95 = .ok (.aload_n 0, 1) := by decide +kernel
theorem dX12_init_96 : decode cX12_init 96 = .ok (.sipush 400, 3) := by decide +kernel
theorem dX12_init_99 : decode cX12_init 99 = .ok (.newarray .int, 2) := by decide +kernel
theorem dX12_init_101 : decode cX12_init 101 = .ok (.putfield 50, 3) := by decide +kernel
theorem dX12_init_104 : decode cX12_init 104 = .ok (.aload_n 0, 1) := by decide +kernel
theorem dX12_init_105 : decode cX12_init 105 = .ok (.sipush 400, 3) := by decide +kernel
theorem dX12_init_108 : decode cX12_init 108 = .ok (.newarray .int, 2) := by decide +kernel
theorem dX12_init_110 : decode cX12_init 110 = .ok (.putfield 53, 3) := by decide +kernel
theorem dX12_init_113 : decode cX12_init 113 = .ok (.aload_n 0, 1) := by decide +kernel
theorem dX12_init_114 : decode cX12_init 114 = .ok (.sipush 401, 3) := by decide +kernel
theorem dX12_init_117 : decode cX12_init 117 = .ok (.newarray .int, 2) := by decide +kernel
theorem dX12_init_119 : decode cX12_init 119 = .ok (.putfield 56, 3) := by decide +kernel
theorem dX12_init_122 : decode cX12_init 122 = .ok (.aload_n 0, 1) := by decide +kernel
theorem dX12_init_123 : decode cX12_init 123 = .ok (.sipush 400, 3) := by decide +kernel
theorem dX12_init_126 : decode cX12_init 126 = .ok (.newarray .int, 2) := by decide +kernel
theorem dX12_init_128 : decode cX12_init 128 = .ok (.putfield 59, 3) := by decide +kernel
theorem dX12_init_131 : decode cX12_init 131 = .ok (.aload_n 0, 1) := by decide +kernel
theorem dX12_init_132 : decode cX12_init 132 = .ok (.sipush 400, 3) := by decide +kernel
theorem dX12_init_135 : decode cX12_init 135 = .ok (.newarray .int, 2) := by decide +kernel
theorem dX12_init_137 : decode cX12_init 137 = .ok (.putfield 62, 3) := by decide +kernel
theorem dX12_init_140 : decode cX12_init 140 = .ok (.aload_n 0, 1) := by decide +kernel
theorem dX12_init_141 : decode cX12_init 141 = .ok (.sipush 24800, 3) := by decide +kernel
theorem dX12_init_144 : decode cX12_init 144 = .ok (.newarray .int, 2) := by decide +kernel
theorem dX12_init_146 : decode cX12_init 146 = .ok (.putfield 65, 3) := by decide +kernel
theorem dX12_init_149 : decode cX12_init 149 = .ok (.aload_n 0, 1) := by decide +kernel
theorem dX12_init_150 : decode cX12_init 150 = .ok (.sipush 24800, 3) := by decide +kernel
theorem dX12_init_153 : decode cX12_init 153 = .ok (.newarray .long, 2) := by decide +kernel
theorem dX12_init_155 : decode cX12_init 155 = .ok (.putfield 68, 3) := by decide +kernel
theorem dX12_init_158 : decode cX12_init 158 = .ok (.aload_n 0, 1) := by decide +kernel
theorem dX12_init_159 : decode cX12_init 159 = .ok (.bipush 8, 2) := by decide +kernel
theorem dX12_init_161 : decode cX12_init 161 = .ok (.newarray .int, 2) := by decide +kernel
theorem dX12_init_163 : decode cX12_init 163 = .ok (.putfield 71, 3) := by decide +kernel
theorem dX12_init_166 : decode cX12_init 166 = .ok (.aload_n 0, 1) := by decide +kernel
theorem dX12_init_167 : decode cX12_init 167 = .ok (.bipush 8, 2) := by decide +kernel
theorem dX12_init_169 : decode cX12_init 169 = .ok (.newarray .long, 2) := by decide +kernel
theorem dX12_init_171 : decode cX12_init 171 = .ok (.putfield 74, 3) := by decide +kernel
theorem dX12_init_174 : decode cX12_init 174 = .ok (.aload_n 0, 1) := by decide +kernel
theorem dX12_init_175 : decode cX12_init 175 = .ok (.bipush 64, 2) := by decide +kernel
theorem dX12_init_177 : decode cX12_init 177 = .ok (.newarray .int, 2) := by decide +kernel
theorem dX12_init_179 : decode cX12_init 179 = .ok (.putfield 77, 3) := by decide +kernel
theorem dX12_init_182 : decode cX12_init 182 = .ok (.aload_n 0, 1) := by decide +kernel
theorem dX12_init_183 : decode cX12_init 183 = .ok (.bipush 64, 2) := by decide +kernel
theorem dX12_init_185 : decode cX12_init 185 = .ok (.newarray .long, 2) := by decide +kernel
theorem dX12_init_187 : decode cX12_init 187 = .ok (.putfield 80, 3) := by decide +kernel
theorem dX12_init_190 : decode cX12_init 190 = .ok (.aload_n 0, 1) := by decide +kernel
theorem dX12_init_191 : decode cX12_init 191 = .ok (.sipush 6000, 3) := by decide +kernel
theorem dX12_init_194 : decode cX12_init 194 = .ok (.newarray .int, 2) := by decide +kernel
theorem dX12_init_196 : decode cX12_init 196 = .ok (.putfield 83, 3) := by decide +kernel
theorem dX12_init_199 : decode cX12_init 199 = .ok (.aload_n 0, 1) := by decide +kernel
theorem dX12_init_200 : decode cX12_init 200 = .ok (.sipush 300, 3) := by decide +kernel
theorem dX12_init_203 : decode cX12_init 203 = .ok (.newarray .int, 2) := by decide +kernel
theorem dX12_init_205 : decode cX12_init 205 = .ok (.putfield 86, 3) := by decide +kernel
theorem dX12_init_208 : decode cX12_init 208 = .ok (.aload_n 0, 1) := by decide +kernel
theorem dX12_init_209 : decode cX12_init 209 = .ok (.sipush 4000, 3) := by decide +kernel
theorem dX12_init_212 : decode cX12_init 212 = .ok (.newarray .int, 2) := by decide +kernel
theorem dX12_init_214 : decode cX12_init 214 = .ok (.putfield 89, 3) := by decide +kernel
theorem dX12_init_217 : decode cX12_init 217 = .ok (.aload_n 0, 1) := by decide +kernel
theorem dX12_init_218 : decode cX12_init 218 = .ok (.bipush 24, 2) := by decide +kernel
theorem dX12_init_220 : decode cX12_init 220 = .ok (.newarray .int, 2) := by decide +kernel
theorem dX12_init_222 : decode cX12_init 222 = .ok (.putfield 92, 3) := by decide +kernel
theorem dX12_init_225 : decode cX12_init 225 = .ok (.aload_n 0, 1) := by decide +kernel
theorem dX12_init_226 : decode cX12_init 226 = .ok (.bipush 8, 2) := by decide +kernel
theorem dX12_init_228 : decode cX12_init 228 = .ok (.newarray .int, 2) := by decide +kernel
theorem dX12_init_230 : decode cX12_init 230 = .ok (.putfield 95, 3) := by decide +kernel
theorem dX12_init_233 : decode cX12_init 233 = .ok (.aload_n 0, 1) := by decide +kernel
theorem dX12_init_234 : decode cX12_init 234 = .ok (.bipush 8, 2) := by decide +kernel
theorem dX12_init_236 : decode cX12_init 236 = .ok (.newarray .int, 2) := by decide +kernel
theorem dX12_init_238 : decode cX12_init 238 = .ok (.putfield 98, 3) := by decide +kernel
theorem dX12_init_241 : decode cX12_init 241 = .ok (.aload_n 0, 1) := by decide +kernel
theorem dX12_init_242 : decode cX12_init 242 = .ok (.bipush 8, 2) := by decide +kernel
theorem dX12_init_244 : decode cX12_init 244 = .ok (.newarray .long, 2) := by decide +kernel
theorem dX12_init_246 : decode cX12_init 246 = .ok (.putfield 101, 3) := by decide +kernel
theorem dX12_init_249 : decode cX12_init 249 = .ok (.aload_n 0, 1) := by decide +kernel
theorem dX12_init_250 : decode cX12_init 250 = .ok (.bipush 8, 2) := by decide +kernel
theorem dX12_init_252 : decode cX12_init 252 = .ok (.newarray .long, 2) := by decide +kernel
theorem dX12_init_254 : decode cX12_init 254 = .ok (.putfield 104, 3) := by decide +kernel
theorem dX12_init_257 : decode cX12_init 257 = .ok (.aload_n 0, 1) := by decide +kernel
theorem dX12_init_258 : decode cX12_init 258 = .ok (.bipush 8, 2) := by decide +kernel
theorem dX12_init_260 : decode cX12_init 260 = .ok (.newarray .long, 2) := by decide +kernel
theorem dX12_init_262 : decode cX12_init 262 = .ok (.putfield 107, 3) := by decide +kernel
theorem dX12_init_265 : decode cX12_init 265 = .ok (.aload_n 0, 1) := by decide +kernel
