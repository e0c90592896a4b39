theorem dX12_init_266 : decode cX12_init 266 = .ok (.bipush 8, 2) := by decide +kernel
theorem dX12_init_268 : decode cX12_init 268 = .ok (.newarray .boolean, 2) := by decide +kernel
theorem dX12_init_270 : decode cX12_init 270 = .ok (.putfield 110, 3) := by decide +kernel
theorem dX12_init_273 : decode cX12_init 273 = .ok (.aload_n 0, 1) := by decide +kernel
theorem dX12_init_274 : decode cX12_init 274 = .ok (.getfield 56, 3) := by decide +kernel
theorem dX12_init_277 : decode cX12_init 277 = .ok (.iconst 0, 1) := by decide +kernel
theorem dX12_init_278 : decode cX12_init 278 = .ok (.iconst 0, 1) := by decide +kernel
theorem dX12_init_279 : decode cX12_init 279 = .ok (.iastore, 1) := by decide +kernel
theorem dX12_init_280 : decode cX12_init 280 = .ok (.return_, 1) := by decide +kernel
theorem dX12_in_0 : decode cX12_in 0 = .ok (.lload_n 0, 1) := by decide +kernel
theorem dX12_in_1 : decode cX12_in 1 = .ok (.lload_n 2, 1) := by decide +kernel
theorem dX12_in_2 : decode cX12_in 2 = .ok (.lcmp, 1) := by decide +kernel
theorem dX12_in_3 : decode cX12_in 3 = .ok (.ifCond .lt 14, 3) := by decide +kernel
theorem dX12_in_6 : decode cX12_in 6 = .ok (.lload_n 0, 1) := by decide +kernel
theorem dX12_in_7 : decode cX12_in 7 = .ok (.lload 4, 2) := by decide +kernel
theorem dX12_in_9 : decode cX12_in 9 = .ok (.lcmp, 1) := by decide +kernel
theorem dX12_in_10 : decode cX12_in 10 = .ok (.ifCond .gt 7, 3) := by decide +kernel
theorem dX12_in_13 : decode cX12_in 13 = .ok (.iconst 1, 1) := by decide +kernel
theorem dX12_in_14 : decode cX12_in 14 = .ok (.goto 4, 3) := by decide +kernel
theorem dX12_in_17 : decode cX12_in 17 = .ok (.iconst 0, 1) := by decide +kernel
theorem dX12_in_18 : decode cX12_in 18 = .ok (.ireturn, 1) := by decide +kernel
theorem dX12_isAccount_0 : decode cX12_isAccount 0 = .ok (.iload_n 1, 1) := by decide +kernel
theorem dX12_isAccount_1 : decode cX12_isAccount 1 = .ok (.i2l, 1) := by decide +kernel
theorem dX12_isAccount_2 : decode cX12_isAccount 2 = .ok (.lconst 0, 1) := by decide +kernel
theorem dX12_isAccount_3 : decode cX12_isAccount 3 = .ok (.aload_n 0, 1) := by decide +kernel
theorem dX12_isAccount_4 : decode cX12_isAccount 4 = .ok (.getfield 113, 3) := by decide +kernel
theorem dX12_isAccount_7 : decode cX12_isAccount 7 = .ok (.iconst 1, 1) := by decide +kernel
theorem dX12_isAccount_8 : decode cX12_isAccount 8 = .ok (.isub, 1) := by decide +kernel
theorem dX12_isAccount_9 : decode cX12_isAccount 9 = .ok (.i2l, 1) := by decide +kernel
theorem dX12_isAccount_10 : decode cX12_isAccount 10 = .ok (.invokestatic 116, 3) := by decide +kernel
theorem dX12_isAccount_13 : decode cX12_isAccount 13 = .ok (.ireturn, 1) := by decide +kernel
theorem dX12_begin_0 : decode cX12_begin 0 = .ok (.aload_n 0, 1) := by decide +kernel
theorem dX12_begin_1 : decode cX12_begin 1 = .ok (.iconst 0, 1) := by decide +kernel
theorem dX12_begin_2 : decode cX12_begin 2 = .ok (.putfield 120, 3) := by decide +kernel
theorem dX12_begin_5 : decode cX12_begin 5 = .ok (.return_, 1) := by decide +kernel
theorem dX12_say_0 : decode cX12_say 0 = .ok (.lload_n 1, 1) := by decide +kernel
theorem dX12_say_1 : decode cX12_say 1 = .ok (.lconst 0, 1) := by decide +kernel
theorem dX12_say_2 : decode cX12_say 2 = .ok (.lcmp, 1) := by decide +kernel
theorem dX12_say_3 : decode cX12_say 3 = .ok (.ifCond .ge 13, 3) := by decide +kernel
theorem dX12_say_6 : decode cX12_say 6 = .ok (.ldc2_w 123, 3) := by decide +kernel
theorem dX12_say_9 : decode cX12_say 9 = .ok (.lload_n 1, 1) := by decide +kernel
theorem dX12_say_10 : decode cX12_say 10 = .ok (.lmul, 1) := by decide +kernel
theorem dX12_say_11 : decode cX12_say 11 = .ok (.lconst 1, 1) := by decide +kernel
theorem dX12_say_12 : decode cX12_say 12 = .ok (.lsub, 1) := by decide +kernel
theorem dX12_say_13 : decode cX12_say 13 = .ok (.goto 8, 3) := by decide +kernel
theorem dX12_say_16 : decode cX12_say 16 = .ok (.ldc2_w 125, 3) := by decide +kernel
theorem dX12_say_19 : decode cX12_say 19 = .ok (.lload_n 1, 1) := by decide +kernel
theorem dX12_say_20 : decode cX12_say 20 = .ok (.lmul, 1) := by decide +kernel
theorem dX12_say_21 : decode cX12_say 21 = .ok (.lstore_n 3, 1) := by decide +kernel
theorem dX12_say_22 : decode cX12_say 22 = .ok (.lload_n 3, 1) := by decide +kernel
theorem dX12_say_23 : decode cX12_say 23 = .ok (.bipush 7, 2) := by decide +kernel
theorem dX12_say_25 : decode cX12_say 25 = .ok (.lushr, 1) := by decide +kernel
theorem dX12_say_26 : decode cX12_say 26 = .ok (.lconst 0, 1) := by decide +kernel
theorem dX12_say_27 : decode cX12_say 27 = .ok (.lcmp, 1) := by decide +kernel
theorem dX12_say_28 : decode cX12_say 28 = .ok (.ifCond .eq 40, 3) := by decide +kernel
theorem dX12_say_31 : decode cX12_say 31 = .ok (.aload_n 0, 1) := by decide +kernel
theorem dX12_say_32 : decode cX12_say 32 = .ok (.getfield 86, 3) := by decide +kernel
theorem dX12_say_35 : decode cX12_say 35 = .ok (.aload_n 0, 1) := by decide +kernel
theorem dX12_say_36 : decode cX12_say 36 = .ok (.getfield 120, 3) := by decide +kernel
theorem dX12_say_39 : decode cX12_say 39 = .ok (.lload_n 3, 1) := by decide +kernel
theorem dX12_say_40 : decode cX12_say 40 = .ok (.ldc2_w 127, 3) := by decide +kernel
theorem dX12_say_43 : decode cX12_say 43 = .ok (.land, 1) := by decide +kernel
theorem dX12_say_44 : decode cX12_say 44 = .ok (.l2i, 1) := by decide +kernel
theorem dX12_say_45 : decode cX12_say 45 = .ok (.sipush 128, 3) := by decide +kernel
theorem dX12_say_48 : decode cX12_say 48 = .ok (.ior, 1) := by decide +kernel
theorem dX12_say_49 : decode cX12_say 49 = .ok (.iastore, 1) := by decide +kernel
theorem dX12_say_50 : decode cX12_say 50 = .ok (.aload_n 0, 1) := by decide +kernel
theorem dX12_say_51 : decode cX12_say 51 = .ok (.dup, 1) := by decide +kernel
theorem dX12_say_52 : decode cX12_say 52 = .ok (.getfield 120, 3) := by decide +kernel
theorem dX12_say_55 : decode cX12_say 55 = .ok (.iconst 1, 1) := by decide +kernel
theorem dX12_say_56 : decode cX12_say 56 = .ok (.iadd, 1) := by decide +kernel
theorem dX12_say_57 : decode cX12_say 57 = .ok (.putfield 120, 3) := by decide +kernel
theorem dX12_say_60 : decode cX12_say 60 = .ok (.lload_n 3, 1) := by decide +kernel
theorem dX12_say_61 : decode cX12_say 61 = .ok (.bipush 7, 2) := by decide +kernel
theorem dX12_say_63 : decode cX12_say 63 = .ok (.lushr, 1) := by decide +kernel
theorem dX12_say_64 : decode cX12_say 64 = .ok (.lstore_n 3, 1) := by decide +kernel
theorem dX12_say_65 : decode cX12_say 65 = .ok (.goto (-43), 3) := by decide +kernel
theorem dX12_say_68 : decode cX12_say 68 = .ok (.aload_n 0, 1) := by decide +kernel
theorem dX12_say_69 : decode cX12_say 69 = .ok (.getfield 86, 3) := by decide +kernel
theorem dX12_say_72 : decode cX12_say 72 = .ok (.aload_n 0, 1) := by decide +kernel
theorem dX12_say_73 : decode cX12_say 73 = .ok (.getfield 120, 3) := by decide +kernel
theorem dX12_say_76 : decode cX12_say 76 = .ok (.lload_n 3, 1) := by decide +kernel
theorem dX12_say_77 : decode cX12_say 77 = .ok (.l2i, 1) := by decide +kernel
theorem dX12_say_78 : decode cX12_say 78 = .ok (.iastore, 1) := by decide +kernel
theorem dX12_say_79 : decode cX12_say 79 = .ok (.aload_n 0, 1) := by decide +kernel
theorem dX12_say_80 : decode cX12_say 80 = .ok (.dup, 1) := by decide +kernel
theorem dX12_say_81 : decode cX12_say 81 = .ok (.getfield 120, 3) := by decide +kernel
theorem dX12_say_84 : decode cX12_say 84 = .ok (.iconst 1, 1) := by decide +kernel
theorem dX12_say_85 : decode cX12_say 85 = .ok (.iadd, 1) := by decide +kernel
theorem dX12_say_86 : decode cX12_say 86 = .ok (.putfield 120, 3) := by decide +kernel
theorem dX12_say_89 : decode cX12_say 89 = .ok (.return_, 1) := by decide +kernel
theorem dX12_hasRoom_0 : decode cX12_hasRoom 0 = .ok (.aload_n 0, 1) := by decide +kernel
theorem dX12_hasRoom_1 : decode cX12_hasRoom 1 = .ok (.getfield 129, 3) := by decide +kernel
theorem dX12_hasRoom_4 : decode cX12_hasRoom 4 = .ok (.ifCond .ne 20, 3) := by decide +kernel
theorem dX12_hasRoom_7 : decode cX12_hasRoom 7 = .ok (.aload_n 0, 1) := by decide +kernel
theorem dX12_hasRoom_8 : decode cX12_hasRoom 8 = .ok (.getfield 132, 3) := by decide +kernel
theorem dX12_hasRoom_11 : decode cX12_hasRoom 11 = .ok (.aload_n 0, 1) := by decide +kernel
theorem dX12_hasRoom_12 : decode cX12_hasRoom 12 = .ok (.getfield 120, 3) := by decide +kernel
theorem dX12_hasRoom_15 : decode cX12_hasRoom 15 = .ok (.iadd, 1) := by decide +kernel
theorem dX12_hasRoom_16 : decode cX12_hasRoom 16 = .ok (.iconst 4, 1) := by decide +kernel
theorem dX12_hasRoom_17 : decode cX12_hasRoom 17 = .ok (.iadd, 1) := by decide +kernel
theorem dX12_hasRoom_18 : decode cX12_hasRoom 18 = .ok (.sipush 6000, 3) := by decide +kernel
theorem dX12_hasRoom_21 : decode cX12_hasRoom 21 = .ok (.if_icmp .gt 7, 3) := by decide +kernel
theorem dX12_hasRoom_24 : decode cX12_hasRoom 24 = .ok (.iconst 1, 1) := by decide +kernel
theorem dX12_hasRoom_25 : decode cX12_hasRoom 25 = .ok (.goto 4, 3) := by decide +kernel
theorem dX12_hasRoom_28 : decode cX12_hasRoom 28 = .ok (.iconst 0, 1) := by decide +kernel
theorem dX12_hasRoom_29 : decode cX12_hasRoom 29 = .ok (.ireturn, 1) := by decide +kernel
theorem dX12_checked_0 : decode cX12_checked 0 = .ok (.iload_n 0, 1) := by decide +kernel
theorem dX12_checked_1 : decode cX12_checked 1 = .ok (.iload_n 1, 1) := by decide +kernel
theorem dX12_checked_2 : decode cX12_checked 2 = .ok (.bipush 8, 2) := by decide +kernel
theorem dX12_checked_4 : decode cX12_checked 4 = .ok (.ishl, 1) := by decide +kernel
theorem dX12_checked_5 : decode cX12_checked 5 = .ok (.ixor, 1) := by decide +kernel
theorem dX12_checked_6 : decode cX12_checked 6 = .ok (.istore_n 2, 1) := by decide +kernel
theorem dX12_checked_7 : decode cX12_checked 7 = .ok (.iconst 0, 1) := by decide +kernel
theorem dX12_checked_8 : decode cX12_checked 8 = .ok (.istore_n 3, 1) := by decide +kernel
theorem dX12_checked_9 : decode cX12_checked 9 = .ok (.iload_n 3, 1) := by decide +kernel
theorem dX12_checked_10 : decode cX12_checked 10 = .ok (.bipush 8, 2) := by decide +kernel
theorem dX12_checked_12 : decode cX12_checked 12 = .ok (.if_icmp .ge 30, 3) := by decide +kernel
theorem dX12_checked_15 : decode cX12_checked 15 = .ok (.iload_n 2, 1) := by decide +kernel
theorem dX12_checked_16 : decode cX12_checked 16 = .ok (.ldc 135, 2) := by decide +kernel
theorem dX12_checked_18 : decode cX12_checked 18 = .ok (.iand, 1) := by decide +kernel
theorem dX12_checked_19 : decode cX12_checked 19 = .ok (.ifCond .eq 13, 3) := by decide +kernel
theorem dX12_checked_22 : decode cX12_checked 22 = .ok (.iload_n 2, 1) := by decide +kernel
theorem dX12_checked_23 : decode cX12_checked 23 = .ok (.iconst 1, 1) := by decide +kernel
theorem dX12_checked_24 : decode cX12_checked 24 = .ok (.ishl, 1) := by decide +kernel
theorem dX12_checked_25 : decode cX12_checked 25 = .ok (.sipush 4129, 3) := by decide +kernel
theorem dX12_checked_28 : decode cX12_checked 28 = .ok (.ixor, 1) := by decide +kernel
theorem dX12_checked_29 : decode cX12_checked 29 = .ok (.goto 6, 3) := by decide +kernel
theorem dX12_checked_32 : decode cX12_checked 32 = .ok (.iload_n 2, 1) := by decide +kernel
theorem dX12_checked_33 : decode cX12_checked 33 = .ok (.iconst 1, 1) := by decide +kernel
theorem dX12_checked_34 : decode cX12_checked 34 = .ok (.ishl, 1) := by decide +kernel
theorem dX12_checked_35 : decode cX12_checked 35 = .ok (.istore_n 2, 1) := by decide +kernel
theorem dX12_checked_36 : decode cX12_checked 36 = .ok (.iinc 3 1, 3) := by decide +kernel
theorem dX12_checked_39 : decode cX12_checked 39 = .ok (.goto (-30), 3) := by decide +kernel
theorem dX12_checked_42 : decode cX12_checked 42 = .ok (.iload_n 2, 1) := by decide +kernel
theorem dX12_checked_43 : decode cX12_checked 43 = .ok (.ldc 136, 2) := by decide +kernel
theorem dX12_checked_45 : decode cX12_checked 45 = .ok (.iand, 1) := by decide +kernel
theorem dX12_checked_46 : decode cX12_checked 46 = .ok (.ireturn, 1) := by decide +kernel
theorem dX12_append_0 : decode cX12_append 0 = .ok (.aload_n 0, 1) := by decide +kernel
theorem dX12_append_1 : decode cX12_append 1 = .ok (.getfield 83, 3) := by decide +kernel
theorem dX12_append_4 : decode cX12_append 4 = .ok (.aload_n 0, 1) := by decide +kernel
theorem dX12_append_5 : decode cX12_append 5 = .ok (.getfield 132, 3) := by decide +kernel
theorem dX12_append_8 : decode cX12_append 8 = .ok (.iload_n 1, 1) := by decide +kernel
theorem dX12_append_9 : decode cX12_append 9 = .ok (.iastore, 1) := by decide +kernel
theorem dX12_append_10 : decode cX12_append 10 = .ok (.aload_n 0, 1) := by decide +kernel
theorem dX12_append_11 : decode cX12_append 11 = .ok (.dup, 1) := by decide +kernel
theorem dX12_append_12 : decode cX12_append 12 = .ok (.getfield 132, 3) := by decide +kernel
theorem dX12_append_15 : decode cX12_append 15 = .ok (.iconst 1, 1) := by decide +kernel
theorem dX12_append_16 : decode cX12_append 16 = .ok (.iadd, 1) := by decide +kernel
theorem dX12_append_17 : decode cX12_append 17 = .ok (.putfield 132, 3) := by decide +kernel
theorem dX12_append_20 : decode cX12_append 20 = .ok (.return_, 1) := by decide +kernel
theorem dX12_write_0 : decode cX12_write 0 = .ok (.aload_n 0, 1) := by decide +kernel
theorem dX12_write_1 : decode cX12_write 1 = .ok (.dup, 1) := by decide +kernel
theorem dX12_write_2 : decode cX12_write 2 = .ok (.getfield 137, 3) := by decide +kernel
theorem dX12_write_5 : decode cX12_write 5 = .ok (.iconst 1, 1) := by decide +kernel
theorem dX12_write_6 : decode cX12_write 6 = .ok (.iadd, 1) := by decide +kernel
theorem dX12_write_7 : decode cX12_write 7 = .ok (.putfield 137, 3) := by decide +kernel
theorem dX12_write_10 : decode cX12_write 10 = .ok (.aload_n 0, 1) := by decide +kernel
theorem dX12_write_11 : decode cX12_write 11 = .ok (.getfield 129, 3) := by decide +kernel
theorem dX12_write_14 : decode cX12_write 14 = .ok (.ifCond .eq 4, 3) := by decide +kernel
theorem dX12_write_17 : decode cX12_write 17 = .ok (.return_, 1) := by decide +kernel
theorem dX12_write_18 : decode cX12_write 18 = .ok (.ldc 136, 2) := by decide +kernel
theorem dX12_write_20 : decode cX12_write 20 = .ok (.aload_n 0, 1) := by decide +kernel
theorem dX12_write_21 : decode cX12_write 21 = .ok (.getfield 120, 3) := by decide +kernel
theorem dX12_write_24 : decode cX12_write 24 = .ok (.invokestatic 140, 3) := by decide +kernel
theorem dX12_write_27 : decode cX12_write 27 = .ok (.iload_n 1, 1) := by decide +kernel
theorem dX12_write_28 : decode cX12_write 28 = .ok (.invokestatic 140, 3) := by decide +kernel
theorem dX12_write_31 : decode cX12_write 31 = .ok (.istore_n 2, 1) := by decide +kernel
theorem dX12_write_32 : decode cX12_write 32 = .ok (.aload_n 0, 1) := by decide +kernel
theorem dX12_write_33 : decode cX12_write 33 = .ok (.aload_n 0, 1) := by decide +kernel
theorem dX12_write_34 : decode cX12_write 34 = .ok (.getfield 120, 3) := by decide +kernel
theorem dX12_write_37 : decode cX12_write 37 = .ok (.invokevirtual 144, 3) := by decide +kernel
theorem dX12_write_40 : decode cX12_write 40 = .ok (.aload_n 0, 1) := by decide +kernel
theorem dX12_write_41 : decode cX12_write 41 = .ok (.iload_n 1, 1) := by decide +kernel
theorem dX12_write_42 : decode cX12_write 42 = .ok (.invokevirtual 144, 3) := by decide +kernel
theorem dX12_write_45 : decode cX12_write 45 = .ok (.iconst 0, 1) := by decide +kernel
theorem dX12_write_46 : decode cX12_write 46 = .ok (.istore_n 3, 1) := by decide +kernel
theorem dX12_write_47 : decode cX12_write 47 = .ok (.iload_n 3, 1) := by decide +kernel
theorem dX12_write_48 : decode cX12_write 48 = .ok (.aload_n 0, 1) := by decide +kernel
theorem dX12_write_49 : decode cX12_write 49 = .ok (.getfield 120, 3) := by decide +kernel
theorem dX12_write_52 : decode cX12_write 52 = .ok (.if_icmp .ge 30, 3) := by decide +kernel
theorem dX12_write_55 : decode cX12_write 55 = .ok (.aload_n 0, 1) := by decide +kernel
theorem dX12_write_56 : decode cX12_write 56 = .ok (.aload_n 0, 1) := by decide +kernel
theorem dX12_write_57 : decode cX12_write 57 = .ok (.getfield 86, 3) := by decide +kernel
theorem dX12_write_60 : decode cX12_write 60 = .ok (.iload_n 3, 1) := by decide +kernel
theorem dX12_write_61 : decode cX12_write 61 = .ok (.iaload, 1) := by decide +kernel
theorem dX12_write_62 : decode cX12_write 62 = .ok (.invokevirtual 144, 3) := by decide +kernel
theorem dX12_write_65 : decode cX12_write 65 = .ok (.iload_n 2, 1) := by decide +kernel
theorem dX12_write_66 : decode cX12_write 66 = .ok (.aload_n 0, 1) := by decide +kernel
theorem dX12_write_67 : decode cX12_write 67 = .ok (.getfield 86, 3) := by decide +kernel
theorem dX12_write_70 : decode cX12_write 70 = .ok (.iload_n 3, 1) := by decide +kernel
theorem dX12_write_71 : decode cX12_write 71 = .ok (.iaload, 1) := by decide +kernel
theorem dX12_write_72 : decode cX12_write 72 = .ok (.invokestatic 140, 3) := by decide +kernel
theorem dX12_write_75 : decode cX12_write 75 = .ok (.istore_n 2, 1) := by decide +kernel
theorem dX12_write_76 : decode cX12_write 76 = .ok (.iinc 3 1, 3) := by decide +kernel
theorem dX12_write_79 : decode cX12_write 79 = .ok (.goto (-32), 3) := by decide +kernel
theorem dX12_write_82 : decode cX12_write 82 = .ok (.aload_n 0, 1) := by decide +kernel
theorem dX12_write_83 : decode cX12_write 83 = .ok (.iload_n 2, 1) := by decide +kernel
theorem dX12_write_84 : decode cX12_write 84 = .ok (.bipush 8, 2) := by decide +kernel
theorem dX12_write_86 : decode cX12_write 86 = .ok (.ishr, 1) := by decide +kernel
theorem dX12_write_87 : decode cX12_write 87 = .ok (.invokevirtual 144, 3) := by decide +kernel
theorem dX12_write_90 : decode cX12_write 90 = .ok (.aload_n 0, 1) := by decide +kernel
theorem dX12_write_91 : decode cX12_write 91 = .ok (.iload_n 2, 1) := by decide +kernel
theorem dX12_write_92 : decode cX12_write 92 = .ok (.sipush 255, 3) := by decide +kernel
theorem dX12_write_95 : decode cX12_write 95 = .ok (.iand, 1) := by decide +kernel
theorem dX12_write_96 : decode cX12_write 96 = .ok (.invokevirtual 144, 3) := by decide +kernel
theorem dX12_write_99 : decode cX12_write 99 = .ok (.return_, 1) := by decide +kernel
theorem dX12_isTold_0 : decode cX12_isTold 0 = .ok (.iconst 0, 1) := by decide +kernel
theorem dX12_isTold_1 : decode cX12_isTold 1 = .ok (.istore_n 2, 1) := by decide +kernel
theorem dX12_isTold_2 : decode cX12_isTold 2 = .ok (.iconst 0, 1) := by decide +kernel
theorem dX12_isTold_3 : decode cX12_isTold 3 = .ok (.istore_n 3, 1) := by decide +kernel
theorem dX12_isTold_4 : decode cX12_isTold 4 = .ok (.iload_n 3, 1) := by decide +kernel
theorem dX12_isTold_5 : decode cX12_isTold 5 = .ok (.aload_n 0, 1) := by decide +kernel
theorem dX12_isTold_6 : decode cX12_isTold 6 = .ok (.getfield 113, 3) := by decide +kernel
theorem dX12_isTold_9 : decode cX12_isTold 9 = .ok (.if_icmp .ge 29, 3) := by decide +kernel
theorem dX12_isTold_12 : decode cX12_isTold 12 = .ok (.iload_n 2, 1) := by decide +kernel
theorem dX12_isTold_13 : decode cX12_isTold 13 = .ok (.ifCond .ne 13, 3) := by decide +kernel
theorem dX12_isTold_16 : decode cX12_isTold 16 = .ok (.aload_n 0, 1) := by decide +kernel
theorem dX12_isTold_17 : decode cX12_isTold 17 = .ok (.getfield 13, 3) := by decide +kernel
theorem dX12_isTold_20 : decode cX12_isTold 20 = .ok (.iload_n 3, 1) := by decide +kernel
theorem dX12_isTold_21 : decode cX12_isTold 21 = .ok (.iaload, 1) := by decide +kernel
theorem dX12_isTold_22 : decode cX12_isTold 22 = .ok (.iload_n 1, 1) := by decide +kernel
theorem dX12_isTold_23 : decode cX12_isTold 23 = .ok (.if_icmp .ne 7, 3) := by decide +kernel
theorem dX12_isTold_26 : decode cX12_isTold 26 = .ok (.iconst 1, 1) := by decide +kernel
theorem dX12_isTold_27 : decode cX12_isTold 27 = .ok (.goto 4, 3) := by decide +kernel
theorem dX12_isTold_30 : decode cX12_isTold 30 = .ok (.iconst 0, 1) := by decide +kernel
theorem dX12_isTold_31 : decode cX12_isTold 31 = .ok (.istore_n 2, 1) := by decide +kernel
theorem dX12_isTold_32 : decode cX12_isTold 32 = .ok (.iinc 3 1, 3) := by decide +kernel
theorem dX12_isTold_35 : decode cX12_isTold 35 = .ok (.goto (-31), 3) := by decide +kernel
theorem dX12_isTold_38 : decode cX12_isTold 38 = .ok (.iload_n 2, 1) := by decide +kernel
theorem dX12_isTold_39 : decode cX12_isTold 39 = .ok (.ireturn, 1) := by decide +kernel
theorem dX12_account_0 : decode cX12_account 0 = .ok (.aload_n 0, 1) := by decide +kernel
theorem dX12_account_1 : decode cX12_account 1 = .ok (.getfield 7, 3) := by decide +kernel
theorem dX12_account_4 : decode cX12_account 4 = .ok (.ifCond .ne 6, 3) := by decide +kernel
theorem dX12_account_7 : decode cX12_account 7 = .ok (.bipush (-6), 2) := by decide +kernel
theorem dX12_account_9 : decode cX12_account 9 = .ok (.ireturn, 1) := by decide +kernel
theorem dX12_account_10 : decode cX12_account 10 = .ok (.iload_n 3, 1) := by decide +kernel
theorem dX12_account_11 : decode cX12_account 11 = .ok (.iconst (-1), 1) := by decide +kernel
theorem dX12_account_12 : decode cX12_account 12 = .ok (.if_icmp .eq 14, 3) := by decide +kernel
theorem dX12_account_15 : decode cX12_account 15 = .ok (.aload_n 0, 1) := by decide +kernel
theorem dX12_account_16 : decode cX12_account 16 = .ok (.iload_n 3, 1) := by decide +kernel
theorem dX12_account_17 : decode cX12_account 17 = .ok (.invokevirtual 148, 3) := by decide +kernel
theorem dX12_account_20 : decode cX12_account 20 = .ok (.ifCond .ne 6, 3) := by decide +kernel
theorem dX12_account_23 : decode cX12_account 23 = .ok (.bipush (-2), 2) := by decide +kernel
theorem dX12_account_25 : decode cX12_account 25 = .ok (.ireturn, 1) := by decide +kernel
theorem dX12_account_26 : decode cX12_account 26 = .ok (.iload_n 1, 1) := by decide +kernel
theorem dX12_account_27 : decode cX12_account 27 = .ok (.i2l, 1) := by decide +kernel
theorem dX12_account_28 : decode cX12_account 28 = .ok (.lconst 1, 1) := by decide +kernel
theorem dX12_account_29 : decode cX12_account 29 = .ok (.ldc2_w 152, 3) := by decide +kernel
theorem dX12_account_32 : decode cX12_account 32 = .ok (.invokestatic 116, 3) := by decide +kernel
theorem dX12_account_35 : decode cX12_account 35 = .ok (.ifCond .eq 15, 3) := by decide +kernel
theorem dX12_account_38 : decode cX12_account 38 = .ok (.iload_n 2, 1) := by decide +kernel
theorem dX12_account_39 : decode cX12_account 39 = .ok (.i2l, 1) := by decide +kernel
theorem dX12_account_40 : decode cX12_account 40 = .ok (.lconst 0, 1) := by decide +kernel
theorem dX12_account_41 : decode cX12_account 41 = .ok (.ldc2_w 154, 3) := by decide +kernel
theorem dX12_account_44 : decode cX12_account 44 = .ok (.invokestatic 116, 3) := by decide +kernel
theorem dX12_account_47 : decode cX12_account 47 = .ok (.ifCond .ne 6, 3) := by decide +kernel
theorem dX12_account_50 : decode cX12_account 50 = .ok (.bipush (-3), 2) := by decide +kernel
theorem dX12_account_52 : decode cX12_account 52 = .ok (.ireturn, 1) := by decide +kernel
theorem dX12_account_53 : decode cX12_account 53 = .ok (.iload_n 3, 1) := by decide +kernel
theorem dX12_account_54 : decode cX12_account 54 = .ok (.iconst (-1), 1) := by decide +kernel
theorem dX12_account_55 : decode cX12_account 55 = .ok (.if_icmp .eq 35, 3) := by decide +kernel
theorem dX12_account_58 : decode cX12_account 58 = .ok (.aload_n 0, 1) := by decide +kernel
theorem dX12_account_59 : decode cX12_account 59 = .ok (.getfield 23, 3) := by decide +kernel
theorem dX12_account_62 : decode cX12_account 62 = .ok (.iload_n 3, 1) := by decide +kernel
theorem dX12_account_63 : decode cX12_account 63 = .ok (.baload, 1) := by decide +kernel
theorem dX12_account_64 : decode cX12_account 64 = .ok (.ifCond .eq 23, 3) := by decide +kernel
theorem dX12_account_67 : decode cX12_account 67 = .ok (.aload_n 0, 1) := by decide +kernel
theorem dX12_account_68 : decode cX12_account 68 = .ok (.getfield 17, 3) := by decide +kernel
theorem dX12_account_71 : decode cX12_account 71 = .ok (.iload_n 3, 1) := by decide +kernel
theorem dX12_account_72 : decode cX12_account 72 = .ok (.iaload, 1) := by decide +kernel
theorem dX12_account_73 : decode cX12_account 73 = .ok (.iload_n 2, 1) := by decide +kernel
theorem dX12_account_74 : decode cX12_account 74 = .ok (.if_icmp .ne 13, 3) := by decide +kernel
theorem dX12_account_77 : decode cX12_account 77 = .ok (.aload_n 0, 1) := by decide +kernel
theorem dX12_account_78 : decode cX12_account 78 = .ok (.getfield 27, 3) := by decide +kernel
theorem dX12_account_81 : decode cX12_account 81 = .ok (.iload_n 3, 1) := by decide +kernel
theorem dX12_account_82 : decode cX12_account 82 = .ok (.iaload, 1) := by decide +kernel
theorem dX12_account_83 : decode cX12_account 83 = .ok (.iconst 5, 1) := by decide +kernel
theorem dX12_account_84 : decode cX12_account 84 = .ok (.if_icmp .ne 6, 3) := by decide +kernel
theorem dX12_account_87 : decode cX12_account 87 = .ok (.bipush (-4), 2) := by decide +kernel
theorem dX12_account_89 : decode cX12_account 89 = .ok (.ireturn, 1) := by decide +kernel
theorem dX12_account_90 : decode cX12_account 90 = .ok (.aload_n 0, 1) := by decide +kernel
theorem dX12_account_91 : decode cX12_account 91 = .ok (.iload_n 1, 1) := by decide +kernel
theorem dX12_account_92 : decode cX12_account 92 = .ok (.invokevirtual 156, 3) := by decide +kernel
theorem dX12_account_95 : decode cX12_account 95 = .ok (.ifCond .eq 6, 3) := by decide +kernel
theorem dX12_account_98 : decode cX12_account 98 = .ok (.bipush (-5), 2) := by decide +kernel
theorem dX12_account_100 : decode cX12_account 100 = .ok (.ireturn, 1) := by decide +kernel
theorem dX12_account_101 : decode cX12_account 101 = .ok (.aload_n 0, 1) := by decide +kernel
theorem dX12_account_102 : decode cX12_account 102 = .ok (.invokevirtual 159, 3) := by decide +kernel
theorem dX12_account_105 : decode cX12_account 105 = .ok (.aload_n 0, 1) := by decide +kernel
theorem dX12_account_106 : decode cX12_account 106 = .ok (.iload_n 1, 1) := by decide +kernel
theorem dX12_account_107 : decode cX12_account 107 = .ok (.i2l, 1) := by decide +kernel
theorem dX12_account_108 : decode cX12_account 108 = .ok (.invokevirtual 162, 3) := by decide +kernel
theorem dX12_account_111 : decode cX12_account 111 = .ok (.aload_n 0, 1) := by decide +kernel
theorem dX12_account_112 : decode cX12_account 112 = .ok (.iload_n 2, 1) := by decide +kernel
theorem dX12_account_113 : decode cX12_account 113 = .ok (.i2l, 1) := by decide +kernel
theorem dX12_account_114 : decode cX12_account 114 = .ok (.invokevirtual 162, 3) := by decide +kernel
theorem dX12_account_117 : decode cX12_account 117 = .ok (.aload_n 0, 1) := by decide +kernel
theorem dX12_account_118 : decode cX12_account 118 = .ok (.iload_n 3, 1) := by decide +kernel
theorem dX12_account_119 : decode cX12_account 119 = .ok (.i2l, 1) := by decide +kernel
theorem dX12_account_120 : decode cX12_account 120 = .ok (.invokevirtual 162, 3) := by decide +kernel
theorem dX12_account_123 : decode cX12_account 123 = .ok (.aload_n 0, 1) := by decide +kernel
theorem dX12_account_124 : decode cX12_account 124 = .ok (.iload 4, 2) := by decide +kernel
theorem dX12_account_126 : decode cX12_account 126 = .ok (.ifCond .eq 7, 3) := by decide +kernel
theorem dX12_account_129 : decode cX12_account 129 = .ok (.lconst 1, 1) := by decide +kernel
theorem dX12_account_130 : decode cX12_account 130 = .ok (.goto 4, 3) := by decide +kernel
theorem dX12_account_133 : decode cX12_account 133 = .ok (.lconst 0, 1) := by decide +kernel
theorem dX12_account_134 : decode cX12_account 134 = .ok (.invokevirtual 162, 3) := by decide +kernel
theorem dX12_account_137 : decode cX12_account 137 = .ok (.aload_n 0, 1) := by decide +kernel
theorem dX12_account_138 : decode cX12_account 138 = .ok (.getfield 113, 3) := by decide +kernel
theorem dX12_account_141 : decode cX12_account 141 = .ok (.bipush 60, 2) := by decide +kernel
theorem dX12_account_143 : decode cX12_account 143 = .ok (.if_icmp .eq 10, 3) := by decide +kernel
theorem dX12_account_146 : decode cX12_account 146 = .ok (.aload_n 0, 1) := by decide +kernel
theorem dX12_account_147 : decode cX12_account 147 = .ok (.invokevirtual 166, 3) := by decide +kernel
theorem dX12_account_150 : decode cX12_account 150 = .ok (.ifCond .ne 6, 3) := by decide +kernel
theorem dX12_account_153 : decode cX12_account 153 = .ok (.bipush (-13), 2) := by decide +kernel
theorem dX12_account_155 : decode cX12_account 155 = .ok (.ireturn, 1) := by decide +kernel
theorem dX12_account_156 : decode cX12_account 156 = .ok (.aload_n 0, 1) := by decide +kernel
theorem dX12_account_157 : decode cX12_account 157 = .ok (.getfield 113, 3) := by decide +kernel
theorem dX12_account_160 : decode cX12_account 160 = .ok (.istore 5, 2) := by decide +kernel
theorem dX12_account_162 : decode cX12_account 162 = .ok (.aload_n 0, 1) := by decide +kernel
theorem dX12_account_163 : decode cX12_account 163 = .ok (.getfield 13, 3) := by decide +kernel
theorem dX12_account_166 : decode cX12_account 166 = .ok (.iload 5, 2) := by decide +kernel
theorem dX12_account_168 : decode cX12_account 168 = .ok (.iload_n 1, 1) := by decide +kernel
theorem dX12_account_169 : decode cX12_account 169 = .ok (.iastore, 1) := by decide +kernel
theorem dX12_account_170 : decode cX12_account 170 = .ok (.aload_n 0, 1) := by decide +kernel
theorem dX12_account_171 : decode cX12_account 171 = .ok (.getfield 17, 3) := by decide +kernel
theorem dX12_account_174 : decode cX12_account 174 = .ok (.iload 5, 2) := by decide +kernel
theorem dX12_account_176 : decode cX12_account 176 = .ok (.iload_n 2, 1) := by decide +kernel
theorem dX12_account_177 : decode cX12_account 177 = .ok (.iastore, 1) := by decide +kernel
theorem dX12_account_178 : decode cX12_account 178 = .ok (.aload_n 0, 1) := by decide +kernel
theorem dX12_account_179 : decode cX12_account 179 = .ok (.getfield 20, 3) := by decide +kernel
theorem dX12_account_182 : decode cX12_account 182 = .ok (.iload 5, 2) := by decide +kernel
theorem dX12_account_184 : decode cX12_account 184 = .ok (.iload_n 3, 1) := by decide +kernel
theorem dX12_account_185 : decode cX12_account 185 = .ok (.iastore, 1) := by decide +kernel
theorem dX12_account_186 : decode cX12_account 186 = .ok (.aload_n 0, 1) := by decide +kernel
theorem dX12_account_187 : decode cX12_account 187 = .ok (.getfield 23, 3) := by decide +kernel
theorem dX12_account_190 : decode cX12_account 190 = .ok (.iload 5, 2) := by decide +kernel
theorem dX12_account_192 : decode cX12_account 192 = .ok (.iload 4, 2) := by decide +kernel
theorem dX12_account_194 : decode cX12_account 194 = .ok (.bastore, 1) := by decide +kernel
theorem dX12_account_195 : decode cX12_account 195 = .ok (.aload_n 0, 1) := by decide +kernel
theorem dX12_account_196 : decode cX12_account 196 = .ok (.getfield 27, 3) := by decide +kernel
theorem dX12_account_199 : decode cX12_account 199 = .ok (.iload 5, 2) := by decide +kernel
theorem dX12_account_201 : decode cX12_account 201 = .ok (.iload_n 3, 1) := by decide +kernel
theorem dX12_account_202 : decode cX12_account 202 = .ok (.iconst (-1), 1) := by decide +kernel
theorem dX12_account_203 : decode cX12_account 203 = .ok (.if_icmp .ne 7, 3) := by decide +kernel
theorem dX12_account_206 : decode cX12_account 206 = .ok (.iconst 0, 1) := by decide +kernel
theorem dX12_account_207 : decode cX12_account 207 = .ok (.goto 11, 3) := by decide +kernel
theorem dX12_account_210 : decode cX12_account 210 = .ok (.aload_n 0, 1) := by decide +kernel
theorem dX12_account_211 : decode cX12_account 211 = .ok (.getfield 27, 3) := by decide +kernel
theorem dX12_account_214 : decode cX12_account 214 = .ok (.iload_n 3, 1) := by decide +kernel
theorem dX12_account_215 : decode cX12_account 215 = .ok (.iaload, 1) := by decide +kernel
theorem dX12_account_216 : decode cX12_account 216 = .ok (.iconst 1, 1) := by decide +kernel
theorem dX12_account_217 : decode cX12_account 217 = .ok (.iadd, 1) := by decide +kernel
theorem dX12_account_218 : decode cX12_account 218 = .ok (.iastore, 1) := by decide +kernel
theorem dX12_account_219 : decode cX12_account 219 = .ok (.aload_n 0, 1) := by decide +kernel
theorem dX12_account_220 : decode cX12_account 220 = .ok (.getfield 30, 3) := by decide +kernel
theorem dX12_account_223 : decode cX12_account 223 = .ok (.iload 5, 2) := by decide +kernel
theorem dX12_account_225 : decode cX12_account 225 = .ok (.iconst 0, 1) := by decide +kernel
theorem dX12_account_226 : decode cX12_account 226 = .ok (.bastore, 1) := by decide +kernel
theorem dX12_account_227 : decode cX12_account 227 = .ok (.aload_n 0, 1) := by decide +kernel
theorem dX12_account_228 : decode cX12_account 228 = .ok (.getfield 33, 3) := by decide +kernel
theorem dX12_account_231 : decode cX12_account 231 = .ok (.iload 5, 2) := by decide +kernel
theorem dX12_account_233 : decode cX12_account 233 = .ok (.lconst 0, 1) := by decide +kernel
theorem dX12_account_234 : decode cX12_account 234 = .ok (.lastore, 1) := by decide +kernel
theorem dX12_account_235 : decode cX12_account 235 = .ok (.aload_n 0, 1) := by decide +kernel
theorem dX12_account_236 : decode cX12_account 236 = .ok (.dup, 1) := by decide +kernel
theorem dX12_account_237 : decode cX12_account 237 = .ok (.getfield 113, 3) := by decide +kernel
theorem dX12_account_240 : decode cX12_account 240 = .ok (.iconst 1, 1) := by decide +kernel
theorem dX12_account_241 : decode cX12_account 241 = .ok (.iadd, 1) := by decide +kernel
theorem dX12_account_242 : decode cX12_account 242 = .ok (.putfield 113, 3) := by decide +kernel
theorem dX12_account_245 : decode cX12_account 245 = .ok (.aload_n 0, 1) := by decide +kernel
theorem dX12_account_246 : decode cX12_account 246 = .ok (.iconst 1, 1) := by decide +kernel
theorem dX12_account_247 : decode cX12_account 247 = .ok (.invokevirtual 170, 3) := by decide +kernel
theorem dX12_account_250 : decode cX12_account 250 = .ok (.iload 5, 2) := by decide +kernel
theorem dX12_account_252 : decode cX12_account 252 = .ok (.ireturn, 1) := by decide +kernel
theorem dX12_shut_0 : decode cX12_shut 0 = .ok (.aload_n 0, 1) := by decide +kernel
theorem dX12_shut_1 : decode cX12_shut 1 = .ok (.getfield 7, 3) := by decide +kernel
theorem dX12_shut_4 : decode cX12_shut 4 = .ok (.ifCond .ne 6, 3) := by decide +kernel
theorem dX12_shut_7 : decode cX12_shut 7 = .ok (.bipush (-6), 2) := by decide +kernel
theorem dX12_shut_9 : decode cX12_shut 9 = .ok (.ireturn, 1) := by decide +kernel
theorem dX12_shut_10 : decode cX12_shut 10 = .ok (.aload_n 0, 1) := by decide +kernel
theorem dX12_shut_11 : decode cX12_shut 11 = .ok (.iload_n 1, 1) := by decide +kernel
theorem dX12_shut_12 : decode cX12_shut 12 = .ok (.invokevirtual 148, 3) := by decide +kernel
theorem dX12_shut_15 : decode cX12_shut 15 = .ok (.ifCond .ne 6, 3) := by decide +kernel
theorem dX12_shut_18 : decode cX12_shut 18 = .ok (.bipush (-2), 2) := by decide +kernel
theorem dX12_shut_20 : decode cX12_shut 20 = .ok (.ireturn, 1) := by decide +kernel
theorem dX12_shut_21 : decode cX12_shut 21 = .ok (.aload_n 0, 1) := by decide +kernel
theorem dX12_shut_22 : decode cX12_shut 22 = .ok (.getfield 23, 3) := by decide +kernel
theorem dX12_shut_25 : decode cX12_shut 25 = .ok (.iload_n 1, 1) := by decide +kernel
theorem dX12_shut_26 : decode cX12_shut 26 = .ok (.baload, 1) := by decide +kernel
theorem dX12_shut_27 : decode cX12_shut 27 = .ok (.ifCond .eq 6, 3) := by decide +kernel
theorem dX12_shut_30 : decode cX12_shut 30 = .ok (.bipush (-4), 2) := by decide +kernel
theorem dX12_shut_32 : decode cX12_shut 32 = .ok (.ireturn, 1) := by decide +kernel
theorem dX12_shut_33 : decode cX12_shut 33 = .ok (.aload_n 0, 1) := by decide +kernel
theorem dX12_shut_34 : decode cX12_shut 34 = .ok (.getfield 30, 3) := by decide +kernel
theorem dX12_shut_37 : decode cX12_shut 37 = .ok (.iload_n 1, 1) := by decide +kernel
theorem dX12_shut_38 : decode cX12_shut 38 = .ok (.baload, 1) := by decide +kernel
theorem dX12_shut_39 : decode cX12_shut 39 = .ok (.iload_n 2, 1) := by decide +kernel
theorem dX12_shut_40 : decode cX12_shut 40 = .ok (.if_icmp .ne 6, 3) := by decide +kernel
theorem dX12_shut_43 : decode cX12_shut 43 = .ok (.bipush (-6), 2) := by decide +kernel
theorem dX12_shut_45 : decode cX12_shut 45 = .ok (.ireturn, 1) := by decide +kernel
theorem dX12_shut_46 : decode cX12_shut 46 = .ok (.aload_n 0, 1) := by decide +kernel
theorem dX12_shut_47 : decode cX12_shut 47 = .ok (.invokevirtual 159, 3) := by decide +kernel
theorem dX12_shut_50 : decode cX12_shut 50 = .ok (.aload_n 0, 1) := by decide +kernel
theorem dX12_shut_51 : decode cX12_shut 51 = .ok (.iload_n 1, 1) := by decide +kernel
theorem dX12_shut_52 : decode cX12_shut 52 = .ok (.i2l, 1) := by decide +kernel
theorem dX12_shut_53 : decode cX12_shut 53 = .ok (.invokevirtual 162, 3) := by decide +kernel
theorem dX12_shut_56 : decode cX12_shut 56 = .ok (.aload_n 0, 1) := by decide +kernel
theorem dX12_shut_57 : decode cX12_shut 57 = .ok (.iload_n 2, 1) := by decide +kernel
theorem dX12_shut_58 : decode cX12_shut 58 = .ok (.ifCond .eq 7, 3) := by decide +kernel
theorem dX12_shut_61 : decode cX12_shut 61 = .ok (.lconst 1, 1) := by decide +kernel
theorem dX12_shut_62 : decode cX12_shut 62 = .ok (.goto 4, 3) := by decide +kernel
theorem dX12_shut_65 : decode cX12_shut 65 = .ok (.lconst 0, 1) := by decide +kernel
theorem dX12_shut_66 : decode cX12_shut 66 = .ok (.invokevirtual 162, 3) := by decide +kernel
theorem dX12_shut_69 : decode cX12_shut 69 = .ok (.aload_n 0, 1) := by decide +kernel
theorem dX12_shut_70 : decode cX12_shut 70 = .ok (.invokevirtual 166, 3) := by decide +kernel
theorem dX12_shut_73 : decode cX12_shut 73 = .ok (.ifCond .ne 6, 3) := by decide +kernel
theorem dX12_shut_76 : decode cX12_shut 76 = .ok (.bipush (-13), 2) := by decide +kernel
theorem dX12_shut_78 : decode cX12_shut 78 = .ok (.ireturn, 1) := by decide +kernel
theorem dX12_shut_79 : decode cX12_shut 79 = .ok (.aload_n 0, 1) := by decide +kernel
theorem dX12_shut_80 : decode cX12_shut 80 = .ok (.getfield 30, 3) := by decide +kernel
theorem dX12_shut_83 : decode cX12_shut 83 = .ok (.iload_n 1, 1) := by decide +kernel
theorem dX12_shut_84 : decode cX12_shut 84 = .ok (.iload_n 2, 1) := by decide +kernel
theorem dX12_shut_85 : decode cX12_shut 85 = .ok (.bastore, 1) := by decide +kernel
theorem dX12_shut_86 : decode cX12_shut 86 = .ok (.aload_n 0, 1) := by decide +kernel
theorem dX12_shut_87 : decode cX12_shut 87 = .ok (.iconst 2, 1) := by decide +kernel
theorem dX12_shut_88 : decode cX12_shut 88 = .ok (.invokevirtual 170, 3) := by decide +kernel
theorem dX12_shut_91 : decode cX12_shut 91 = .ok (.iload_n 2, 1) := by decide +kernel
theorem dX12_shut_92 : decode cX12_shut 92 = .ok (.ifCond .eq 7, 3) := by decide +kernel
theorem dX12_shut_95 : decode cX12_shut 95 = .ok (.iconst 0, 1) := by decide +kernel
theorem dX12_shut_96 : decode cX12_shut 96 = .ok (.goto 4, 3) := by decide +kernel
theorem dX12_shut_99 : decode cX12_shut 99 = .ok (.iconst 1, 1) := by decide +kernel
theorem dX12_shut_100 : decode cX12_shut 100 = .ok (.ireturn, 1) := by decide +kernel
theorem dX12_firstDay_0 : decode cX12_firstDay 0 = .ok (.iload_n 1, 1) := by decide +kernel
theorem dX12_firstDay_1 : decode cX12_firstDay 1 = .ok (.ifCond .ne 7, 3) := by decide +kernel
theorem dX12_firstDay_4 : decode cX12_firstDay 4 = .ok (.iconst 0, 1) := by decide +kernel
theorem dX12_firstDay_5 : decode cX12_firstDay 5 = .ok (.goto 13, 3) := by decide +kernel
theorem dX12_firstDay_8 : decode cX12_firstDay 8 = .ok (.aload_n 0, 1) := by decide +kernel
theorem dX12_firstDay_9 : decode cX12_firstDay 9 = .ok (.getfield 41, 3) := by decide +kernel
theorem dX12_firstDay_12 : decode cX12_firstDay 12 = .ok (.iload_n 1, 1) := by decide +kernel
theorem dX12_firstDay_13 : decode cX12_firstDay 13 = .ok (.iconst 1, 1) := by decide +kernel
theorem dX12_firstDay_14 : decode cX12_firstDay 14 = .ok (.isub, 1) := by decide +kernel
theorem dX12_firstDay_15 : decode cX12_firstDay 15 = .ok (.iaload, 1) := by decide +kernel
theorem dX12_firstDay_16 : decode cX12_firstDay 16 = .ok (.iconst 1, 1) := by decide +kernel
theorem dX12_firstDay_17 : decode cX12_firstDay 17 = .ok (.iadd, 1) := by decide +kernel
theorem dX12_firstDay_18 : decode cX12_firstDay 18 = .ok (.ireturn, 1) := by decide +kernel
theorem dX12_period_0 : decode cX12_period 0 = .ok (.aload_n 0, 1) := by decide +kernel
theorem dX12_period_1 : decode cX12_period 1 = .ok (.getfield 7, 3) := by decide +kernel
theorem dX12_period_4 : decode cX12_period 4 = .ok (.ifCond .ne 6, 3) := by decide +kernel
theorem dX12_period_7 : decode cX12_period 7 = .ok (.bipush (-6), 2) := by decide +kernel
theorem dX12_period_9 : decode cX12_period 9 = .ok (.ireturn, 1) := by decide +kernel
theorem dX12_period_10 : decode cX12_period 10 = .ok (.iload_n 1, 1) := by decide +kernel
theorem dX12_period_11 : decode cX12_period 11 = .ok (.i2l, 1) := by decide +kernel
theorem dX12_period_12 : decode cX12_period 12 = .ok (.aload_n 0, 1) := by decide +kernel
theorem dX12_period_13 : decode cX12_period 13 = .ok (.aload_n 0, 1) := by decide +kernel
theorem dX12_period_14 : decode cX12_period 14 = .ok (.getfield 173, 3) := by decide +kernel
theorem dX12_period_17 : decode cX12_period 17 = .ok (.invokevirtual 176, 3) := by decide +kernel
theorem dX12_period_20 : decode cX12_period 20 = .ok (.i2l, 1) := by decide +kernel
theorem dX12_period_21 : decode cX12_period 21 = .ok (.ldc2_w 152, 3) := by decide +kernel
theorem dX12_period_24 : decode cX12_period 24 = .ok (.invokestatic 116, 3) := by decide +kernel
theorem dX12_period_27 : decode cX12_period 27 = .ok (.ifCond .ne 6, 3) := by decide +kernel
theorem dX12_period_30 : decode cX12_period 30 = .ok (.bipush (-3), 2) := by decide +kernel
theorem dX12_period_32 : decode cX12_period 32 = .ok (.ireturn, 1) := by decide +kernel
theorem dX12_period_33 : decode cX12_period 33 = .ok (.aload_n 0, 1) := by decide +kernel
theorem dX12_period_34 : decode cX12_period 34 = .ok (.invokevirtual 159, 3) := by decide +kernel
theorem dX12_period_37 : decode cX12_period 37 = .ok (.aload_n 0, 1) := by decide +kernel
theorem dX12_period_38 : decode cX12_period 38 = .ok (.iload_n 1, 1) := by decide +kernel
theorem dX12_period_39 : decode cX12_period 39 = .ok (.i2l, 1) := by decide +kernel
theorem dX12_period_40 : decode cX12_period 40 = .ok (.invokevirtual 162, 3) := by decide +kernel
theorem dX12_period_43 : decode cX12_period 43 = .ok (.aload_n 0, 1) := by decide +kernel
theorem dX12_period_44 : decode cX12_period 44 = .ok (.getfield 173, 3) := by decide +kernel
theorem dX12_period_47 : decode cX12_period 47 = .ok (.bipush 24, 2) := by decide +kernel
theorem dX12_period_49 : decode cX12_period 49 = .ok (.if_icmp .eq 10, 3) := by decide +kernel
theorem dX12_period_52 : decode cX12_period 52 = .ok (.aload_n 0, 1) := by decide +kernel
theorem dX12_period_53 : decode cX12_period 53 = .ok (.invokevirtual 166, 3) := by decide +kernel
theorem dX12_period_56 : decode cX12_period 56 = .ok (.ifCond .ne 6, 3) := by decide +kernel
theorem dX12_period_59 : decode cX12_period 59 = .ok (.bipush (-13), 2) := by decide +kernel
theorem dX12_period_61 : decode cX12_period 61 = .ok (.ireturn, 1) := by decide +kernel
theorem dX12_period_62 : decode cX12_period 62 = .ok (.aload_n 0, 1) := by decide +kernel
theorem dX12_period_63 : decode cX12_period 63 = .ok (.getfield 41, 3) := by decide +kernel
theorem dX12_period_66 : decode cX12_period 66 = .ok (.aload_n 0, 1) := by decide +kernel
theorem dX12_period_67 : decode cX12_period 67 = .ok (.getfield 173, 3) := by decide +kernel
theorem dX12_period_70 : decode cX12_period 70 = .ok (.iload_n 1, 1) := by decide +kernel
theorem dX12_period_71 : decode cX12_period 71 = .ok (.iastore, 1) := by decide +kernel
theorem dX12_period_72 : decode cX12_period 72 = .ok (.aload_n 0, 1) := by decide +kernel
theorem dX12_period_73 : decode cX12_period 73 = .ok (.getfield 44, 3) := by decide +kernel
theorem dX12_period_76 : decode cX12_period 76 = .ok (.aload_n 0, 1) := by decide +kernel
theorem dX12_period_77 : decode cX12_period 77 = .ok (.getfield 173, 3) := by decide +kernel
theorem dX12_period_80 : decode cX12_period 80 = .ok (.iconst (-1), 1) := by decide +kernel
theorem dX12_period_81 : decode cX12_period 81 = .ok (.iastore, 1) := by decide +kernel
theorem dX12_period_82 : decode cX12_period 82 = .ok (.aload_n 0, 1) := by decide +kernel
theorem dX12_period_83 : decode cX12_period 83 = .ok (.dup, 1) := by decide +kernel
theorem dX12_period_84 : decode cX12_period 84 = .ok (.getfield 173, 3) := by decide +kernel
theorem dX12_period_87 : decode cX12_period 87 = .ok (.iconst 1, 1) := by decide +kernel
theorem dX12_period_88 : decode cX12_period 88 = .ok (.iadd, 1) := by decide +kernel
theorem dX12_period_89 : decode cX12_period 89 = .ok (.putfield 173, 3) := by decide +kernel
theorem dX12_period_92 : decode cX12_period 92 = .ok (.aload_n 0, 1) := by decide +kernel
theorem dX12_period_93 : decode cX12_period 93 = .ok (.iconst 3, 1) := by decide +kernel
theorem dX12_period_94 : decode cX12_period 94 = .ok (.invokevirtual 170, 3) := by decide +kernel
theorem dX12_period_97 : decode cX12_period 97 = .ok (.aload_n 0, 1) := by decide +kernel
theorem dX12_period_98 : decode cX12_period 98 = .ok (.getfield 173, 3) := by decide +kernel
theorem dX12_period_101 : decode cX12_period 101 = .ok (.iconst 1, 1) := by decide +kernel
theorem dX12_period_102 : decode cX12_period 102 = .ok (.isub, 1) := by decide +kernel
theorem dX12_period_103 : decode cX12_period 103 = .ok (.ireturn, 1) := by decide +kernel
theorem dX12_owner_0 : decode cX12_owner 0 = .ok (.aload_n 0, 1) := by decide +kernel
theorem dX12_owner_1 : decode cX12_owner 1 = .ok (.getfield 7, 3) := by decide +kernel
theorem dX12_owner_4 : decode cX12_owner 4 = .ok (.ifCond .ne 6, 3) := by decide +kernel
theorem dX12_owner_7 : decode cX12_owner 7 = .ok (.bipush (-6), 2) := by decide +kernel
theorem dX12_owner_9 : decode cX12_owner 9 = .ok (.ireturn, 1) := by decide +kernel
theorem dX12_owner_10 : decode cX12_owner 10 = .ok (.aload_n 0, 1) := by decide +kernel
theorem dX12_owner_11 : decode cX12_owner 11 = .ok (.iload_n 1, 1) := by decide +kernel
theorem dX12_owner_12 : decode cX12_owner 12 = .ok (.invokevirtual 148, 3) := by decide +kernel
theorem dX12_owner_15 : decode cX12_owner 15 = .ok (.ifCond .ne 6, 3) := by decide +kernel
theorem dX12_owner_18 : decode cX12_owner 18 = .ok (.bipush (-2), 2) := by decide +kernel
theorem dX12_owner_20 : decode cX12_owner 20 = .ok (.ireturn, 1) := by decide +kernel
theorem dX12_owner_21 : decode cX12_owner 21 = .ok (.aload_n 0, 1) := by decide +kernel
theorem dX12_owner_22 : decode cX12_owner 22 = .ok (.getfield 23, 3) := by decide +kernel
theorem dX12_owner_25 : decode cX12_owner 25 = .ok (.iload_n 1, 1) := by decide +kernel
theorem dX12_owner_26 : decode cX12_owner 26 = .ok (.baload, 1) := by decide +kernel
theorem dX12_owner_27 : decode cX12_owner 27 = .ok (.ifCond .ne 13, 3) := by decide +kernel
theorem dX12_owner_30 : decode cX12_owner 30 = .ok (.aload_n 0, 1) := by decide +kernel
theorem dX12_owner_31 : decode cX12_owner 31 = .ok (.getfield 17, 3) := by decide +kernel
theorem dX12_owner_34 : decode cX12_owner 34 = .ok (.iload_n 1, 1) := by decide +kernel
theorem dX12_owner_35 : decode cX12_owner 35 = .ok (.iaload, 1) := by decide +kernel
theorem dX12_owner_36 : decode cX12_owner 36 = .ok (.iconst 2, 1) := by decide +kernel
theorem dX12_owner_37 : decode cX12_owner 37 = .ok (.if_icmp .eq 6, 3) := by decide +kernel
theorem dX12_owner_40 : decode cX12_owner 40 = .ok (.bipush (-4), 2) := by decide +kernel
theorem dX12_owner_42 : decode cX12_owner 42 = .ok (.ireturn, 1) := by decide +kernel
theorem dX12_owner_43 : decode cX12_owner 43 = .ok (.aload_n 0, 1) := by decide +kernel
theorem dX12_owner_44 : decode cX12_owner 44 = .ok (.invokevirtual 159, 3) := by decide +kernel
theorem dX12_owner_47 : decode cX12_owner 47 = .ok (.aload_n 0, 1) := by decide +kernel
theorem dX12_owner_48 : decode cX12_owner 48 = .ok (.iload_n 1, 1) := by decide +kernel
theorem dX12_owner_49 : decode cX12_owner 49 = .ok (.i2l, 1) := by decide +kernel
theorem dX12_owner_50 : decode cX12_owner 50 = .ok (.invokevirtual 162, 3) := by decide +kernel
theorem dX12_owner_53 : decode cX12_owner 53 = .ok (.aload_n 0, 1) := by decide +kernel
theorem dX12_owner_54 : decode cX12_owner 54 = .ok (.invokevirtual 166, 3) := by decide +kernel
theorem dX12_owner_57 : decode cX12_owner 57 = .ok (.ifCond .ne 6, 3) := by decide +kernel
theorem dX12_owner_60 : decode cX12_owner 60 = .ok (.bipush (-13), 2) := by decide +kernel
theorem dX12_owner_62 : decode cX12_owner 62 = .ok (.ireturn, 1) := by decide +kernel
theorem dX12_owner_63 : decode cX12_owner 63 = .ok (.aload_n 0, 1) := by decide +kernel
theorem dX12_owner_64 : decode cX12_owner 64 = .ok (.getfield 37, 3) := by decide +kernel
theorem dX12_owner_67 : decode cX12_owner 67 = .ok (.istore_n 2, 1) := by decide +kernel
theorem dX12_owner_68 : decode cX12_owner 68 = .ok (.aload_n 0, 1) := by decide +kernel
theorem dX12_owner_69 : decode cX12_owner 69 = .ok (.iload_n 1, 1) := by decide +kernel
theorem dX12_owner_70 : decode cX12_owner 70 = .ok (.putfield 37, 3) := by decide +kernel
theorem dX12_owner_73 : decode cX12_owner 73 = .ok (.aload_n 0, 1) := by decide +kernel
theorem dX12_owner_74 : decode cX12_owner 74 = .ok (.iconst 4, 1) := by decide +kernel
theorem dX12_owner_75 : decode cX12_owner 75 = .ok (.invokevirtual 170, 3) := by decide +kernel
theorem dX12_owner_78 : decode cX12_owner 78 = .ok (.iload_n 2, 1) := by decide +kernel
theorem dX12_owner_79 : decode cX12_owner 79 = .ok (.ireturn, 1) := by decide +kernel
theorem dX12_line_0 : decode cX12_line 0 = .ok (.aload_n 0, 1) := by decide +kernel
theorem dX12_line_1 : decode cX12_line 1 = .ok (.getfield 7, 3) := by decide +kernel
theorem dX12_line_4 : decode cX12_line 4 = .ok (.ifCond .ne 6, 3) := by decide +kernel
theorem dX12_line_7 : decode cX12_line 7 = .ok (.bipush (-6), 2) := by decide +kernel
theorem dX12_line_9 : decode cX12_line 9 = .ok (.ireturn, 1) := by decide +kernel
theorem dX12_line_10 : decode cX12_line 10 = .ok (.aload_n 0, 1) := by decide +kernel
theorem dX12_line_11 : decode cX12_line 11 = .ok (.iload_n 1, 1) := by decide +kernel
theorem dX12_line_12 : decode cX12_line 12 = .ok (.invokevirtual 148, 3) := by decide +kernel
theorem dX12_line_15 : decode cX12_line 15 = .ok (.ifCond .ne 6, 3) := by decide +kernel
theorem dX12_line_18 : decode cX12_line 18 = .ok (.bipush (-2), 2) := by decide +kernel
theorem dX12_line_20 : decode cX12_line 20 = .ok (.ireturn, 1) := by decide +kernel
theorem dX12_line_21 : decode cX12_line 21 = .ok (.lload_n 2, 1) := by decide +kernel
theorem dX12_line_22 : decode cX12_line 22 = .ok (.lconst 0, 1) := by decide +kernel
theorem dX12_line_23 : decode cX12_line 23 = .ok (.lcmp, 1) := by decide +kernel
theorem dX12_line_24 : decode cX12_line 24 = .ok (.ifCond .eq 16, 3) := by decide +kernel
theorem dX12_line_27 : decode cX12_line 27 = .ok (.lload_n 2, 1) := by decide +kernel
theorem dX12_line_28 : decode cX12_line 28 = .ok (.ldc2_w 180, 3) := by decide +kernel
theorem dX12_line_31 : decode cX12_line 31 = .ok (.ldc2_w 182, 3) := by decide +kernel
theorem dX12_line_34 : decode cX12_line 34 = .ok (.invokestatic 116, 3) := by decide +kernel
theorem dX12_line_37 : decode cX12_line 37 = .ok (.ifCond .ne 6, 3) := by decide +kernel
theorem dX12_line_40 : decode cX12_line 40 = .ok (.bipush (-3), 2) := by decide +kernel
theorem dX12_line_42 : decode cX12_line 42 = .ok (.ireturn, 1) := by decide +kernel
theorem dX12_line_43 : decode cX12_line 43 = .ok (.aload_n 0, 1) := by decide +kernel
theorem dX12_line_44 : decode cX12_line 44 = .ok (.getfield 23, 3) := by decide +kernel
theorem dX12_line_47 : decode cX12_line 47 = .ok (.iload_n 1, 1) := by decide +kernel
theorem dX12_line_48 : decode cX12_line 48 = .ok (.baload, 1) := by decide +kernel
theorem dX12_line_49 : decode cX12_line 49 = .ok (.ifCond .eq 6, 3) := by decide +kernel
theorem dX12_line_52 : decode cX12_line 52 = .ok (.bipush (-4), 2) := by decide +kernel
theorem dX12_line_54 : decode cX12_line 54 = .ok (.ireturn, 1) := by decide +kernel
theorem dX12_line_55 : decode cX12_line 55 = .ok (.aload_n 0, 1) := by decide +kernel
theorem dX12_line_56 : decode cX12_line 56 = .ok (.getfield 184, 3) := by decide +kernel
theorem dX12_line_59 : decode cX12_line 59 = .ok (.bipush 8, 2) := by decide +kernel
theorem dX12_line_61 : decode cX12_line 61 = .ok (.if_icmp .ne 6, 3) := by decide +kernel
theorem dX12_line_64 : decode cX12_line 64 = .ok (.bipush (-13), 2) := by decide +kernel
theorem dX12_line_66 : decode cX12_line 66 = .ok (.ireturn, 1) := by decide +kernel
theorem dX12_line_67 : decode cX12_line 67 = .ok (.aload_n 0, 1) := by decide +kernel
theorem dX12_line_68 : decode cX12_line 68 = .ok (.getfield 71, 3) := by decide +kernel
theorem dX12_line_71 : decode cX12_line 71 = .ok (.aload_n 0, 1) := by decide +kernel
theorem dX12_line_72 : decode cX12_line 72 = .ok (.getfield 184, 3) := by decide +kernel
theorem dX12_line_75 : decode cX12_line 75 = .ok (.iload_n 1, 1) := by decide +kernel
theorem dX12_line_76 : decode cX12_line 76 = .ok (.iastore, 1) := by decide +kernel
theorem dX12_line_77 : decode cX12_line 77 = .ok (.aload_n 0, 1) := by decide +kernel
theorem dX12_line_78 : decode cX12_line 78 = .ok (.getfield 74, 3) := by decide +kernel
theorem dX12_line_81 : decode cX12_line 81 = .ok (.aload_n 0, 1) := by decide +kernel
theorem dX12_line_82 : decode cX12_line 82 = .ok (.getfield 184, 3) := by decide +kernel
theorem dX12_line_85 : decode cX12_line 85 = .ok (.lload_n 2, 1) := by decide +kernel
theorem dX12_line_86 : decode cX12_line 86 = .ok (.lastore, 1) := by decide +kernel
theorem dX12_line_87 : decode cX12_line 87 = .ok (.aload_n 0, 1) := by decide +kernel
theorem dX12_line_88 : decode cX12_line 88 = .ok (.dup, 1) := by decide +kernel
theorem dX12_line_89 : decode cX12_line 89 = .ok (.getfield 184, 3) := by decide +kernel
theorem dX12_line_92 : decode cX12_line 92 = .ok (.iconst 1, 1) := by decide +kernel
theorem dX12_line_93 : decode cX12_line 93 = .ok (.iadd, 1) := by decide +kernel
theorem dX12_line_94 : decode cX12_line 94 = .ok (.putfield 184, 3) := by decide +kernel
theorem dX12_line_97 : decode cX12_line 97 = .ok (.aload_n 0, 1) := by decide +kernel
theorem dX12_line_98 : decode cX12_line 98 = .ok (.getfield 184, 3) := by decide +kernel
theorem dX12_line_101 : decode cX12_line 101 = .ok (.ireturn, 1) := by decide +kernel
theorem dX12_drop_0 : decode cX12_drop 0 = .ok (.aload_n 0, 1) := by decide +kernel
theorem dX12_drop_1 : decode cX12_drop 1 = .ok (.getfield 7, 3) := by decide +kernel
theorem dX12_drop_4 : decode cX12_drop 4 = .ok (.ifCond .ne 6, 3) := by decide +kernel
theorem dX12_drop_7 : decode cX12_drop 7 = .ok (.bipush (-6), 2) := by decide +kernel
theorem dX12_drop_9 : decode cX12_drop 9 = .ok (.ireturn, 1) := by decide +kernel
theorem dX12_drop_10 : decode cX12_drop 10 = .ok (.aload_n 0, 1) := by decide +kernel
theorem dX12_drop_11 : decode cX12_drop 11 = .ok (.getfield 184, 3) := by decide +kernel
theorem dX12_drop_14 : decode cX12_drop 14 = .ok (.istore_n 1, 1) := by decide +kernel
theorem dX12_drop_15 : decode cX12_drop 15 = .ok (.aload_n 0, 1) := by decide +kernel
theorem dX12_drop_16 : decode cX12_drop 16 = .ok (.iconst 0, 1) := by decide +kernel
theorem dX12_drop_17 : decode cX12_drop 17 = .ok (.putfield 184, 3) := by decide +kernel
theorem dX12_drop_20 : decode cX12_drop 20 = .ok (.iload_n 1, 1) := by decide +kernel
theorem dX12_drop_21 : decode cX12_drop 21 = .ok (.ireturn, 1) := by decide +kernel
theorem dX12_hand_0 : decode cX12_hand 0 = .ok (.aload_n 0, 1) := by decide +kernel
theorem dX12_hand_1 : decode cX12_hand 1 = .ok (.getfield 77, 3) := by decide +kernel
theorem dX12_hand_4 : decode cX12_hand 4 = .ok (.aload_n 0, 1) := by decide +kernel
theorem dX12_hand_5 : decode cX12_hand 5 = .ok (.getfield 187, 3) := by decide +kernel
theorem dX12_hand_8 : decode cX12_hand 8 = .ok (.iload_n 1, 1) := by decide +kernel
theorem dX12_hand_9 : decode cX12_hand 9 = .ok (.iastore, 1) := by decide +kernel
theorem dX12_hand_10 : decode cX12_hand 10 = .ok (.aload_n 0, 1) := by decide +kernel
theorem dX12_hand_11 : decode cX12_hand 11 = .ok (.getfield 80, 3) := by decide +kernel
theorem dX12_hand_14 : decode cX12_hand 14 = .ok (.aload_n 0, 1) := by decide +kernel
theorem dX12_hand_15 : decode cX12_hand 15 = .ok (.getfield 187, 3) := by decide +kernel
theorem dX12_hand_18 : decode cX12_hand 18 = .ok (.lload_n 2, 1) := by decide +kernel
theorem dX12_hand_19 : decode cX12_hand 19 = .ok (.lastore, 1) := by decide +kernel
theorem dX12_hand_20 : decode cX12_hand 20 = .ok (.aload_n 0, 1) := by decide +kernel
theorem dX12_hand_21 : decode cX12_hand 21 = .ok (.dup, 1) := by decide +kernel
theorem dX12_hand_22 : decode cX12_hand 22 = .ok (.getfield 187, 3) := by decide +kernel
theorem dX12_hand_25 : decode cX12_hand 25 = .ok (.iconst 1, 1) := by decide +kernel
theorem dX12_hand_26 : decode cX12_hand 26 = .ok (.iadd, 1) := by decide +kernel
theorem dX12_hand_27 : decode cX12_hand 27 = .ok (.putfield 187, 3) := by decide +kernel
theorem dX12_hand_30 : decode cX12_hand 30 = .ok (.return_, 1) := by decide +kernel
theorem dX12_periodAt_0 : decode cX12_periodAt 0 = .ok (.iconst (-1), 1) := by decide +kernel
theorem dX12_periodAt_1 : decode cX12_periodAt 1 = .ok (.istore_n 2, 1) := by decide +kernel
theorem dX12_periodAt_2 : decode cX12_periodAt 2 = .ok (.aload_n 0, 1) := by decide +kernel
theorem dX12_periodAt_3 : decode cX12_periodAt 3 = .ok (.getfield 173, 3) := by decide +kernel
theorem dX12_periodAt_6 : decode cX12_periodAt 6 = .ok (.iconst 1, 1) := by decide +kernel
theorem dX12_periodAt_7 : decode cX12_periodAt 7 = .ok (.isub, 1) := by decide +kernel
theorem dX12_periodAt_8 : decode cX12_periodAt 8 = .ok (.istore_n 3, 1) := by decide +kernel
theorem dX12_periodAt_9 : decode cX12_periodAt 9 = .ok (.iload_n 3, 1) := by decide +kernel
theorem dX12_periodAt_10 : decode cX12_periodAt 10 = .ok (.ifCond .lt 36, 3) := by decide +kernel
theorem dX12_periodAt_13 : decode cX12_periodAt 13 = .ok (.iload_n 1, 1) := by decide +kernel
theorem dX12_periodAt_14 : decode cX12_periodAt 14 = .ok (.i2l, 1) := by decide +kernel
theorem dX12_periodAt_15 : decode cX12_periodAt 15 = .ok (.aload_n 0, 1) := by decide +kernel
theorem dX12_periodAt_16 : decode cX12_periodAt 16 = .ok (.iload_n 3, 1) := by decide +kernel
theorem dX12_periodAt_17 : decode cX12_periodAt 17 = .ok (.invokevirtual 176, 3) := by decide +kernel
theorem dX12_periodAt_20 : decode cX12_periodAt 20 = .ok (.i2l, 1) := by decide +kernel
theorem dX12_periodAt_21 : decode cX12_periodAt 21 = .ok (.aload_n 0, 1) := by decide +kernel
theorem dX12_periodAt_22 : decode cX12_periodAt 22 = .ok (.getfield 41, 3) := by decide +kernel
theorem dX12_periodAt_25 : decode cX12_periodAt 25 = .ok (.iload_n 3, 1) := by decide +kernel
theorem dX12_periodAt_26 : decode cX12_periodAt 26 = .ok (.iaload, 1) := by decide +kernel
theorem dX12_periodAt_27 : decode cX12_periodAt 27 = .ok (.i2l, 1) := by decide +kernel
theorem dX12_periodAt_28 : decode cX12_periodAt 28 = .ok (.invokestatic 116, 3) := by decide +kernel
theorem dX12_periodAt_31 : decode cX12_periodAt 31 = .ok (.ifCond .eq 7, 3) := by decide +kernel
theorem dX12_periodAt_34 : decode cX12_periodAt 34 = .ok (.iload_n 3, 1) := by decide +kernel
theorem dX12_periodAt_35 : decode cX12_periodAt 35 = .ok (.goto 4, 3) := by decide +kernel
theorem dX12_periodAt_38 : decode cX12_periodAt 38 = .ok (.iload_n 2, 1) := by decide +kernel
theorem dX12_periodAt_39 : decode cX12_periodAt 39 = .ok (.istore_n 2, 1) := by decide +kernel
theorem dX12_periodAt_40 : decode cX12_periodAt 40 = .ok (.iinc 3 (-1), 3) := by decide +kernel
theorem dX12_periodAt_43 : decode cX12_periodAt 43 = .ok (.goto (-34), 3) := by decide +kernel
theorem dX12_periodAt_46 : decode cX12_periodAt 46 = .ok (.iload_n 2, 1) := by decide +kernel
theorem dX12_periodAt_47 : decode cX12_periodAt 47 = .ok (.ireturn, 1) := by decide +kernel
theorem dX12_isOver_0 : decode cX12_isOver 0 = .ok (.iconst 0, 1) := by decide +kernel
theorem dX12_isOver_1 : decode cX12_isOver 1 = .ok (.istore_n 1, 1) := by decide +kernel
theorem dX12_isOver_2 : decode cX12_isOver 2 = .ok (.iload_n 1, 1) := by decide +kernel
theorem dX12_isOver_3 : decode cX12_isOver 3 = .ok (.aload_n 0, 1) := by decide +kernel
theorem dX12_isOver_4 : decode cX12_isOver 4 = .ok (.getfield 187, 3) := by decide +kernel
theorem dX12_isOver_7 : decode cX12_isOver 7 = .ok (.if_icmp .ge 84, 3) := by decide +kernel
theorem dX12_isOver_10 : decode cX12_isOver 10 = .ok (.aload_n 0, 1) := by decide +kernel
theorem dX12_isOver_11 : decode cX12_isOver 11 = .ok (.getfield 33, 3) := by decide +kernel
theorem dX12_isOver_14 : decode cX12_isOver 14 = .ok (.aload_n 0, 1) := by decide +kernel
theorem dX12_isOver_15 : decode cX12_isOver 15 = .ok (.getfield 77, 3) := by decide +kernel
theorem dX12_isOver_18 : decode cX12_isOver 18 = .ok (.iload_n 1, 1) := by decide +kernel
theorem dX12_isOver_19 : decode cX12_isOver 19 = .ok (.iaload, 1) := by decide +kernel
theorem dX12_isOver_20 : decode cX12_isOver 20 = .ok (.laload, 1) := by decide +kernel
theorem dX12_isOver_21 : decode cX12_isOver 21 = .ok (.lstore_n 2, 1) := by decide +kernel
theorem dX12_isOver_22 : decode cX12_isOver 22 = .ok (.iconst 0, 1) := by decide +kernel
theorem dX12_isOver_23 : decode cX12_isOver 23 = .ok (.istore 4, 2) := by decide +kernel
theorem dX12_isOver_25 : decode cX12_isOver 25 = .ok (.iload 4, 2) := by decide +kernel
theorem dX12_isOver_27 : decode cX12_isOver 27 = .ok (.aload_n 0, 1) := by decide +kernel
theorem dX12_isOver_28 : decode cX12_isOver 28 = .ok (.getfield 187, 3) := by decide +kernel
theorem dX12_isOver_31 : decode cX12_isOver 31 = .ok (.if_icmp .ge 39, 3) := by decide +kernel
theorem dX12_isOver_34 : decode cX12_isOver 34 = .ok (.lload_n 2, 1) := by decide +kernel
theorem dX12_isOver_35 : decode cX12_isOver 35 = .ok (.aload_n 0, 1) := by decide +kernel
theorem dX12_isOver_36 : decode cX12_isOver 36 = .ok (.getfield 77, 3) := by decide +kernel
theorem dX12_isOver_39 : decode cX12_isOver 39 = .ok (.iload 4, 2) := by decide +kernel
theorem dX12_isOver_41 : decode cX12_isOver 41 = .ok (.iaload, 1) := by decide +kernel
theorem dX12_isOver_42 : decode cX12_isOver 42 = .ok (.aload_n 0, 1) := by decide +kernel
theorem dX12_isOver_43 : decode cX12_isOver 43 = .ok (.getfield 77, 3) := by decide +kernel
theorem dX12_isOver_46 : decode cX12_isOver 46 = .ok (.iload_n 1, 1) := by decide +kernel
theorem dX12_isOver_47 : decode cX12_isOver 47 = .ok (.iaload, 1) := by decide +kernel
theorem dX12_isOver_48 : decode cX12_isOver 48 = .ok (.if_icmp .ne 13, 3) := by decide +kernel
theorem dX12_isOver_51 : decode cX12_isOver 51 = .ok (.aload_n 0, 1) := by decide +kernel
theorem dX12_isOver_52 : decode cX12_isOver 52 = .ok (.getfield 80, 3) := by decide +kernel
theorem dX12_isOver_55 : decode cX12_isOver 55 = .ok (.iload 4, 2) := by decide +kernel
theorem dX12_isOver_57 : decode cX12_isOver 57 = .ok (.laload, 1) := by decide +kernel
theorem dX12_isOver_58 : decode cX12_isOver 58 = .ok (.goto 4, 3) := by decide +kernel
theorem dX12_isOver_61 : decode cX12_isOver 61 = .ok (.lconst 0, 1) := by decide +kernel
theorem dX12_isOver_62 : decode cX12_isOver 62 = .ok (.ladd, 1) := by decide +kernel
theorem dX12_isOver_63 : decode cX12_isOver 63 = .ok (.lstore_n 2, 1) := by decide +kernel
theorem dX12_isOver_64 : decode cX12_isOver 64 = .ok (.iinc 4 1, 3) := by decide +kernel
theorem dX12_isOver_67 : decode cX12_isOver 67 = .ok (.goto (-42), 3) := by decide +kernel
theorem dX12_isOver_70 : decode cX12_isOver 70 = .ok (.lload_n 2, 1) := by decide +kernel
theorem dX12_isOver_71 : decode cX12_isOver 71 = .ok (.ldc2_w 190, 3) := by decide +kernel
theorem dX12_isOver_74 : decode cX12_isOver 74 = .ok (.ldc2_w 192, 3) := by decide +kernel
theorem dX12_isOver_77 : decode cX12_isOver 77 = .ok (.invokestatic 116, 3) := by decide +kernel
theorem dX12_isOver_80 : decode cX12_isOver 80 = .ok (.ifCond .ne 5, 3) := by decide +kernel
theorem dX12_isOver_83 : decode cX12_isOver 83 = .ok (.iconst 1, 1) := by decide +kernel
theorem dX12_isOver_84 : decode cX12_isOver 84 = .ok (.ireturn, 1) := by decide +kernel
theorem dX12_isOver_85 : decode cX12_isOver 85 = .ok (.iinc 1 1, 3) := by decide +kernel
theorem dX12_isOver_88 : decode cX12_isOver 88 = .ok (.goto (-86), 3) := by decide +kernel
theorem dX12_isOver_91 : decode cX12_isOver 91 = .ok (.iconst 0, 1) := by decide +kernel
theorem dX12_isOver_92 : decode cX12_isOver 92 = .ok (.ireturn, 1) := by decide +kernel
theorem dX12_judged_0 : decode cX12_judged 0 = .ok (.aload_n 0, 1) := by decide +kernel
theorem dX12_judged_1 : decode cX12_judged 1 = .ok (.getfield 187, 3) := by decide +kernel
theorem dX12_judged_4 : decode cX12_judged 4 = .ok (.iconst 2, 1) := by decide +kernel
theorem dX12_judged_5 : decode cX12_judged 5 = .ok (.if_icmp .ge 6, 3) := by decide +kernel
theorem dX12_judged_8 : decode cX12_judged 8 = .ok (.bipush (-7), 2) := by decide +kernel
theorem dX12_judged_10 : decode cX12_judged 10 = .ok (.ireturn, 1) := by decide +kernel
theorem dX12_judged_11 : decode cX12_judged 11 = .ok (.lconst 0, 1) := by decide +kernel
theorem dX12_judged_12 : decode cX12_judged 12 = .ok (.lstore_n 2, 1) := by decide +kernel
theorem dX12_judged_13 : decode cX12_judged 13 = .ok (.iconst 0, 1) := by decide +kernel
theorem dX12_judged_14 : decode cX12_judged 14 = .ok (.istore 4, 2) := by decide +kernel
theorem dX12_judged_16 : decode cX12_judged 16 = .ok (.iconst 0, 1) := by decide +kernel
theorem dX12_judged_17 : decode cX12_judged 17 = .ok (.istore 5, 2) := by decide +kernel
theorem dX12_judged_19 : decode cX12_judged 19 = .ok (.iload 5, 2) := by decide +kernel
theorem dX12_judged_21 : decode cX12_judged 21 = .ok (.aload_n 0, 1) := by decide +kernel
theorem dX12_judged_22 : decode cX12_judged 22 = .ok (.getfield 187, 3) := by decide +kernel
theorem dX12_judged_25 : decode cX12_judged 25 = .ok (.if_icmp .ge 46, 3) := by decide +kernel
theorem dX12_judged_28 : decode cX12_judged 28 = .ok (.lload_n 2, 1) := by decide +kernel
theorem dX12_judged_29 : decode cX12_judged 29 = .ok (.aload_n 0, 1) := by decide +kernel
theorem dX12_judged_30 : decode cX12_judged 30 = .ok (.getfield 80, 3) := by decide +kernel
theorem dX12_judged_33 : decode cX12_judged 33 = .ok (.iload 5, 2) := by decide +kernel
theorem dX12_judged_35 : decode cX12_judged 35 = .ok (.laload, 1) := by decide +kernel
theorem dX12_judged_36 : decode cX12_judged 36 = .ok (.ladd, 1) := by decide +kernel
theorem dX12_judged_37 : decode cX12_judged 37 = .ok (.lstore_n 2, 1) := by decide +kernel
theorem dX12_judged_38 : decode cX12_judged 38 = .ok (.iload 4, 2) := by decide +kernel
theorem dX12_judged_40 : decode cX12_judged 40 = .ok (.ifCond .ne 18, 3) := by decide +kernel
theorem dX12_judged_43 : decode cX12_judged 43 = .ok (.aload_n 0, 1) := by decide +kernel
theorem dX12_judged_44 : decode cX12_judged 44 = .ok (.getfield 30, 3) := by decide +kernel
theorem dX12_judged_47 : decode cX12_judged 47 = .ok (.aload_n 0, 1) := by decide +kernel
theorem dX12_judged_48 : decode cX12_judged 48 = .ok (.getfield 77, 3) := by decide +kernel
theorem dX12_judged_51 : decode cX12_judged 51 = .ok (.iload 5, 2) := by decide +kernel
theorem dX12_judged_53 : decode cX12_judged 53 = .ok (.iaload, 1) := by decide +kernel
theorem dX12_judged_54 : decode cX12_judged 54 = .ok (.baload, 1) := by decide +kernel
theorem dX12_judged_55 : decode cX12_judged 55 = .ok (.ifCond .eq 7, 3) := by decide +kernel
theorem dX12_judged_58 : decode cX12_judged 58 = .ok (.iconst 1, 1) := by decide +kernel
theorem dX12_judged_59 : decode cX12_judged 59 = .ok (.goto 4, 3) := by decide +kernel
theorem dX12_judged_62 : decode cX12_judged 62 = .ok (.iconst 0, 1) := by decide +kernel
theorem dX12_judged_63 : decode cX12_judged 63 = .ok (.istore 4, 2) := by decide +kernel
theorem dX12_judged_65 : decode cX12_judged 65 = .ok (.iinc 5 1, 3) := by decide +kernel
theorem dX12_judged_68 : decode cX12_judged 68 = .ok (.goto (-49), 3) := by decide +kernel
theorem dX12_judged_71 : decode cX12_judged 71 = .ok (.lload_n 2, 1) := by decide +kernel
theorem dX12_judged_72 : decode cX12_judged 72 = .ok (.lconst 0, 1) := by decide +kernel
theorem dX12_judged_73 : decode cX12_judged 73 = .ok (.lcmp, 1) := by decide +kernel
theorem dX12_judged_74 : decode cX12_judged 74 = .ok (.ifCond .eq 6, 3) := by decide +kernel
theorem dX12_judged_77 : decode cX12_judged 77 = .ok (.bipush (-8), 2) := by decide +kernel
theorem dX12_judged_79 : decode cX12_judged 79 = .ok (.ireturn, 1) := by decide +kernel
theorem dX12_judged_80 : decode cX12_judged 80 = .ok (.aload_n 0, 1) := by decide +kernel
theorem dX12_judged_81 : decode cX12_judged 81 = .ok (.iload_n 1, 1) := by decide +kernel
theorem dX12_judged_82 : decode cX12_judged 82 = .ok (.invokevirtual 194, 3) := by decide +kernel
theorem dX12_judged_85 : decode cX12_judged 85 = .ok (.istore 5, 2) := by decide +kernel
theorem dX12_judged_87 : decode cX12_judged 87 = .ok (.iload 5, 2) := by decide +kernel
theorem dX12_judged_89 : decode cX12_judged 89 = .ok (.iconst (-1), 1) := by decide +kernel
theorem dX12_judged_90 : decode cX12_judged 90 = .ok (.if_icmp .ne 6, 3) := by decide +kernel
theorem dX12_judged_93 : decode cX12_judged 93 = .ok (.bipush (-9), 2) := by decide +kernel
theorem dX12_judged_95 : decode cX12_judged 95 = .ok (.ireturn, 1) := by decide +kernel
theorem dX12_judged_96 : decode cX12_judged 96 = .ok (.iload 5, 2) := by decide +kernel
theorem dX12_judged_98 : decode cX12_judged 98 = .ok (.aload_n 0, 1) := by decide +kernel
theorem dX12_judged_99 : decode cX12_judged 99 = .ok (.getfield 197, 3) := by decide +kernel
theorem dX12_judged_102 : decode cX12_judged 102 = .ok (.if_icmp .ge 6, 3) := by decide +kernel
theorem dX12_judged_105 : decode cX12_judged 105 = .ok (.bipush (-10), 2) := by decide +kernel
theorem dX12_judged_107 : decode cX12_judged 107 = .ok (.ireturn, 1) := by decide +kernel
theorem dX12_judged_108 : decode cX12_judged 108 = .ok (.iload 4, 2) := by decide +kernel
theorem dX12_judged_110 : decode cX12_judged 110 = .ok (.ifCond .eq 6, 3) := by decide +kernel
theorem dX12_judged_113 : decode cX12_judged 113 = .ok (.bipush (-11), 2) := by decide +kernel
theorem dX12_judged_115 : decode cX12_judged 115 = .ok (.ireturn, 1) := by decide +kernel
theorem dX12_judged_116 : decode cX12_judged 116 = .ok (.aload_n 0, 1) := by decide +kernel
theorem dX12_judged_117 : decode cX12_judged 117 = .ok (.invokevirtual 200, 3) := by decide +kernel
theorem dX12_judged_120 : decode cX12_judged 120 = .ok (.ifCond .eq 6, 3) := by decide +kernel
theorem dX12_judged_123 : decode cX12_judged 123 = .ok (.bipush (-12), 2) := by decide +kernel
theorem dX12_judged_125 : decode cX12_judged 125 = .ok (.ireturn, 1) := by decide +kernel
theorem dX12_judged_126 : decode cX12_judged 126 = .ok (.aload_n 0, 1) := by decide +kernel
theorem dX12_judged_127 : decode cX12_judged 127 = .ok (.getfield 203, 3) := by decide +kernel
theorem dX12_judged_130 : decode cX12_judged 130 = .ok (.sipush 400, 3) := by decide +kernel
theorem dX12_judged_133 : decode cX12_judged 133 = .ok (.if_icmp .eq 10, 3) := by decide +kernel
theorem dX12_judged_136 : decode cX12_judged 136 = .ok (.aload_n 0, 1) := by decide +kernel
theorem dX12_judged_137 : decode cX12_judged 137 = .ok (.invokevirtual 166, 3) := by decide +kernel
theorem dX12_judged_140 : decode cX12_judged 140 = .ok (.ifCond .ne 8, 3) := by decide +kernel
theorem dX12_judged_143 : decode cX12_judged 143 = .ok (.bipush (-13), 2) := by decide +kernel
theorem dX12_judged_145 : decode cX12_judged 145 = .ok (.goto 4, 3) := by decide +kernel
theorem dX12_judged_148 : decode cX12_judged 148 = .ok (.iconst 0, 1) := by decide +kernel
theorem dX12_judged_149 : decode cX12_judged 149 = .ok (.ireturn, 1) := by decide +kernel
theorem dX12_enter_0 : decode cX12_enter 0 = .ok (.aload_n 0, 1) := by decide +kernel
theorem dX12_enter_1 : decode cX12_enter 1 = .ok (.getfield 203, 3) := by decide +kernel
theorem dX12_enter_4 : decode cX12_enter 4 = .ok (.istore 5, 2) := by decide +kernel
theorem dX12_enter_6 : decode cX12_enter 6 = .ok (.aload_n 0, 1) := by decide +kernel
theorem dX12_enter_7 : decode cX12_enter 7 = .ok (.getfield 47, 3) := by decide +kernel
theorem dX12_enter_10 : decode cX12_enter 10 = .ok (.iload 5, 2) := by decide +kernel
theorem dX12_enter_12 : decode cX12_enter 12 = .ok (.iload_n 1, 1) := by decide +kernel
theorem dX12_enter_13 : decode cX12_enter 13 = .ok (.iastore, 1) := by decide +kernel
theorem dX12_enter_14 : decode cX12_enter 14 = .ok (.aload_n 0, 1) := by decide +kernel
theorem dX12_enter_15 : decode cX12_enter 15 = .ok (.getfield 50, 3) := by decide +kernel
theorem dX12_enter_18 : decode cX12_enter 18 = .ok (.iload 5, 2) := by decide +kernel
theorem dX12_enter_20 : decode cX12_enter 20 = .ok (.iload_n 2, 1) := by decide +kernel
theorem dX12_enter_21 : decode cX12_enter 21 = .ok (.iastore, 1) := by decide +kernel
theorem dX12_enter_22 : decode cX12_enter 22 = .ok (.aload_n 0, 1) := by decide +kernel
theorem dX12_enter_23 : decode cX12_enter 23 = .ok (.getfield 53, 3) := by decide +kernel
theorem dX12_enter_26 : decode cX12_enter 26 = .ok (.iload 5, 2) := by decide +kernel
theorem dX12_enter_28 : decode cX12_enter 28 = .ok (.iload_n 3, 1) := by decide +kernel
theorem dX12_enter_29 : decode cX12_enter 29 = .ok (.iastore, 1) := by decide +kernel
theorem dX12_enter_30 : decode cX12_enter 30 = .ok (.aload_n 0, 1) := by decide +kernel
theorem dX12_enter_31 : decode cX12_enter 31 = .ok (.getfield 59, 3) := by decide +kernel
theorem dX12_enter_34 : decode cX12_enter 34 = .ok (.iload 5, 2) := by decide +kernel
theorem dX12_enter_36 : decode cX12_enter 36 = .ok (.iconst (-1), 1) := by decide +kernel
theorem dX12_enter_37 : decode cX12_enter 37 = .ok (.iastore, 1) := by decide +kernel
theorem dX12_enter_38 : decode cX12_enter 38 = .ok (.aload_n 0, 1) := by decide +kernel
theorem dX12_enter_39 : decode cX12_enter 39 = .ok (.getfield 62, 3) := by decide +kernel
theorem dX12_enter_42 : decode cX12_enter 42 = .ok (.iload 5, 2) := by decide +kernel
theorem dX12_enter_44 : decode cX12_enter 44 = .ok (.iload 4, 2) := by decide +kernel
theorem dX12_enter_46 : decode cX12_enter 46 = .ok (.iastore, 1) := by decide +kernel
theorem dX12_enter_47 : decode cX12_enter 47 = .ok (.iconst 0, 1) := by decide +kernel
theorem dX12_enter_48 : decode cX12_enter 48 = .ok (.istore 6, 2) := by decide +kernel
theorem dX12_enter_50 : decode cX12_enter 50 = .ok (.iload 6, 2) := by decide +kernel
theorem dX12_enter_52 : decode cX12_enter 52 = .ok (.aload_n 0, 1) := by decide +kernel
theorem dX12_enter_53 : decode cX12_enter 53 = .ok (.getfield 187, 3) := by decide +kernel
theorem dX12_enter_56 : decode cX12_enter 56 = .ok (.if_icmp .ge 75, 3) := by decide +kernel
theorem dX12_enter_59 : decode cX12_enter 59 = .ok (.aload_n 0, 1) := by decide +kernel
theorem dX12_enter_60 : decode cX12_enter 60 = .ok (.getfield 65, 3) := by decide +kernel
theorem dX12_enter_63 : decode cX12_enter 63 = .ok (.aload_n 0, 1) := by decide +kernel
theorem dX12_enter_64 : decode cX12_enter 64 = .ok (.getfield 56, 3) := by decide +kernel
theorem dX12_enter_67 : decode cX12_enter 67 = .ok (.iload 5, 2) := by decide +kernel
theorem dX12_enter_69 : decode cX12_enter 69 = .ok (.iaload, 1) := by decide +kernel
theorem dX12_enter_70 : decode cX12_enter 70 = .ok (.iload 6, 2) := by decide +kernel
theorem dX12_enter_72 : decode cX12_enter 72 = .ok (.iadd, 1) := by decide +kernel
theorem dX12_enter_73 : decode cX12_enter 73 = .ok (.aload_n 0, 1) := by decide +kernel
theorem dX12_enter_74 : decode cX12_enter 74 = .ok (.getfield 77, 3) := by decide +kernel
theorem dX12_enter_77 : decode cX12_enter 77 = .ok (.iload 6, 2) := by decide +kernel
theorem dX12_enter_79 : decode cX12_enter 79 = .ok (.iaload, 1) := by decide +kernel
theorem dX12_enter_80 : decode cX12_enter 80 = .ok (.iastore, 1) := by decide +kernel
theorem dX12_enter_81 : decode cX12_enter 81 = .ok (.aload_n 0, 1) := by decide +kernel
theorem dX12_enter_82 : decode cX12_enter 82 = .ok (.getfield 68, 3) := by decide +kernel
theorem dX12_enter_85 : decode cX12_enter 85 = .ok (.aload_n 0, 1) := by decide +kernel
theorem dX12_enter_86 : decode cX12_enter 86 = .ok (.getfield 56, 3) := by decide +kernel
theorem dX12_enter_89 : decode cX12_enter 89 = .ok (.iload 5, 2) := by decide +kernel
theorem dX12_enter_91 : decode cX12_enter 91 = .ok (.iaload, 1) := by decide +kernel
theorem dX12_enter_92 : decode cX12_enter 92 = .ok (.iload 6, 2) := by decide +kernel
theorem dX12_enter_94 : decode cX12_enter 94 = .ok (.iadd, 1) := by decide +kernel
theorem dX12_enter_95 : decode cX12_enter 95 = .ok (.aload_n 0, 1) := by decide +kernel
theorem dX12_enter_96 : decode cX12_enter 96 = .ok (.getfield 80, 3) := by decide +kernel
theorem dX12_enter_99 : decode cX12_enter 99 = .ok (.iload 6, 2) := by decide +kernel
theorem dX12_enter_101 : decode cX12_enter 101 = .ok (.laload, 1) := by decide +kernel
theorem dX12_enter_102 : decode cX12_enter 102 = .ok (.lastore, 1) := by decide +kernel
theorem dX12_enter_103 : decode cX12_enter 103 = .ok (.aload_n 0, 1) := by decide +kernel
theorem dX12_enter_104 : decode cX12_enter 104 = .ok (.getfield 33, 3) := by decide +kernel
theorem dX12_enter_107 : decode cX12_enter 107 = .ok (.aload_n 0, 1) := by decide +kernel
theorem dX12_enter_108 : decode cX12_enter 108 = .ok (.getfield 77, 3) := by decide +kernel
theorem dX12_enter_111 : decode cX12_enter 111 = .ok (.iload 6, 2) := by decide +kernel
theorem dX12_enter_113 : decode cX12_enter 113 = .ok (.iaload, 1) := by decide +kernel
theorem dX12_enter_114 : decode cX12_enter 114 = .ok (.dup2, 1) := by decide +kernel
theorem dX12_enter_115 : decode cX12_enter 115 = .ok (.laload, 1) := by decide +kernel
theorem dX12_enter_116 : decode cX12_enter 116 = .ok (.aload_n 0, 1) := by decide +kernel
theorem dX12_enter_117 : decode cX12_enter 117 = .ok (.getfield 80, 3) := by decide +kernel
theorem dX12_enter_120 : decode cX12_enter 120 = .ok (.iload 6, 2) := by decide +kernel
theorem dX12_enter_122 : decode cX12_enter 122 = .ok (.laload, 1) := by decide +kernel
theorem dX12_enter_123 : decode cX12_enter 123 = .ok (.ladd, 1) := by decide +kernel
theorem dX12_enter_124 : decode cX12_enter 124 = .ok (.lastore, 1) := by decide +kernel
theorem dX12_enter_125 : decode cX12_enter 125 = .ok (.iinc 6 1, 3) := by decide +kernel
theorem dX12_enter_128 : decode cX12_enter 128 = .ok (.goto (-78), 3) := by decide +kernel
theorem dX12_enter_131 : decode cX12_enter 131 = .ok (.aload_n 0, 1) := by decide +kernel
theorem dX12_enter_132 : decode cX12_enter 132 = .ok (.getfield 56, 3) := by decide +kernel
theorem dX12_enter_135 : decode cX12_enter 135 = .ok (.iload 5, 2) := by decide +kernel
theorem dX12_enter_137 : decode cX12_enter 137 = .ok (.iconst 1, 1) := by decide +kernel
theorem dX12_enter_138 : decode cX12_enter 138 = .ok (.iadd, 1) := by decide +kernel
theorem dX12_enter_139 : decode cX12_enter 139 = .ok (.aload_n 0, 1) := by decide +kernel
theorem dX12_enter_140 : decode cX12_enter 140 = .ok (.getfield 56, 3) := by decide +kernel
theorem dX12_enter_143 : decode cX12_enter 143 = .ok (.iload 5, 2) := by decide +kernel
theorem dX12_enter_145 : decode cX12_enter 145 = .ok (.iaload, 1) := by decide +kernel
theorem dX12_enter_146 : decode cX12_enter 146 = .ok (.aload_n 0, 1) := by decide +kernel
theorem dX12_enter_147 : decode cX12_enter 147 = .ok (.getfield 187, 3) := by decide +kernel
theorem dX12_enter_150 : decode cX12_enter 150 = .ok (.iadd, 1) := by decide +kernel
theorem dX12_enter_151 : decode cX12_enter 151 = .ok (.iastore, 1) := by decide +kernel
theorem dX12_enter_152 : decode cX12_enter 152 = .ok (.aload_n 0, 1) := by decide +kernel
theorem dX12_enter_153 : decode cX12_enter 153 = .ok (.dup, 1) := by decide +kernel
theorem dX12_enter_154 : decode cX12_enter 154 = .ok (.getfield 203, 3) := by decide +kernel
theorem dX12_enter_157 : decode cX12_enter 157 = .ok (.iconst 1, 1) := by decide +kernel
theorem dX12_enter_158 : decode cX12_enter 158 = .ok (.iadd, 1) := by decide +kernel
theorem dX12_enter_159 : decode cX12_enter 159 = .ok (.putfield 203, 3) := by decide +kernel
theorem dX12_enter_162 : decode cX12_enter 162 = .ok (.iload 5, 2) := by decide +kernel
theorem dX12_enter_164 : decode cX12_enter 164 = .ok (.ireturn, 1) := by decide +kernel
theorem dX12_sayPost_0 : decode cX12_sayPost 0 = .ok (.aload_n 0, 1) := by decide +kernel
theorem dX12_sayPost_1 : decode cX12_sayPost 1 = .ok (.invokevirtual 159, 3) := by decide +kernel
theorem dX12_sayPost_4 : decode cX12_sayPost 4 = .ok (.aload_n 0, 1) := by decide +kernel
theorem dX12_sayPost_5 : decode cX12_sayPost 5 = .ok (.iload_n 1, 1) := by decide +kernel
theorem dX12_sayPost_6 : decode cX12_sayPost 6 = .ok (.i2l, 1) := by decide +kernel
theorem dX12_sayPost_7 : decode cX12_sayPost 7 = .ok (.invokevirtual 162, 3) := by decide +kernel
theorem dX12_sayPost_10 : decode cX12_sayPost 10 = .ok (.aload_n 0, 1) := by decide +kernel
theorem dX12_sayPost_11 : decode cX12_sayPost 11 = .ok (.iload_n 2, 1) := by decide +kernel
theorem dX12_sayPost_12 : decode cX12_sayPost 12 = .ok (.i2l, 1) := by decide +kernel
theorem dX12_sayPost_13 : decode cX12_sayPost 13 = .ok (.invokevirtual 162, 3) := by decide +kernel
theorem dX12_sayPost_16 : decode cX12_sayPost 16 = .ok (.aload_n 0, 1) := by decide +kernel
theorem dX12_sayPost_17 : decode cX12_sayPost 17 = .ok (.aload_n 0, 1) := by decide +kernel
theorem dX12_sayPost_18 : decode cX12_sayPost 18 = .ok (.getfield 187, 3) := by decide +kernel
theorem dX12_sayPost_21 : decode cX12_sayPost 21 = .ok (.i2l, 1) := by decide +kernel
theorem dX12_sayPost_22 : decode cX12_sayPost 22 = .ok (.invokevirtual 162, 3) := by decide +kernel
theorem dX12_sayPost_25 : decode cX12_sayPost 25 = .ok (.iconst 0, 1) := by decide +kernel
theorem dX12_sayPost_26 : decode cX12_sayPost 26 = .ok (.istore_n 3, 1) := by decide +kernel
theorem dX12_sayPost_27 : decode cX12_sayPost 27 = .ok (.iload_n 3, 1) := by decide +kernel
theorem dX12_sayPost_28 : decode cX12_sayPost 28 = .ok (.aload_n 0, 1) := by decide +kernel
theorem dX12_sayPost_29 : decode cX12_sayPost 29 = .ok (.getfield 187, 3) := by decide +kernel
theorem dX12_sayPost_32 : decode cX12_sayPost 32 = .ok (.if_icmp .ge 30, 3) := by decide +kernel
theorem dX12_sayPost_35 : decode cX12_sayPost 35 = .ok (.aload_n 0, 1) := by decide +kernel
theorem dX12_sayPost_36 : decode cX12_sayPost 36 = .ok (.aload_n 0, 1) := by decide +kernel
theorem dX12_sayPost_37 : decode cX12_sayPost 37 = .ok (.getfield 77, 3) := by decide +kernel
theorem dX12_sayPost_40 : decode cX12_sayPost 40 = .ok (.iload_n 3, 1) := by decide +kernel
theorem dX12_sayPost_41 : decode cX12_sayPost 41 = .ok (.iaload, 1) := by decide +kernel
theorem dX12_sayPost_42 : decode cX12_sayPost 42 = .ok (.i2l, 1) := by decide +kernel
theorem dX12_sayPost_43 : decode cX12_sayPost 43 = .ok (.invokevirtual 162, 3) := by decide +kernel
theorem dX12_sayPost_46 : decode cX12_sayPost 46 = .ok (.aload_n 0, 1) := by decide +kernel
theorem dX12_sayPost_47 : decode cX12_sayPost 47 = .ok (.aload_n 0, 1) := by decide +kernel
theorem dX12_sayPost_48 : decode cX12_sayPost 48 = .ok (.getfield 80, 3) := by decide +kernel
theorem dX12_sayPost_51 : decode cX12_sayPost 51 = .ok (.iload_n 3, 1) := by decide +kernel
theorem dX12_sayPost_52 : decode cX12_sayPost 52 = .ok (.laload, 1) := by decide +kernel
theorem dX12_sayPost_53 : decode cX12_sayPost 53 = .ok (.invokevirtual 162, 3) := by decide +kernel
theorem dX12_sayPost_56 : decode cX12_sayPost 56 = .ok (.iinc 3 1, 3) := by decide +kernel
theorem dX12_sayPost_59 : decode cX12_sayPost 59 = .ok (.goto (-32), 3) := by decide +kernel
theorem dX12_sayPost_62 : decode cX12_sayPost 62 = .ok (.return_, 1) := by decide +kernel
theorem dX12_posted_0 : decode cX12_posted 0 = .ok (.aload_n 0, 1) := by decide +kernel
theorem dX12_posted_1 : decode cX12_posted 1 = .ok (.iload_n 1, 1) := by decide +kernel
theorem dX12_posted_2 : decode cX12_posted 2 = .ok (.iload_n 2, 1) := by decide +kernel
theorem dX12_posted_3 : decode cX12_posted 3 = .ok (.invokevirtual 206, 3) := by decide +kernel
theorem dX12_posted_6 : decode cX12_posted 6 = .ok (.aload_n 0, 1) := by decide +kernel
theorem dX12_posted_7 : decode cX12_posted 7 = .ok (.iload_n 1, 1) := by decide +kernel
theorem dX12_posted_8 : decode cX12_posted 8 = .ok (.invokevirtual 210, 3) := by decide +kernel
theorem dX12_posted_11 : decode cX12_posted 11 = .ok (.istore_n 3, 1) := by decide +kernel
theorem dX12_posted_12 : decode cX12_posted 12 = .ok (.iload_n 3, 1) := by decide +kernel
theorem dX12_posted_13 : decode cX12_posted 13 = .ok (.ifCond .ge 5, 3) := by decide +kernel
theorem dX12_posted_16 : decode cX12_posted 16 = .ok (.iload_n 3, 1) := by decide +kernel
theorem dX12_posted_17 : decode cX12_posted 17 = .ok (.ireturn, 1) := by decide +kernel
theorem dX12_posted_18 : decode cX12_posted 18 = .ok (.aload_n 0, 1) := by decide +kernel
theorem dX12_posted_19 : decode cX12_posted 19 = .ok (.iload_n 1, 1) := by decide +kernel
theorem dX12_posted_20 : decode cX12_posted 20 = .ok (.iload_n 2, 1) := by decide +kernel
theorem dX12_posted_21 : decode cX12_posted 21 = .ok (.iconst 0, 1) := by decide +kernel
theorem dX12_posted_22 : decode cX12_posted 22 = .ok (.iconst (-1), 1) := by decide +kernel
theorem dX12_posted_23 : decode cX12_posted 23 = .ok (.invokevirtual 213, 3) := by decide +kernel
theorem dX12_posted_26 : decode cX12_posted 26 = .ok (.istore 4, 2) := by decide +kernel
theorem dX12_posted_28 : decode cX12_posted 28 = .ok (.aload_n 0, 1) := by decide +kernel
theorem dX12_posted_29 : decode cX12_posted 29 = .ok (.iconst 5, 1) := by decide +kernel
theorem dX12_posted_30 : decode cX12_posted 30 = .ok (.invokevirtual 170, 3) := by decide +kernel
theorem dX12_posted_33 : decode cX12_posted 33 = .ok (.iload 4, 2) := by decide +kernel
theorem dX12_posted_35 : decode cX12_posted 35 = .ok (.ireturn, 1) := by decide +kernel
theorem dX12_post_0 : decode cX12_post 0 = .ok (.aload_n 0, 1) := by decide +kernel
theorem dX12_post_1 : decode cX12_post 1 = .ok (.getfield 7, 3) := by decide +kernel
theorem dX12_post_4 : decode cX12_post 4 = .ok (.ifCond .ne 6, 3) := by decide +kernel
theorem dX12_post_7 : decode cX12_post 7 = .ok (.bipush (-6), 2) := by decide +kernel
theorem dX12_post_9 : decode cX12_post 9 = .ok (.ireturn, 1) := by decide +kernel
theorem dX12_post_10 : decode cX12_post 10 = .ok (.aload_n 0, 1) := by decide +kernel
theorem dX12_post_11 : decode cX12_post 11 = .ok (.iconst 0, 1) := by decide +kernel
theorem dX12_post_12 : decode cX12_post 12 = .ok (.putfield 187, 3) := by decide +kernel
theorem dX12_post_15 : decode cX12_post 15 = .ok (.iconst 0, 1) := by decide +kernel
theorem dX12_post_16 : decode cX12_post 16 = .ok (.istore_n 3, 1) := by decide +kernel
theorem dX12_post_17 : decode cX12_post 17 = .ok (.iload_n 3, 1) := by decide +kernel
theorem dX12_post_18 : decode cX12_post 18 = .ok (.aload_n 0, 1) := by decide +kernel
theorem dX12_post_19 : decode cX12_post 19 = .ok (.getfield 184, 3) := by decide +kernel
theorem dX12_post_22 : decode cX12_post 22 = .ok (.if_icmp .ge 25, 3) := by decide +kernel
theorem dX12_post_25 : decode cX12_post 25 = .ok (.aload_n 0, 1) := by decide +kernel
theorem dX12_post_26 : decode cX12_post 26 = .ok (.aload_n 0, 1) := by decide +kernel
theorem dX12_post_27 : decode cX12_post 27 = .ok (.getfield 71, 3) := by decide +kernel
theorem dX12_post_30 : decode cX12_post 30 = .ok (.iload_n 3, 1) := by decide +kernel
theorem dX12_post_31 : decode cX12_post 31 = .ok (.iaload, 1) := by decide +kernel
theorem dX12_post_32 : decode cX12_post 32 = .ok (.aload_n 0, 1) := by decide +kernel
theorem dX12_post_33 : decode cX12_post 33 = .ok (.getfield 74, 3) := by decide +kernel
theorem dX12_post_36 : decode cX12_post 36 = .ok (.iload_n 3, 1) := by decide +kernel
theorem dX12_post_37 : decode cX12_post 37 = .ok (.laload, 1) := by decide +kernel
theorem dX12_post_38 : decode cX12_post 38 = .ok (.invokevirtual 217, 3) := by decide +kernel
theorem dX12_post_41 : decode cX12_post 41 = .ok (.iinc 3 1, 3) := by decide +kernel
theorem dX12_post_44 : decode cX12_post 44 = .ok (.goto (-27), 3) := by decide +kernel
theorem dX12_post_47 : decode cX12_post 47 = .ok (.aload_n 0, 1) := by decide +kernel
theorem dX12_post_48 : decode cX12_post 48 = .ok (.iload_n 1, 1) := by decide +kernel
theorem dX12_post_49 : decode cX12_post 49 = .ok (.iload_n 2, 1) := by decide +kernel
theorem dX12_post_50 : decode cX12_post 50 = .ok (.invokevirtual 221, 3) := by decide +kernel
theorem dX12_post_53 : decode cX12_post 53 = .ok (.istore_n 3, 1) := by decide +kernel
theorem dX12_post_54 : decode cX12_post 54 = .ok (.aload_n 0, 1) := by decide +kernel
theorem dX12_post_55 : decode cX12_post 55 = .ok (.iload_n 3, 1) := by decide +kernel
theorem dX12_post_56 : decode cX12_post 56 = .ok (.ifCond .ge 10, 3) := by decide +kernel
theorem dX12_post_59 : decode cX12_post 59 = .ok (.aload_n 0, 1) := by decide +kernel
theorem dX12_post_60 : decode cX12_post 60 = .ok (.getfield 184, 3) := by decide +kernel
theorem dX12_post_63 : decode cX12_post 63 = .ok (.goto 4, 3) := by decide +kernel
theorem dX12_post_66 : decode cX12_post 66 = .ok (.iconst 0, 1) := by decide +kernel
theorem dX12_post_67 : decode cX12_post 67 = .ok (.putfield 184, 3) := by decide +kernel
theorem dX12_post_70 : decode cX12_post 70 = .ok (.iload_n 3, 1) := by decide +kernel
theorem dX12_post_71 : decode cX12_post 71 = .ok (.ireturn, 1) := by decide +kernel
theorem dX12_back_0 : decode cX12_back 0 = .ok (.aload_n 0, 1) := by decide +kernel
theorem dX12_back_1 : decode cX12_back 1 = .ok (.getfield 7, 3) := by decide +kernel
theorem dX12_back_4 : decode cX12_back 4 = .ok (.ifCond .ne 6, 3) := by decide +kernel
theorem dX12_back_7 : decode cX12_back 7 = .ok (.bipush (-6), 2) := by decide +kernel
theorem dX12_back_9 : decode cX12_back 9 = .ok (.ireturn, 1) := by decide +kernel
theorem dX12_back_10 : decode cX12_back 10 = .ok (.iload_n 1, 1) := by decide +kernel
theorem dX12_back_11 : decode cX12_back 11 = .ok (.i2l, 1) := by decide +kernel
theorem dX12_back_12 : decode cX12_back 12 = .ok (.lconst 0, 1) := by decide +kernel
theorem dX12_back_13 : decode cX12_back 13 = .ok (.aload_n 0, 1) := by decide +kernel
theorem dX12_back_14 : decode cX12_back 14 = .ok (.getfield 203, 3) := by decide +kernel
theorem dX12_back_17 : decode cX12_back 17 = .ok (.iconst 1, 1) := by decide +kernel
theorem dX12_back_18 : decode cX12_back 18 = .ok (.isub, 1) := by decide +kernel
theorem dX12_back_19 : decode cX12_back 19 = .ok (.i2l, 1) := by decide +kernel
theorem dX12_back_20 : decode cX12_back 20 = .ok (.invokestatic 116, 3) := by decide +kernel
theorem dX12_back_23 : decode cX12_back 23 = .ok (.ifCond .ne 6, 3) := by decide +kernel
theorem dX12_back_26 : decode cX12_back 26 = .ok (.bipush (-2), 2) := by decide +kernel
theorem dX12_back_28 : decode cX12_back 28 = .ok (.ireturn, 1) := by decide +kernel
theorem dX12_back_29 : decode cX12_back 29 = .ok (.aload_n 0, 1) := by decide +kernel
theorem dX12_back_30 : decode cX12_back 30 = .ok (.getfield 53, 3) := by decide +kernel
theorem dX12_back_33 : decode cX12_back 33 = .ok (.iload_n 1, 1) := by decide +kernel
theorem dX12_back_34 : decode cX12_back 34 = .ok (.iaload, 1) := by decide +kernel
theorem dX12_back_35 : decode cX12_back 35 = .ok (.ifCond .eq 6, 3) := by decide +kernel
theorem dX12_back_38 : decode cX12_back 38 = .ok (.bipush (-4), 2) := by decide +kernel
theorem dX12_back_40 : decode cX12_back 40 = .ok (.ireturn, 1) := by decide +kernel
theorem dX12_back_41 : decode cX12_back 41 = .ok (.aload_n 0, 1) := by decide +kernel
theorem dX12_back_42 : decode cX12_back 42 = .ok (.getfield 59, 3) := by decide +kernel
theorem dX12_back_45 : decode cX12_back 45 = .ok (.iload_n 1, 1) := by decide +kernel
theorem dX12_back_46 : decode cX12_back 46 = .ok (.iaload, 1) := by decide +kernel
theorem dX12_back_47 : decode cX12_back 47 = .ok (.iconst (-1), 1) := by decide +kernel
theorem dX12_back_48 : decode cX12_back 48 = .ok (.if_icmp .eq 6, 3) := by decide +kernel
theorem dX12_back_51 : decode cX12_back 51 = .ok (.bipush (-5), 2) := by decide +kernel
theorem dX12_back_53 : decode cX12_back 53 = .ok (.ireturn, 1) := by decide +kernel
theorem dX12_back_54 : decode cX12_back 54 = .ok (.aload_n 0, 1) := by decide +kernel
theorem dX12_back_55 : decode cX12_back 55 = .ok (.iload_n 1, 1) := by decide +kernel
theorem dX12_back_56 : decode cX12_back 56 = .ok (.invokevirtual 224, 3) := by decide +kernel
theorem dX12_back_59 : decode cX12_back 59 = .ok (.aload_n 0, 1) := by decide +kernel
theorem dX12_back_60 : decode cX12_back 60 = .ok (.invokevirtual 159, 3) := by decide +kernel
theorem dX12_back_63 : decode cX12_back 63 = .ok (.aload_n 0, 1) := by decide +kernel
theorem dX12_back_64 : decode cX12_back 64 = .ok (.iload_n 1, 1) := by decide +kernel
theorem dX12_back_65 : decode cX12_back 65 = .ok (.i2l, 1) := by decide +kernel
theorem dX12_back_66 : decode cX12_back 66 = .ok (.invokevirtual 162, 3) := by decide +kernel
theorem dX12_back_69 : decode cX12_back 69 = .ok (.aload_n 0, 1) := by decide +kernel
theorem dX12_back_70 : decode cX12_back 70 = .ok (.iload_n 2, 1) := by decide +kernel
theorem dX12_back_71 : decode cX12_back 71 = .ok (.i2l, 1) := by decide +kernel
theorem dX12_back_72 : decode cX12_back 72 = .ok (.invokevirtual 162, 3) := by decide +kernel
theorem dX12_back_75 : decode cX12_back 75 = .ok (.aload_n 0, 1) := by decide +kernel
theorem dX12_back_76 : decode cX12_back 76 = .ok (.iload_n 2, 1) := by decide +kernel
theorem dX12_back_77 : decode cX12_back 77 = .ok (.invokevirtual 210, 3) := by decide +kernel
theorem dX12_back_80 : decode cX12_back 80 = .ok (.istore_n 3, 1) := by decide +kernel
theorem dX12_back_81 : decode cX12_back 81 = .ok (.iload_n 3, 1) := by decide +kernel
theorem dX12_back_82 : decode cX12_back 82 = .ok (.ifCond .ge 5, 3) := by decide +kernel
theorem dX12_back_85 : decode cX12_back 85 = .ok (.iload_n 3, 1) := by decide +kernel
theorem dX12_back_86 : decode cX12_back 86 = .ok (.ireturn, 1) := by decide +kernel
theorem dX12_back_87 : decode cX12_back 87 = .ok (.aload_n 0, 1) := by decide +kernel
theorem dX12_back_88 : decode cX12_back 88 = .ok (.iload_n 2, 1) := by decide +kernel
theorem dX12_back_89 : decode cX12_back 89 = .ok (.aload_n 0, 1) := by decide +kernel
theorem dX12_back_90 : decode cX12_back 90 = .ok (.getfield 50, 3) := by decide +kernel
theorem dX12_back_93 : decode cX12_back 93 = .ok (.iload_n 1, 1) := by decide +kernel
theorem dX12_back_94 : decode cX12_back 94 = .ok (.iaload, 1) := by decide +kernel
theorem dX12_back_95 : decode cX12_back 95 = .ok (.iconst 1, 1) := by decide +kernel
theorem dX12_back_96 : decode cX12_back 96 = .ok (.iload_n 1, 1) := by decide +kernel
theorem dX12_back_97 : decode cX12_back 97 = .ok (.invokevirtual 213, 3) := by decide +kernel
theorem dX12_back_100 : decode cX12_back 100 = .ok (.istore 4, 2) := by decide +kernel
theorem dX12_back_102 : decode cX12_back 102 = .ok (.aload_n 0, 1) := by decide +kernel
theorem dX12_back_103 : decode cX12_back 103 = .ok (.getfield 59, 3) := by decide +kernel
theorem dX12_back_106 : decode cX12_back 106 = .ok (.iload_n 1, 1) := by decide +kernel
theorem dX12_back_107 : decode cX12_back 107 = .ok (.iload 4, 2) := by decide +kernel
theorem dX12_back_109 : decode cX12_back 109 = .ok (.iastore, 1) := by decide +kernel
theorem dX12_back_110 : decode cX12_back 110 = .ok (.aload_n 0, 1) := by decide +kernel
theorem dX12_back_111 : decode cX12_back 111 = .ok (.bipush 6, 2) := by decide +kernel
theorem dX12_back_113 : decode cX12_back 113 = .ok (.invokevirtual 170, 3) := by decide +kernel
theorem dX12_back_116 : decode cX12_back 116 = .ok (.iload 4, 2) := by decide +kernel
theorem dX12_back_118 : decode cX12_back 118 = .ok (.ireturn, 1) := by decide +kernel
theorem dX12_turned_0 : decode cX12_turned 0 = .ok (.aload_n 0, 1) := by decide +kernel
theorem dX12_turned_1 : decode cX12_turned 1 = .ok (.iconst 0, 1) := by decide +kernel
theorem dX12_turned_2 : decode cX12_turned 2 = .ok (.putfield 187, 3) := by decide +kernel
theorem dX12_turned_5 : decode cX12_turned 5 = .ok (.aload_n 0, 1) := by decide +kernel
theorem dX12_turned_6 : decode cX12_turned 6 = .ok (.getfield 56, 3) := by decide +kernel
theorem dX12_turned_9 : decode cX12_turned 9 = .ok (.iload_n 1, 1) := by decide +kernel
theorem dX12_turned_10 : decode cX12_turned 10 = .ok (.iaload, 1) := by decide +kernel
theorem dX12_turned_11 : decode cX12_turned 11 = .ok (.istore_n 2, 1) := by decide +kernel
theorem dX12_turned_12 : decode cX12_turned 12 = .ok (.iload_n 2, 1) := by decide +kernel
theorem dX12_turned_13 : decode cX12_turned 13 = .ok (.aload_n 0, 1) := by decide +kernel
theorem dX12_turned_14 : decode cX12_turned 14 = .ok (.getfield 56, 3) := by decide +kernel
theorem dX12_turned_17 : decode cX12_turned 17 = .ok (.iload_n 1, 1) := by decide +kernel
theorem dX12_turned_18 : decode cX12_turned 18 = .ok (.iconst 1, 1) := by decide +kernel
theorem dX12_turned_19 : decode cX12_turned 19 = .ok (.iadd, 1) := by decide +kernel
theorem dX12_turned_20 : decode cX12_turned 20 = .ok (.iaload, 1) := by decide +kernel
theorem dX12_turned_21 : decode cX12_turned 21 = .ok (.if_icmp .ge 26, 3) := by decide +kernel
theorem dX12_turned_24 : decode cX12_turned 24 = .ok (.aload_n 0, 1) := by decide +kernel
theorem dX12_turned_25 : decode cX12_turned 25 = .ok (.aload_n 0, 1) := by decide +kernel
theorem dX12_turned_26 : decode cX12_turned 26 = .ok (.getfield 65, 3) := by decide +kernel
theorem dX12_turned_29 : decode cX12_turned 29 = .ok (.iload_n 2, 1) := by decide +kernel
theorem dX12_turned_30 : decode cX12_turned 30 = .ok (.iaload, 1) := by decide +kernel
theorem dX12_turned_31 : decode cX12_turned 31 = .ok (.aload_n 0, 1) := by decide +kernel
theorem dX12_turned_32 : decode cX12_turned 32 = .ok (.getfield 68, 3) := by decide +kernel
theorem dX12_turned_35 : decode cX12_turned 35 = .ok (.iload_n 2, 1) := by decide +kernel
theorem dX12_turned_36 : decode cX12_turned 36 = .ok (.laload, 1) := by decide +kernel
theorem dX12_turned_37 : decode cX12_turned 37 = .ok (.lneg, 1) := by decide +kernel
theorem dX12_turned_38 : decode cX12_turned 38 = .ok (.invokevirtual 217, 3) := by decide +kernel
theorem dX12_turned_41 : decode cX12_turned 41 = .ok (.iinc 2 1, 3) := by decide +kernel
theorem dX12_turned_44 : decode cX12_turned 44 = .ok (.goto (-32), 3) := by decide +kernel
theorem dX12_turned_47 : decode cX12_turned 47 = .ok (.return_, 1) := by decide +kernel
theorem dX12_sumOf_0 : decode cX12_sumOf 0 = .ok (.lconst 0, 1) := by decide +kernel
theorem dX12_sumOf_1 : decode cX12_sumOf 1 = .ok (.lstore 4, 2) := by decide +kernel
theorem dX12_sumOf_3 : decode cX12_sumOf 3 = .ok (.iconst 0, 1) := by decide +kernel
theorem dX12_sumOf_4 : decode cX12_sumOf 4 = .ok (.istore 6, 2) := by decide +kernel
theorem dX12_sumOf_6 : decode cX12_sumOf 6 = .ok (.iload 6, 2) := by decide +kernel
theorem dX12_sumOf_8 : decode cX12_sumOf 8 = .ok (.aload_n 0, 1) := by decide +kernel
theorem dX12_sumOf_9 : decode cX12_sumOf 9 = .ok (.getfield 203, 3) := by decide +kernel
theorem dX12_sumOf_12 : decode cX12_sumOf 12 = .ok (.if_icmp .ge 83, 3) := by decide +kernel
theorem dX12_sumOf_15 : decode cX12_sumOf 15 = .ok (.aload_n 0, 1) := by decide +kernel
theorem dX12_sumOf_16 : decode cX12_sumOf 16 = .ok (.getfield 56, 3) := by decide +kernel
theorem dX12_sumOf_19 : decode cX12_sumOf 19 = .ok (.iload 6, 2) := by decide +kernel
theorem dX12_sumOf_21 : decode cX12_sumOf 21 = .ok (.iaload, 1) := by decide +kernel
theorem dX12_sumOf_22 : decode cX12_sumOf 22 = .ok (.istore 7, 2) := by decide +kernel
theorem dX12_sumOf_24 : decode cX12_sumOf 24 = .ok (.iload 7, 2) := by decide +kernel
theorem dX12_sumOf_26 : decode cX12_sumOf 26 = .ok (.aload_n 0, 1) := by decide +kernel
theorem dX12_sumOf_27 : decode cX12_sumOf 27 = .ok (.getfield 56, 3) := by decide +kernel
theorem dX12_sumOf_30 : decode cX12_sumOf 30 = .ok (.iload 6, 2) := by decide +kernel
theorem dX12_sumOf_32 : decode cX12_sumOf 32 = .ok (.iconst 1, 1) := by decide +kernel
theorem dX12_sumOf_33 : decode cX12_sumOf 33 = .ok (.iadd, 1) := by decide +kernel
theorem dX12_sumOf_34 : decode cX12_sumOf 34 = .ok (.iaload, 1) := by decide +kernel
theorem dX12_sumOf_35 : decode cX12_sumOf 35 = .ok (.if_icmp .ge 54, 3) := by decide +kernel
theorem dX12_sumOf_38 : decode cX12_sumOf 38 = .ok (.aload_n 0, 1) := by decide +kernel
theorem dX12_sumOf_39 : decode cX12_sumOf 39 = .ok (.getfield 47, 3) := by decide +kernel
theorem dX12_sumOf_42 : decode cX12_sumOf 42 = .ok (.iload 6, 2) := by decide +kernel
theorem dX12_sumOf_44 : decode cX12_sumOf 44 = .ok (.iaload, 1) := by decide +kernel
theorem dX12_sumOf_45 : decode cX12_sumOf 45 = .ok (.i2l, 1) := by decide +kernel
theorem dX12_sumOf_46 : decode cX12_sumOf 46 = .ok (.iload_n 2, 1) := by decide +kernel
theorem dX12_sumOf_47 : decode cX12_sumOf 47 = .ok (.i2l, 1) := by decide +kernel
theorem dX12_sumOf_48 : decode cX12_sumOf 48 = .ok (.iload_n 3, 1) := by decide +kernel
theorem dX12_sumOf_49 : decode cX12_sumOf 49 = .ok (.i2l, 1) := by decide +kernel
theorem dX12_sumOf_50 : decode cX12_sumOf 50 = .ok (.invokestatic 116, 3) := by decide +kernel
theorem dX12_sumOf_53 : decode cX12_sumOf 53 = .ok (.ifCond .eq 36, 3) := by decide +kernel
theorem dX12_sumOf_56 : decode cX12_sumOf 56 = .ok (.lload 4, 2) := by decide +kernel
theorem dX12_sumOf_58 : decode cX12_sumOf 58 = .ok (.aload_n 0, 1) := by decide +kernel
theorem dX12_sumOf_59 : decode cX12_sumOf 59 = .ok (.getfield 65, 3) := by decide +kernel
theorem dX12_sumOf_62 : decode cX12_sumOf 62 = .ok (.iload 7, 2) := by decide +kernel
theorem dX12_sumOf_64 : decode cX12_sumOf 64 = .ok (.iaload, 1) := by decide +kernel
theorem dX12_sumOf_65 : decode cX12_sumOf 65 = .ok (.iload_n 1, 1) := by decide +kernel
theorem dX12_sumOf_66 : decode cX12_sumOf 66 = .ok (.if_icmp .ne 13, 3) := by decide +kernel
theorem dX12_sumOf_69 : decode cX12_sumOf 69 = .ok (.aload_n 0, 1) := by decide +kernel
theorem dX12_sumOf_70 : decode cX12_sumOf 70 = .ok (.getfield 68, 3) := by decide +kernel
theorem dX12_sumOf_73 : decode cX12_sumOf 73 = .ok (.iload 7, 2) := by decide +kernel
theorem dX12_sumOf_75 : decode cX12_sumOf 75 = .ok (.laload, 1) := by decide +kernel
theorem dX12_sumOf_76 : decode cX12_sumOf 76 = .ok (.goto 4, 3) := by decide +kernel
theorem dX12_sumOf_79 : decode cX12_sumOf 79 = .ok (.lconst 0, 1) := by decide +kernel
theorem dX12_sumOf_80 : decode cX12_sumOf 80 = .ok (.ladd, 1) := by decide +kernel
theorem dX12_sumOf_81 : decode cX12_sumOf 81 = .ok (.lstore 4, 2) := by decide +kernel
theorem dX12_sumOf_83 : decode cX12_sumOf 83 = .ok (.iinc 7 1, 3) := by decide +kernel
theorem dX12_sumOf_86 : decode cX12_sumOf 86 = .ok (.goto (-62), 3) := by decide +kernel
theorem dX12_sumOf_89 : decode cX12_sumOf 89 = .ok (.iinc 6 1, 3) := by decide +kernel
theorem dX12_sumOf_92 : decode cX12_sumOf 92 = .ok (.goto (-86), 3) := by decide +kernel
theorem dX12_sumOf_95 : decode cX12_sumOf 95 = .ok (.lload 4, 2) := by decide +kernel
theorem dX12_sumOf_97 : decode cX12_sumOf 97 = .ok (.lreturn, 1) := by decide +kernel
theorem dX12_nextCode_0 : decode cX12_nextCode 0 = .ok (.iconst (-1), 1) := by decide +kernel
theorem dX12_nextCode_1 : decode cX12_nextCode 1 = .ok (.istore_n 2, 1) := by decide +kernel
theorem dX12_nextCode_2 : decode cX12_nextCode 2 = .ok (.iconst 0, 1) := by decide +kernel
theorem dX12_nextCode_3 : decode cX12_nextCode 3 = .ok (.istore_n 3, 1) := by decide +kernel
theorem dX12_nextCode_4 : decode cX12_nextCode 4 = .ok (.iload_n 3, 1) := by decide +kernel
theorem dX12_nextCode_5 : decode cX12_nextCode 5 = .ok (.aload_n 0, 1) := by decide +kernel
theorem dX12_nextCode_6 : decode cX12_nextCode 6 = .ok (.getfield 113, 3) := by decide +kernel
theorem dX12_nextCode_9 : decode cX12_nextCode 9 = .ok (.if_icmp .ge 44, 3) := by decide +kernel
theorem dX12_nextCode_12 : decode cX12_nextCode 12 = .ok (.aload_n 0, 1) := by decide +kernel
theorem dX12_nextCode_13 : decode cX12_nextCode 13 = .ok (.getfield 13, 3) := by decide +kernel
theorem dX12_nextCode_16 : decode cX12_nextCode 16 = .ok (.iload_n 3, 1) := by decide +kernel
theorem dX12_nextCode_17 : decode cX12_nextCode 17 = .ok (.iaload, 1) := by decide +kernel
theorem dX12_nextCode_18 : decode cX12_nextCode 18 = .ok (.iload_n 1, 1) := by decide +kernel
theorem dX12_nextCode_19 : decode cX12_nextCode 19 = .ok (.if_icmp .le 26, 3) := by decide +kernel
theorem dX12_nextCode_22 : decode cX12_nextCode 22 = .ok (.iload_n 2, 1) := by decide +kernel
theorem dX12_nextCode_23 : decode cX12_nextCode 23 = .ok (.ifCond .lt 18, 3) := by decide +kernel
theorem dX12_nextCode_26 : decode cX12_nextCode 26 = .ok (.aload_n 0, 1) := by decide +kernel
theorem dX12_nextCode_27 : decode cX12_nextCode 27 = .ok (.getfield 13, 3) := by decide +kernel
theorem dX12_nextCode_30 : decode cX12_nextCode 30 = .ok (.iload_n 3, 1) := by decide +kernel
theorem dX12_nextCode_31 : decode cX12_nextCode 31 = .ok (.iaload, 1) := by decide +kernel
theorem dX12_nextCode_32 : decode cX12_nextCode 32 = .ok (.aload_n 0, 1) := by decide +kernel
theorem dX12_nextCode_33 : decode cX12_nextCode 33 = .ok (.getfield 13, 3) := by decide +kernel
theorem dX12_nextCode_36 : decode cX12_nextCode 36 = .ok (.iload_n 2, 1) := by decide +kernel
theorem dX12_nextCode_37 : decode cX12_nextCode 37 = .ok (.iaload, 1) := by decide +kernel
theorem dX12_nextCode_38 : decode cX12_nextCode 38 = .ok (.if_icmp .ge 7, 3) := by decide +kernel
theorem dX12_nextCode_41 : decode cX12_nextCode 41 = .ok (.iload_n 3, 1) := by decide +kernel
theorem dX12_nextCode_42 : decode cX12_nextCode 42 = .ok (.goto 4, 3) := by decide +kernel
theorem dX12_nextCode_45 : decode cX12_nextCode 45 = .ok (.iload_n 2, 1) := by decide +kernel
theorem dX12_nextCode_46 : decode cX12_nextCode 46 = .ok (.istore_n 2, 1) := by decide +kernel
theorem dX12_nextCode_47 : decode cX12_nextCode 47 = .ok (.iinc 3 1, 3) := by decide +kernel
theorem dX12_nextCode_50 : decode cX12_nextCode 50 = .ok (.goto (-46), 3) := by decide +kernel
theorem dX12_nextCode_53 : decode cX12_nextCode 53 = .ok (.iload_n 2, 1) := by decide +kernel
theorem dX12_nextCode_54 : decode cX12_nextCode 54 = .ok (.ireturn, 1) := by decide +kernel
theorem dX12_close_0 : decode cX12_close 0 = .ok (.aload_n 0, 1) := by decide +kernel
theorem dX12_close_1 : decode cX12_close 1 = .ok (.getfield 7, 3) := by decide +kernel
theorem dX12_close_4 : decode cX12_close 4 = .ok (.ifCond .ne 6, 3) := by decide +kernel
theorem dX12_close_7 : decode cX12_close 7 = .ok (.bipush (-6), 2) := by decide +kernel
theorem dX12_close_9 : decode cX12_close 9 = .ok (.ireturn, 1) := by decide +kernel
theorem dX12_close_10 : decode cX12_close 10 = .ok (.aload_n 0, 1) := by decide +kernel
theorem dX12_close_11 : decode cX12_close 11 = .ok (.getfield 197, 3) := by decide +kernel
theorem dX12_close_14 : decode cX12_close 14 = .ok (.aload_n 0, 1) := by decide +kernel
theorem dX12_close_15 : decode cX12_close 15 = .ok (.getfield 173, 3) := by decide +kernel
theorem dX12_close_18 : decode cX12_close 18 = .ok (.if_icmp .eq 11, 3) := by decide +kernel
theorem dX12_close_21 : decode cX12_close 21 = .ok (.aload_n 0, 1) := by decide +kernel
theorem dX12_close_22 : decode cX12_close 22 = .ok (.getfield 37, 3) := by decide +kernel
theorem dX12_close_25 : decode cX12_close 25 = .ok (.iconst (-1), 1) := by decide +kernel
theorem dX12_close_26 : decode cX12_close 26 = .ok (.if_icmp .ne 6, 3) := by decide +kernel
theorem dX12_close_29 : decode cX12_close 29 = .ok (.bipush (-6), 2) := by decide +kernel
theorem dX12_close_31 : decode cX12_close 31 = .ok (.ireturn, 1) := by decide +kernel
theorem dX12_close_32 : decode cX12_close 32 = .ok (.aload_n 0, 1) := by decide +kernel
theorem dX12_close_33 : decode cX12_close 33 = .ok (.getfield 197, 3) := by decide +kernel
theorem dX12_close_36 : decode cX12_close 36 = .ok (.istore_n 1, 1) := by decide +kernel
theorem dX12_close_37 : decode cX12_close 37 = .ok (.aload_n 0, 1) := by decide +kernel
theorem dX12_close_38 : decode cX12_close 38 = .ok (.iconst 0, 1) := by decide +kernel
theorem dX12_close_39 : decode cX12_close 39 = .ok (.putfield 187, 3) := by decide +kernel
theorem dX12_close_42 : decode cX12_close 42 = .ok (.lconst 0, 1) := by decide +kernel
theorem dX12_close_43 : decode cX12_close 43 = .ok (.lstore_n 2, 1) := by decide +kernel
theorem dX12_close_44 : decode cX12_close 44 = .ok (.aload_n 0, 1) := by decide +kernel
theorem dX12_close_45 : decode cX12_close 45 = .ok (.iconst 0, 1) := by decide +kernel
theorem dX12_close_46 : decode cX12_close 46 = .ok (.invokevirtual 227, 3) := by decide +kernel
theorem dX12_close_49 : decode cX12_close 49 = .ok (.istore 4, 2) := by decide +kernel
theorem dX12_close_51 : decode cX12_close 51 = .ok (.iload 4, 2) := by decide +kernel
theorem dX12_close_53 : decode cX12_close 53 = .ok (.iconst (-1), 1) := by decide +kernel
theorem dX12_close_54 : decode cX12_close 54 = .ok (.if_icmp .eq 80, 3) := by decide +kernel
theorem dX12_close_57 : decode cX12_close 57 = .ok (.aload_n 0, 1) := by decide +kernel
theorem dX12_close_58 : decode cX12_close 58 = .ok (.getfield 23, 3) := by decide +kernel
theorem dX12_close_61 : decode cX12_close 61 = .ok (.iload 4, 2) := by decide +kernel
theorem dX12_close_63 : decode cX12_close 63 = .ok (.baload, 1) := by decide +kernel
theorem dX12_close_64 : decode cX12_close 64 = .ok (.ifCond .ne 54, 3) := by decide +kernel
theorem dX12_close_67 : decode cX12_close 67 = .ok (.aload_n 0, 1) := by decide +kernel
theorem dX12_close_68 : decode cX12_close 68 = .ok (.getfield 17, 3) := by decide +kernel
theorem dX12_close_71 : decode cX12_close 71 = .ok (.iload 4, 2) := by decide +kernel
theorem dX12_close_73 : decode cX12_close 73 = .ok (.iaload, 1) := by decide +kernel
theorem dX12_close_74 : decode cX12_close 74 = .ok (.iconst 2, 1) := by decide +kernel
theorem dX12_close_75 : decode cX12_close 75 = .ok (.if_icmp .le 43, 3) := by decide +kernel
theorem dX12_close_78 : decode cX12_close 78 = .ok (.aload_n 0, 1) := by decide +kernel
theorem dX12_close_79 : decode cX12_close 79 = .ok (.iload 4, 2) := by decide +kernel
theorem dX12_close_81 : decode cX12_close 81 = .ok (.aload_n 0, 1) := by decide +kernel
theorem dX12_close_82 : decode cX12_close 82 = .ok (.iload_n 1, 1) := by decide +kernel
theorem dX12_close_83 : decode cX12_close 83 = .ok (.invokevirtual 176, 3) := by decide +kernel
theorem dX12_close_86 : decode cX12_close 86 = .ok (.aload_n 0, 1) := by decide +kernel
theorem dX12_close_87 : decode cX12_close 87 = .ok (.getfield 41, 3) := by decide +kernel
theorem dX12_close_90 : decode cX12_close 90 = .ok (.iload_n 1, 1) := by decide +kernel
theorem dX12_close_91 : decode cX12_close 91 = .ok (.iaload, 1) := by decide +kernel
theorem dX12_close_92 : decode cX12_close 92 = .ok (.invokevirtual 230, 3) := by decide +kernel
theorem dX12_close_95 : decode cX12_close 95 = .ok (.lstore 5, 2) := by decide +kernel
theorem dX12_close_97 : decode cX12_close 97 = .ok (.lload 5, 2) := by decide +kernel
theorem dX12_close_99 : decode cX12_close 99 = .ok (.lconst 0, 1) := by decide +kernel
theorem dX12_close_100 : decode cX12_close 100 = .ok (.lcmp, 1) := by decide +kernel
theorem dX12_close_101 : decode cX12_close 101 = .ok (.ifCond .eq 17, 3) := by decide +kernel
theorem dX12_close_104 : decode cX12_close 104 = .ok (.aload_n 0, 1) := by decide +kernel
theorem dX12_close_105 : decode cX12_close 105 = .ok (.iload 4, 2) := by decide +kernel
theorem dX12_close_107 : decode cX12_close 107 = .ok (.lload 5, 2) := by decide +kernel
theorem dX12_close_109 : decode cX12_close 109 = .ok (.lneg, 1) := by decide +kernel
theorem dX12_close_110 : decode cX12_close 110 = .ok (.invokevirtual 217, 3) := by decide +kernel
theorem dX12_close_113 : decode cX12_close 113 = .ok (.lload_n 2, 1) := by decide +kernel
theorem dX12_close_114 : decode cX12_close 114 = .ok (.lload 5, 2) := by decide +kernel
theorem dX12_close_116 : decode cX12_close 116 = .ok (.lsub, 1) := by decide +kernel
theorem dX12_close_117 : decode cX12_close 117 = .ok (.lstore_n 2, 1) := by decide +kernel
theorem dX12_close_118 : decode cX12_close 118 = .ok (.aload_n 0, 1) := by decide +kernel
theorem dX12_close_119 : decode cX12_close 119 = .ok (.aload_n 0, 1) := by decide +kernel
theorem dX12_close_120 : decode cX12_close 120 = .ok (.getfield 13, 3) := by decide +kernel
theorem dX12_close_123 : decode cX12_close 123 = .ok (.iload 4, 2) := by decide +kernel
theorem dX12_close_125 : decode cX12_close 125 = .ok (.iaload, 1) := by decide +kernel
theorem dX12_close_126 : decode cX12_close 126 = .ok (.invokevirtual 227, 3) := by decide +kernel
theorem dX12_close_129 : decode cX12_close 129 = .ok (.istore 4, 2) := by decide +kernel
theorem dX12_close_131 : decode cX12_close 131 = .ok (.goto (-80), 3) := by decide +kernel
theorem dX12_close_134 : decode cX12_close 134 = .ok (.lload_n 2, 1) := by decide +kernel
theorem dX12_close_135 : decode cX12_close 135 = .ok (.lconst 0, 1) := by decide +kernel
theorem dX12_close_136 : decode cX12_close 136 = .ok (.lcmp, 1) := by decide +kernel
theorem dX12_close_137 : decode cX12_close 137 = .ok (.ifCond .eq 13, 3) := by decide +kernel
theorem dX12_close_140 : decode cX12_close 140 = .ok (.aload_n 0, 1) := by decide +kernel
theorem dX12_close_141 : decode cX12_close 141 = .ok (.aload_n 0, 1) := by decide +kernel
theorem dX12_close_142 : decode cX12_close 142 = .ok (.getfield 37, 3) := by decide +kernel
theorem dX12_close_145 : decode cX12_close 145 = .ok (.lload_n 2, 1) := by decide +kernel
theorem dX12_close_146 : decode cX12_close 146 = .ok (.lneg, 1) := by decide +kernel
theorem dX12_close_147 : decode cX12_close 147 = .ok (.invokevirtual 217, 3) := by decide +kernel
theorem dX12_close_150 : decode cX12_close 150 = .ok (.aload_n 0, 1) := by decide +kernel
theorem dX12_close_151 : decode cX12_close 151 = .ok (.invokevirtual 200, 3) := by decide +kernel
theorem dX12_close_154 : decode cX12_close 154 = .ok (.ifCond .eq 6, 3) := by decide +kernel
theorem dX12_close_157 : decode cX12_close 157 = .ok (.bipush (-12), 2) := by decide +kernel
theorem dX12_close_159 : decode cX12_close 159 = .ok (.ireturn, 1) := by decide +kernel
theorem dX12_close_160 : decode cX12_close 160 = .ok (.aload_n 0, 1) := by decide +kernel
theorem dX12_close_161 : decode cX12_close 161 = .ok (.invokevirtual 159, 3) := by decide +kernel
theorem dX12_close_164 : decode cX12_close 164 = .ok (.aload_n 0, 1) := by decide +kernel
theorem dX12_close_165 : decode cX12_close 165 = .ok (.getfield 187, 3) := by decide +kernel
theorem dX12_close_168 : decode cX12_close 168 = .ok (.ifCond .le 13, 3) := by decide +kernel
theorem dX12_close_171 : decode cX12_close 171 = .ok (.aload_n 0, 1) := by decide +kernel
theorem dX12_close_172 : decode cX12_close 172 = .ok (.getfield 203, 3) := by decide +kernel
theorem dX12_close_175 : decode cX12_close 175 = .ok (.sipush 400, 3) := by decide +kernel
theorem dX12_close_178 : decode cX12_close 178 = .ok (.if_icmp .eq 10, 3) := by decide +kernel
theorem dX12_close_181 : decode cX12_close 181 = .ok (.aload_n 0, 1) := by decide +kernel
theorem dX12_close_182 : decode cX12_close 182 = .ok (.invokevirtual 166, 3) := by decide +kernel
theorem dX12_close_185 : decode cX12_close 185 = .ok (.ifCond .ne 6, 3) := by decide +kernel
theorem dX12_close_188 : decode cX12_close 188 = .ok (.bipush (-13), 2) := by decide +kernel
theorem dX12_close_190 : decode cX12_close 190 = .ok (.ireturn, 1) := by decide +kernel
theorem dX12_close_191 : decode cX12_close 191 = .ok (.aload_n 0, 1) := by decide +kernel
theorem dX12_close_192 : decode cX12_close 192 = .ok (.getfield 187, 3) := by decide +kernel
theorem dX12_close_195 : decode cX12_close 195 = .ok (.ifCond .le 22, 3) := by decide +kernel
theorem dX12_close_198 : decode cX12_close 198 = .ok (.aload_n 0, 1) := by decide +kernel
theorem dX12_close_199 : decode cX12_close 199 = .ok (.getfield 44, 3) := by decide +kernel
theorem dX12_close_202 : decode cX12_close 202 = .ok (.iload_n 1, 1) := by decide +kernel
theorem dX12_close_203 : decode cX12_close 203 = .ok (.aload_n 0, 1) := by decide +kernel
theorem dX12_close_204 : decode cX12_close 204 = .ok (.aload_n 0, 1) := by decide +kernel
theorem dX12_close_205 : decode cX12_close 205 = .ok (.getfield 41, 3) := by decide +kernel
theorem dX12_close_208 : decode cX12_close 208 = .ok (.iload_n 1, 1) := by decide +kernel
theorem dX12_close_209 : decode cX12_close 209 = .ok (.iaload, 1) := by decide +kernel
theorem dX12_close_210 : decode cX12_close 210 = .ok (.iconst 0, 1) := by decide +kernel
theorem dX12_close_211 : decode cX12_close 211 = .ok (.iconst 2, 1) := by decide +kernel
theorem dX12_close_212 : decode cX12_close 212 = .ok (.iload_n 1, 1) := by decide +kernel
theorem dX12_close_213 : decode cX12_close 213 = .ok (.invokevirtual 213, 3) := by decide +kernel
theorem dX12_close_216 : decode cX12_close 216 = .ok (.iastore, 1) := by decide +kernel
theorem dX12_close_217 : decode cX12_close 217 = .ok (.aload_n 0, 1) := by decide +kernel
theorem dX12_close_218 : decode cX12_close 218 = .ok (.dup, 1) := by decide +kernel
theorem dX12_close_219 : decode cX12_close 219 = .ok (.getfield 197, 3) := by decide +kernel
theorem dX12_close_222 : decode cX12_close 222 = .ok (.iconst 1, 1) := by decide +kernel
theorem dX12_close_223 : decode cX12_close 223 = .ok (.iadd, 1) := by decide +kernel
theorem dX12_close_224 : decode cX12_close 224 = .ok (.putfield 197, 3) := by decide +kernel
theorem dX12_close_227 : decode cX12_close 227 = .ok (.aload_n 0, 1) := by decide +kernel
theorem dX12_close_228 : decode cX12_close 228 = .ok (.bipush 7, 2) := by decide +kernel
theorem dX12_close_230 : decode cX12_close 230 = .ok (.invokevirtual 170, 3) := by decide +kernel
theorem dX12_close_233 : decode cX12_close 233 = .ok (.iload_n 1, 1) := by decide +kernel
theorem dX12_close_234 : decode cX12_close 234 = .ok (.ireturn, 1) := by decide +kernel
theorem dX12_reopen_0 : decode cX12_reopen 0 = .ok (.aload_n 0, 1) := by decide +kernel
theorem dX12_reopen_1 : decode cX12_reopen 1 = .ok (.getfield 7, 3) := by decide +kernel
theorem dX12_reopen_4 : decode cX12_reopen 4 = .ok (.ifCond .ne 6, 3) := by decide +kernel
theorem dX12_reopen_7 : decode cX12_reopen 7 = .ok (.bipush (-6), 2) := by decide +kernel
theorem dX12_reopen_9 : decode cX12_reopen 9 = .ok (.ireturn, 1) := by decide +kernel
theorem dX12_reopen_10 : decode cX12_reopen 10 = .ok (.aload_n 0, 1) := by decide +kernel
theorem dX12_reopen_11 : decode cX12_reopen 11 = .ok (.getfield 197, 3) := by decide +kernel
theorem dX12_reopen_14 : decode cX12_reopen 14 = .ok (.ifCond .ne 6, 3) := by decide +kernel
theorem dX12_reopen_17 : decode cX12_reopen 17 = .ok (.bipush (-6), 2) := by decide +kernel
theorem dX12_reopen_19 : decode cX12_reopen 19 = .ok (.ireturn, 1) := by decide +kernel
theorem dX12_reopen_20 : decode cX12_reopen 20 = .ok (.aload_n 0, 1) := by decide +kernel
theorem dX12_reopen_21 : decode cX12_reopen 21 = .ok (.getfield 197, 3) := by decide +kernel
theorem dX12_reopen_24 : decode cX12_reopen 24 = .ok (.iconst 1, 1) := by decide +kernel
theorem dX12_reopen_25 : decode cX12_reopen 25 = .ok (.isub, 1) := by decide +kernel
theorem dX12_reopen_26 : decode cX12_reopen 26 = .ok (.istore_n 1, 1) := by decide +kernel
theorem dX12_reopen_27 : decode cX12_reopen 27 = .ok (.aload_n 0, 1) := by decide +kernel
theorem dX12_reopen_28 : decode cX12_reopen 28 = .ok (.iconst 0, 1) := by decide +kernel
theorem dX12_reopen_29 : decode cX12_reopen 29 = .ok (.putfield 187, 3) := by decide +kernel
theorem dX12_reopen_32 : decode cX12_reopen 32 = .ok (.aload_n 0, 1) := by decide +kernel
theorem dX12_reopen_33 : decode cX12_reopen 33 = .ok (.getfield 44, 3) := by decide +kernel
theorem dX12_reopen_36 : decode cX12_reopen 36 = .ok (.iload_n 1, 1) := by decide +kernel
theorem dX12_reopen_37 : decode cX12_reopen 37 = .ok (.iaload, 1) := by decide +kernel
theorem dX12_reopen_38 : decode cX12_reopen 38 = .ok (.iconst (-1), 1) := by decide +kernel
theorem dX12_reopen_39 : decode cX12_reopen 39 = .ok (.if_icmp .eq 13, 3) := by decide +kernel
theorem dX12_reopen_42 : decode cX12_reopen 42 = .ok (.aload_n 0, 1) := by decide +kernel
theorem dX12_reopen_43 : decode cX12_reopen 43 = .ok (.aload_n 0, 1) := by decide +kernel
theorem dX12_reopen_44 : decode cX12_reopen 44 = .ok (.getfield 44, 3) := by decide +kernel
theorem dX12_reopen_47 : decode cX12_reopen 47 = .ok (.iload_n 1, 1) := by decide +kernel
theorem dX12_reopen_48 : decode cX12_reopen 48 = .ok (.iaload, 1) := by decide +kernel
theorem dX12_reopen_49 : decode cX12_reopen 49 = .ok (.invokevirtual 224, 3) := by decide +kernel
theorem dX12_reopen_52 : decode cX12_reopen 52 = .ok (.aload_n 0, 1) := by decide +kernel
theorem dX12_reopen_53 : decode cX12_reopen 53 = .ok (.invokevirtual 200, 3) := by decide +kernel
theorem dX12_reopen_56 : decode cX12_reopen 56 = .ok (.ifCond .eq 6, 3) := by decide +kernel
theorem dX12_reopen_59 : decode cX12_reopen 59 = .ok (.bipush (-12), 2) := by decide +kernel
theorem dX12_reopen_61 : decode cX12_reopen 61 = .ok (.ireturn, 1) := by decide +kernel
theorem dX12_reopen_62 : decode cX12_reopen 62 = .ok (.aload_n 0, 1) := by decide +kernel
theorem dX12_reopen_63 : decode cX12_reopen 63 = .ok (.invokevirtual 159, 3) := by decide +kernel
theorem dX12_reopen_66 : decode cX12_reopen 66 = .ok (.aload_n 0, 1) := by decide +kernel
theorem dX12_reopen_67 : decode cX12_reopen 67 = .ok (.getfield 187, 3) := by decide +kernel
theorem dX12_reopen_70 : decode cX12_reopen 70 = .ok (.ifCond .le 13, 3) := by decide +kernel
theorem dX12_reopen_73 : decode cX12_reopen 73 = .ok (.aload_n 0, 1) := by decide +kernel
theorem dX12_reopen_74 : decode cX12_reopen 74 = .ok (.getfield 203, 3) := by decide +kernel
theorem dX12_reopen_77 : decode cX12_reopen 77 = .ok (.sipush 400, 3) := by decide +kernel
theorem dX12_reopen_80 : decode cX12_reopen 80 = .ok (.if_icmp .eq 10, 3) := by decide +kernel
theorem dX12_reopen_83 : decode cX12_reopen 83 = .ok (.aload_n 0, 1) := by decide +kernel
theorem dX12_reopen_84 : decode cX12_reopen 84 = .ok (.invokevirtual 166, 3) := by decide +kernel
theorem dX12_reopen_87 : decode cX12_reopen 87 = .ok (.ifCond .ne 6, 3) := by decide +kernel
theorem dX12_reopen_90 : decode cX12_reopen 90 = .ok (.bipush (-13), 2) := by decide +kernel
theorem dX12_reopen_92 : decode cX12_reopen 92 = .ok (.ireturn, 1) := by decide +kernel
theorem dX12_reopen_93 : decode cX12_reopen 93 = .ok (.aload_n 0, 1) := by decide +kernel
theorem dX12_reopen_94 : decode cX12_reopen 94 = .ok (.getfield 187, 3) := by decide +kernel
theorem dX12_reopen_97 : decode cX12_reopen 97 = .ok (.ifCond .le 39, 3) := by decide +kernel
theorem dX12_reopen_100 : decode cX12_reopen 100 = .ok (.aload_n 0, 1) := by decide +kernel
theorem dX12_reopen_101 : decode cX12_reopen 101 = .ok (.aload_n 0, 1) := by decide +kernel
theorem dX12_reopen_102 : decode cX12_reopen 102 = .ok (.getfield 47, 3) := by decide +kernel
theorem dX12_reopen_105 : decode cX12_reopen 105 = .ok (.aload_n 0, 1) := by decide +kernel
theorem dX12_reopen_106 : decode cX12_reopen 106 = .ok (.getfield 44, 3) := by decide +kernel
theorem dX12_reopen_109 : decode cX12_reopen 109 = .ok (.iload_n 1, 1) := by decide +kernel
theorem dX12_reopen_110 : decode cX12_reopen 110 = .ok (.iaload, 1) := by decide +kernel
theorem dX12_reopen_111 : decode cX12_reopen 111 = .ok (.iaload, 1) := by decide +kernel
theorem dX12_reopen_112 : decode cX12_reopen 112 = .ok (.aload_n 0, 1) := by decide +kernel
theorem dX12_reopen_113 : decode cX12_reopen 113 = .ok (.getfield 50, 3) := by decide +kernel
theorem dX12_reopen_116 : decode cX12_reopen 116 = .ok (.aload_n 0, 1) := by decide +kernel
theorem dX12_reopen_117 : decode cX12_reopen 117 = .ok (.getfield 44, 3) := by decide +kernel
theorem dX12_reopen_120 : decode cX12_reopen 120 = .ok (.iload_n 1, 1) := by decide +kernel
theorem dX12_reopen_121 : decode cX12_reopen 121 = .ok (.iaload, 1) := by decide +kernel
theorem dX12_reopen_122 : decode cX12_reopen 122 = .ok (.iaload, 1) := by decide +kernel
theorem dX12_reopen_123 : decode cX12_reopen 123 = .ok (.iconst 3, 1) := by decide +kernel
theorem dX12_reopen_124 : decode cX12_reopen 124 = .ok (.iload_n 1, 1) := by decide +kernel
theorem dX12_reopen_125 : decode cX12_reopen 125 = .ok (.invokevirtual 213, 3) := by decide +kernel
theorem dX12_reopen_128 : decode cX12_reopen 128 = .ok (.istore_n 2, 1) := by decide +kernel
theorem dX12_reopen_129 : decode cX12_reopen 129 = .ok (.aload_n 0, 1) := by decide +kernel
theorem dX12_reopen_130 : decode cX12_reopen 130 = .ok (.getfield 44, 3) := by decide +kernel
theorem dX12_reopen_133 : decode cX12_reopen 133 = .ok (.iload_n 1, 1) := by decide +kernel
theorem dX12_reopen_134 : decode cX12_reopen 134 = .ok (.iconst (-1), 1) := by decide +kernel
theorem dX12_reopen_135 : decode cX12_reopen 135 = .ok (.iastore, 1) := by decide +kernel
theorem dX12_reopen_136 : decode cX12_reopen 136 = .ok (.aload_n 0, 1) := by decide +kernel
theorem dX12_reopen_137 : decode cX12_reopen 137 = .ok (.dup, 1) := by decide +kernel
theorem dX12_reopen_138 : decode cX12_reopen 138 = .ok (.getfield 197, 3) := by decide +kernel
theorem dX12_reopen_141 : decode cX12_reopen 141 = .ok (.iconst 1, 1) := by decide +kernel
theorem dX12_reopen_142 : decode cX12_reopen 142 = .ok (.isub, 1) := by decide +kernel
theorem dX12_reopen_143 : decode cX12_reopen 143 = .ok (.putfield 197, 3) := by decide +kernel
theorem dX12_reopen_146 : decode cX12_reopen 146 = .ok (.aload_n 0, 1) := by decide +kernel
theorem dX12_reopen_147 : decode cX12_reopen 147 = .ok (.bipush 8, 2) := by decide +kernel
theorem dX12_reopen_149 : decode cX12_reopen 149 = .ok (.invokevirtual 170, 3) := by decide +kernel
theorem dX12_reopen_152 : decode cX12_reopen 152 = .ok (.iload_n 1, 1) := by decide +kernel
theorem dX12_reopen_153 : decode cX12_reopen 153 = .ok (.ireturn, 1) := by decide +kernel
theorem dX12_shares_0 : decode cX12_shares 0 = .ok (.lconst 0, 1) := by decide +kernel
theorem dX12_shares_1 : decode cX12_shares 1 = .ok (.lstore_n 3, 1) := by decide +kernel
theorem dX12_shares_2 : decode cX12_shares 2 = .ok (.iconst 0, 1) := by decide +kernel
theorem dX12_shares_3 : decode cX12_shares 3 = .ok (.istore 5, 2) := by decide +kernel
theorem dX12_shares_5 : decode cX12_shares 5 = .ok (.iload 5, 2) := by decide +kernel
theorem dX12_shares_7 : decode cX12_shares 7 = .ok (.aload_n 0, 1) := by decide +kernel
theorem dX12_shares_8 : decode cX12_shares 8 = .ok (.getfield 234, 3) := by decide +kernel
theorem dX12_shares_11 : decode cX12_shares 11 = .ok (.if_icmp .ge 19, 3) := by decide +kernel
theorem dX12_shares_14 : decode cX12_shares 14 = .ok (.lload_n 3, 1) := by decide +kernel
theorem dX12_shares_15 : decode cX12_shares 15 = .ok (.aload_n 0, 1) := by decide +kernel
theorem dX12_shares_16 : decode cX12_shares 16 = .ok (.getfield 101, 3) := by decide +kernel
theorem dX12_shares_19 : decode cX12_shares 19 = .ok (.iload 5, 2) := by decide +kernel
theorem dX12_shares_21 : decode cX12_shares 21 = .ok (.laload, 1) := by decide +kernel
theorem dX12_shares_22 : decode cX12_shares 22 = .ok (.ladd, 1) := by decide +kernel
theorem dX12_shares_23 : decode cX12_shares 23 = .ok (.lstore_n 3, 1) := by decide +kernel
theorem dX12_shares_24 : decode cX12_shares 24 = .ok (.iinc 5 1, 3) := by decide +kernel
theorem dX12_shares_27 : decode cX12_shares 27 = .ok (.goto (-22), 3) := by decide +kernel
theorem dX12_shares_30 : decode cX12_shares 30 = .ok (.lload_n 1, 1) := by decide +kernel
theorem dX12_shares_31 : decode cX12_shares 31 = .ok (.lstore 5, 2) := by decide +kernel
theorem dX12_shares_33 : decode cX12_shares 33 = .ok (.iconst 0, 1) := by decide +kernel
theorem dX12_shares_34 : decode cX12_shares 34 = .ok (.istore 7, 2) := by decide +kernel
theorem dX12_shares_36 : decode cX12_shares 36 = .ok (.iload 7, 2) := by decide +kernel
theorem dX12_shares_38 : decode cX12_shares 38 = .ok (.aload_n 0, 1) := by decide +kernel
theorem dX12_shares_39 : decode cX12_shares 39 = .ok (.getfield 234, 3) := by decide +kernel
theorem dX12_shares_42 : decode cX12_shares 42 = .ok (.if_icmp .ge 82, 3) := by decide +kernel
theorem dX12_shares_45 : decode cX12_shares 45 = .ok (.aload_n 0, 1) := by decide +kernel
theorem dX12_shares_46 : decode cX12_shares 46 = .ok (.getfield 104, 3) := by decide +kernel
theorem dX12_shares_49 : decode cX12_shares 49 = .ok (.iload 7, 2) := by decide +kernel
theorem dX12_shares_51 : decode cX12_shares 51 = .ok (.lload_n 1, 1) := by decide +kernel
theorem dX12_shares_52 : decode cX12_shares 52 = .ok (.aload_n 0, 1) := by decide +kernel
theorem dX12_shares_53 : decode cX12_shares 53 = .ok (.getfield 101, 3) := by decide +kernel
theorem dX12_shares_56 : decode cX12_shares 56 = .ok (.iload 7, 2) := by decide +kernel
theorem dX12_shares_58 : decode cX12_shares 58 = .ok (.laload, 1) := by decide +kernel
theorem dX12_shares_59 : decode cX12_shares 59 = .ok (.lmul, 1) := by decide +kernel
theorem dX12_shares_60 : decode cX12_shares 60 = .ok (.lload_n 3, 1) := by decide +kernel
theorem dX12_shares_61 : decode cX12_shares 61 = .ok (.ldiv, 1) := by decide +kernel
theorem dX12_shares_62 : decode cX12_shares 62 = .ok (.lastore, 1) := by decide +kernel
theorem dX12_shares_63 : decode cX12_shares 63 = .ok (.lload_n 1, 1) := by decide +kernel
theorem dX12_shares_64 : decode cX12_shares 64 = .ok (.aload_n 0, 1) := by decide +kernel
theorem dX12_shares_65 : decode cX12_shares 65 = .ok (.getfield 101, 3) := by decide +kernel
theorem dX12_shares_68 : decode cX12_shares 68 = .ok (.iload 7, 2) := by decide +kernel
theorem dX12_shares_70 : decode cX12_shares 70 = .ok (.laload, 1) := by decide +kernel
theorem dX12_shares_71 : decode cX12_shares 71 = .ok (.lmul, 1) := by decide +kernel
theorem dX12_shares_72 : decode cX12_shares 72 = .ok (.lload_n 3, 1) := by decide +kernel
theorem dX12_shares_73 : decode cX12_shares 73 = .ok (.lrem, 1) := by decide +kernel
theorem dX12_shares_74 : decode cX12_shares 74 = .ok (.lstore 8, 2) := by decide +kernel
theorem dX12_shares_76 : decode cX12_shares 76 = .ok (.aload_n 0, 1) := by decide +kernel
theorem dX12_shares_77 : decode cX12_shares 77 = .ok (.getfield 107, 3) := by decide +kernel
theorem dX12_shares_80 : decode cX12_shares 80 = .ok (.iload 7, 2) := by decide +kernel
theorem dX12_shares_82 : decode cX12_shares 82 = .ok (.lload 8, 2) := by decide +kernel
theorem dX12_shares_84 : decode cX12_shares 84 = .ok (.lconst 0, 1) := by decide +kernel
theorem dX12_shares_85 : decode cX12_shares 85 = .ok (.lcmp, 1) := by decide +kernel
theorem dX12_shares_86 : decode cX12_shares 86 = .ok (.ifCond .ge 9, 3) := by decide +kernel
theorem dX12_shares_89 : decode cX12_shares 89 = .ok (.lload 8, 2) := by decide +kernel
theorem dX12_shares_91 : decode cX12_shares 91 = .ok (.lneg, 1) := by decide +kernel
theorem dX12_shares_92 : decode cX12_shares 92 = .ok (.goto 5, 3) := by decide +kernel
theorem dX12_shares_95 : decode cX12_shares 95 = .ok (.lload 8, 2) := by decide +kernel
theorem dX12_shares_97 : decode cX12_shares 97 = .ok (.lastore, 1) := by decide +kernel
theorem dX12_shares_98 : decode cX12_shares 98 = .ok (.aload_n 0, 1) := by decide +kernel
theorem dX12_shares_99 : decode cX12_shares 99 = .ok (.getfield 110, 3) := by decide +kernel
theorem dX12_shares_102 : decode cX12_shares 102 = .ok (.iload 7, 2) := by decide +kernel
theorem dX12_shares_104 : decode cX12_shares 104 = .ok (.iconst 0, 1) := by decide +kernel
theorem dX12_shares_105 : decode cX12_shares 105 = .ok (.bastore, 1) := by decide +kernel
theorem dX12_shares_106 : decode cX12_shares 106 = .ok (.lload 5, 2) := by decide +kernel
theorem dX12_shares_108 : decode cX12_shares 108 = .ok (.aload_n 0, 1) := by decide +kernel
theorem dX12_shares_109 : decode cX12_shares 109 = .ok (.getfield 104, 3) := by decide +kernel
theorem dX12_shares_112 : decode cX12_shares 112 = .ok (.iload 7, 2) := by decide +kernel
theorem dX12_shares_114 : decode cX12_shares 114 = .ok (.laload, 1) := by decide +kernel
theorem dX12_shares_115 : decode cX12_shares 115 = .ok (.lsub, 1) := by decide +kernel
theorem dX12_shares_116 : decode cX12_shares 116 = .ok (.lstore 5, 2) := by decide +kernel
theorem dX12_shares_118 : decode cX12_shares 118 = .ok (.iinc 7 1, 3) := by decide +kernel
theorem dX12_shares_121 : decode cX12_shares 121 = .ok (.goto (-85), 3) := by decide +kernel
theorem dX12_shares_124 : decode cX12_shares 124 = .ok (.lload 5, 2) := by decide +kernel
theorem dX12_shares_126 : decode cX12_shares 126 = .ok (.lconst 0, 1) := by decide +kernel
theorem dX12_shares_127 : decode cX12_shares 127 = .ok (.lcmp, 1) := by decide +kernel
theorem dX12_shares_128 : decode cX12_shares 128 = .ok (.ifCond .eq 120, 3) := by decide +kernel
theorem dX12_shares_131 : decode cX12_shares 131 = .ok (.iconst (-1), 1) := by decide +kernel
theorem dX12_shares_132 : decode cX12_shares 132 = .ok (.istore 7, 2) := by decide +kernel
theorem dX12_shares_134 : decode cX12_shares 134 = .ok (.iconst 0, 1) := by decide +kernel
theorem dX12_shares_135 : decode cX12_shares 135 = .ok (.istore 8, 2) := by decide +kernel
theorem dX12_shares_137 : decode cX12_shares 137 = .ok (.iload 8, 2) := by decide +kernel
theorem dX12_shares_139 : decode cX12_shares 139 = .ok (.aload_n 0, 1) := by decide +kernel
theorem dX12_shares_140 : decode cX12_shares 140 = .ok (.getfield 234, 3) := by decide +kernel
theorem dX12_shares_143 : decode cX12_shares 143 = .ok (.if_icmp .ge 51, 3) := by decide +kernel
theorem dX12_shares_146 : decode cX12_shares 146 = .ok (.aload_n 0, 1) := by decide +kernel
theorem dX12_shares_147 : decode cX12_shares 147 = .ok (.getfield 110, 3) := by decide +kernel
theorem dX12_shares_150 : decode cX12_shares 150 = .ok (.iload 8, 2) := by decide +kernel
theorem dX12_shares_152 : decode cX12_shares 152 = .ok (.baload, 1) := by decide +kernel
theorem dX12_shares_153 : decode cX12_shares 153 = .ok (.ifCond .ne 31, 3) := by decide +kernel
theorem dX12_shares_156 : decode cX12_shares 156 = .ok (.iload 7, 2) := by decide +kernel
theorem dX12_shares_158 : decode cX12_shares 158 = .ok (.ifCond .lt 21, 3) := by decide +kernel
theorem dX12_shares_161 : decode cX12_shares 161 = .ok (.aload_n 0, 1) := by decide +kernel
theorem dX12_shares_162 : decode cX12_shares 162 = .ok (.getfield 107, 3) := by decide +kernel
theorem dX12_shares_165 : decode cX12_shares 165 = .ok (.iload 8, 2) := by decide +kernel
theorem dX12_shares_167 : decode cX12_shares 167 = .ok (.laload, 1) := by decide +kernel
theorem dX12_shares_168 : decode cX12_shares 168 = .ok (.aload_n 0, 1) := by decide +kernel
theorem dX12_shares_169 : decode cX12_shares 169 = .ok (.getfield 107, 3) := by decide +kernel
theorem dX12_shares_172 : decode cX12_shares 172 = .ok (.iload 7, 2) := by decide +kernel
theorem dX12_shares_174 : decode cX12_shares 174 = .ok (.laload, 1) := by decide +kernel
theorem dX12_shares_175 : decode cX12_shares 175 = .ok (.lcmp, 1) := by decide +kernel
theorem dX12_shares_176 : decode cX12_shares 176 = .ok (.ifCond .le 8, 3) := by decide +kernel
theorem dX12_shares_179 : decode cX12_shares 179 = .ok (.iload 8, 2) := by decide +kernel
theorem dX12_shares_181 : decode cX12_shares 181 = .ok (.goto 5, 3) := by decide +kernel
theorem dX12_shares_184 : decode cX12_shares 184 = .ok (.iload 7, 2) := by decide +kernel
theorem dX12_shares_186 : decode cX12_shares 186 = .ok (.istore 7, 2) := by decide +kernel
theorem dX12_shares_188 : decode cX12_shares 188 = .ok (.iinc 8 1, 3) := by decide +kernel
theorem dX12_shares_191 : decode cX12_shares 191 = .ok (.goto (-54), 3) := by decide +kernel
theorem dX12_shares_194 : decode cX12_shares 194 = .ok (.aload_n 0, 1) := by decide +kernel
theorem dX12_shares_195 : decode cX12_shares 195 = .ok (.getfield 110, 3) := by decide +kernel
theorem dX12_shares_198 : decode cX12_shares 198 = .ok (.iload 7, 2) := by decide +kernel
theorem dX12_shares_200 : decode cX12_shares 200 = .ok (.iconst 1, 1) := by decide +kernel
theorem dX12_shares_201 : decode cX12_shares 201 = .ok (.bastore, 1) := by decide +kernel
theorem dX12_shares_202 : decode cX12_shares 202 = .ok (.aload_n 0, 1) := by decide +kernel
theorem dX12_shares_203 : decode cX12_shares 203 = .ok (.getfield 104, 3) := by decide +kernel
theorem dX12_shares_206 : decode cX12_shares 206 = .ok (.iload 7, 2) := by decide +kernel
theorem dX12_shares_208 : decode cX12_shares 208 = .ok (.dup2, 1) := by decide +kernel
theorem dX12_shares_209 : decode cX12_shares 209 = .ok (.laload, 1) := by decide +kernel
theorem dX12_shares_210 : decode cX12_shares 210 = .ok (.lload 5, 2) := by decide +kernel
theorem dX12_shares_212 : decode cX12_shares 212 = .ok (.lconst 0, 1) := by decide +kernel
theorem dX12_shares_213 : decode cX12_shares 213 = .ok (.lcmp, 1) := by decide +kernel
theorem dX12_shares_214 : decode cX12_shares 214 = .ok (.ifCond .ge 9, 3) := by decide +kernel
theorem dX12_shares_217 : decode cX12_shares 217 = .ok (.ldc2_w 237, 3) := by decide +kernel
theorem dX12_shares_220 : decode cX12_shares 220 = .ok (.goto 4, 3) := by decide +kernel
theorem dX12_shares_223 : decode cX12_shares 223 = .ok (.lconst 1, 1) := by decide +kernel
theorem dX12_shares_224 : decode cX12_shares 224 = .ok (.ladd, 1) := by decide +kernel
theorem dX12_shares_225 : decode cX12_shares 225 = .ok (.lastore, 1) := by decide +kernel
theorem dX12_shares_226 : decode cX12_shares 226 = .ok (.lload 5, 2) := by decide +kernel
theorem dX12_shares_228 : decode cX12_shares 228 = .ok (.lload 5, 2) := by decide +kernel
theorem dX12_shares_230 : decode cX12_shares 230 = .ok (.lconst 0, 1) := by decide +kernel
theorem dX12_shares_231 : decode cX12_shares 231 = .ok (.lcmp, 1) := by decide +kernel
theorem dX12_shares_232 : decode cX12_shares 232 = .ok (.ifCond .ge 9, 3) := by decide +kernel
theorem dX12_shares_235 : decode cX12_shares 235 = .ok (.ldc2_w 237, 3) := by decide +kernel
theorem dX12_shares_238 : decode cX12_shares 238 = .ok (.goto 4, 3) := by decide +kernel
theorem dX12_shares_241 : decode cX12_shares 241 = .ok (.lconst 1, 1) := by decide +kernel
theorem dX12_shares_242 : decode cX12_shares 242 = .ok (.lsub, 1) := by decide +kernel
theorem dX12_shares_243 : decode cX12_shares 243 = .ok (.lstore 5, 2) := by decide +kernel
theorem dX12_shares_245 : decode cX12_shares 245 = .ok (.goto (-121), 3) := by decide +kernel
theorem dX12_shares_248 : decode cX12_shares 248 = .ok (.return_, 1) := by decide +kernel
theorem dX12_share_0 : decode cX12_share 0 = .ok (.aload_n 0, 1) := by decide +kernel
theorem dX12_share_1 : decode cX12_share 1 = .ok (.getfield 7, 3) := by decide +kernel
theorem dX12_share_4 : decode cX12_share 4 = .ok (.ifCond .ne 6, 3) := by decide +kernel
theorem dX12_share_7 : decode cX12_share 7 = .ok (.bipush (-6), 2) := by decide +kernel
theorem dX12_share_9 : decode cX12_share 9 = .ok (.ireturn, 1) := by decide +kernel
theorem dX12_share_10 : decode cX12_share 10 = .ok (.aload_n 0, 1) := by decide +kernel
theorem dX12_share_11 : decode cX12_share 11 = .ok (.iload_n 1, 1) := by decide +kernel
theorem dX12_share_12 : decode cX12_share 12 = .ok (.invokevirtual 148, 3) := by decide +kernel
theorem dX12_share_15 : decode cX12_share 15 = .ok (.ifCond .ne 6, 3) := by decide +kernel
theorem dX12_share_18 : decode cX12_share 18 = .ok (.bipush (-2), 2) := by decide +kernel
theorem dX12_share_20 : decode cX12_share 20 = .ok (.ireturn, 1) := by decide +kernel
theorem dX12_share_21 : decode cX12_share 21 = .ok (.lload_n 2, 1) := by decide +kernel
theorem dX12_share_22 : decode cX12_share 22 = .ok (.lconst 0, 1) := by decide +kernel
theorem dX12_share_23 : decode cX12_share 23 = .ok (.lcmp, 1) := by decide +kernel
theorem dX12_share_24 : decode cX12_share 24 = .ok (.ifCond .eq 29, 3) := by decide +kernel
theorem dX12_share_27 : decode cX12_share 27 = .ok (.lload_n 2, 1) := by decide +kernel
theorem dX12_share_28 : decode cX12_share 28 = .ok (.ldc2_w 180, 3) := by decide +kernel
theorem dX12_share_31 : decode cX12_share 31 = .ok (.ldc2_w 182, 3) := by decide +kernel
theorem dX12_share_34 : decode cX12_share 34 = .ok (.invokestatic 116, 3) := by decide +kernel
theorem dX12_share_37 : decode cX12_share 37 = .ok (.ifCond .eq 16, 3) := by decide +kernel
theorem dX12_share_40 : decode cX12_share 40 = .ok (.aload_n 0, 1) := by decide +kernel
theorem dX12_share_41 : decode cX12_share 41 = .ok (.getfield 184, 3) := by decide +kernel
theorem dX12_share_44 : decode cX12_share 44 = .ok (.bipush 8, 2) := by decide +kernel
theorem dX12_share_46 : decode cX12_share 46 = .ok (.if_icmp .ge 7, 3) := by decide +kernel
theorem dX12_share_49 : decode cX12_share 49 = .ok (.iconst 1, 1) := by decide +kernel
theorem dX12_share_50 : decode cX12_share 50 = .ok (.goto 4, 3) := by decide +kernel
theorem dX12_share_53 : decode cX12_share 53 = .ok (.iconst 0, 1) := by decide +kernel
theorem dX12_share_54 : decode cX12_share 54 = .ok (.istore 6, 2) := by decide +kernel
theorem dX12_share_56 : decode cX12_share 56 = .ok (.iconst 0, 1) := by decide +kernel
theorem dX12_share_57 : decode cX12_share 57 = .ok (.istore 7, 2) := by decide +kernel
theorem dX12_share_59 : decode cX12_share 59 = .ok (.iload 7, 2) := by decide +kernel
theorem dX12_share_61 : decode cX12_share 61 = .ok (.aload_n 0, 1) := by decide +kernel
theorem dX12_share_62 : decode cX12_share 62 = .ok (.getfield 184, 3) := by decide +kernel
theorem dX12_share_65 : decode cX12_share 65 = .ok (.if_icmp .ge 38, 3) := by decide +kernel
theorem dX12_share_68 : decode cX12_share 68 = .ok (.iload 6, 2) := by decide +kernel
theorem dX12_share_70 : decode cX12_share 70 = .ok (.ifCond .eq 24, 3) := by decide +kernel
theorem dX12_share_73 : decode cX12_share 73 = .ok (.aload_n 0, 1) := by decide +kernel
theorem dX12_share_74 : decode cX12_share 74 = .ok (.getfield 74, 3) := by decide +kernel
theorem dX12_share_77 : decode cX12_share 77 = .ok (.iload 7, 2) := by decide +kernel
theorem dX12_share_79 : decode cX12_share 79 = .ok (.laload, 1) := by decide +kernel
theorem dX12_share_80 : decode cX12_share 80 = .ok (.lconst 1, 1) := by decide +kernel
theorem dX12_share_81 : decode cX12_share 81 = .ok (.ldc2_w 239, 3) := by decide +kernel
theorem dX12_share_84 : decode cX12_share 84 = .ok (.invokestatic 116, 3) := by decide +kernel
theorem dX12_share_87 : decode cX12_share 87 = .ok (.ifCond .eq 7, 3) := by decide +kernel
theorem dX12_share_90 : decode cX12_share 90 = .ok (.iconst 1, 1) := by decide +kernel
theorem dX12_share_91 : decode cX12_share 91 = .ok (.goto 4, 3) := by decide +kernel
theorem dX12_share_94 : decode cX12_share 94 = .ok (.iconst 0, 1) := by decide +kernel
theorem dX12_share_95 : decode cX12_share 95 = .ok (.istore 6, 2) := by decide +kernel
theorem dX12_share_97 : decode cX12_share 97 = .ok (.iinc 7 1, 3) := by decide +kernel
theorem dX12_share_100 : decode cX12_share 100 = .ok (.goto (-41), 3) := by decide +kernel
theorem dX12_share_103 : decode cX12_share 103 = .ok (.iload 6, 2) := by decide +kernel
theorem dX12_share_105 : decode cX12_share 105 = .ok (.ifCond .ne 6, 3) := by decide +kernel
theorem dX12_share_108 : decode cX12_share 108 = .ok (.bipush (-3), 2) := by decide +kernel
theorem dX12_share_110 : decode cX12_share 110 = .ok (.ireturn, 1) := by decide +kernel
theorem dX12_share_111 : decode cX12_share 111 = .ok (.aload_n 0, 1) := by decide +kernel
theorem dX12_share_112 : decode cX12_share 112 = .ok (.getfield 23, 3) := by decide +kernel
theorem dX12_share_115 : decode cX12_share 115 = .ok (.iload_n 1, 1) := by decide +kernel
theorem dX12_share_116 : decode cX12_share 116 = .ok (.baload, 1) := by decide +kernel
theorem dX12_share_117 : decode cX12_share 117 = .ok (.ifCond .eq 6, 3) := by decide +kernel
theorem dX12_share_120 : decode cX12_share 120 = .ok (.bipush (-4), 2) := by decide +kernel
theorem dX12_share_122 : decode cX12_share 122 = .ok (.ireturn, 1) := by decide +kernel
theorem dX12_share_123 : decode cX12_share 123 = .ok (.aload_n 0, 1) := by decide +kernel
theorem dX12_share_124 : decode cX12_share 124 = .ok (.getfield 184, 3) := by decide +kernel
theorem dX12_share_127 : decode cX12_share 127 = .ok (.ifCond .ne 6, 3) := by decide +kernel
theorem dX12_share_130 : decode cX12_share 130 = .ok (.bipush (-6), 2) := by decide +kernel
theorem dX12_share_132 : decode cX12_share 132 = .ok (.ireturn, 1) := by decide +kernel
theorem dX12_share_133 : decode cX12_share 133 = .ok (.aload_n 0, 1) := by decide +kernel
theorem dX12_share_134 : decode cX12_share 134 = .ok (.aload_n 0, 1) := by decide +kernel
theorem dX12_share_135 : decode cX12_share 135 = .ok (.getfield 184, 3) := by decide +kernel
theorem dX12_share_138 : decode cX12_share 138 = .ok (.putfield 234, 3) := by decide +kernel
theorem dX12_share_141 : decode cX12_share 141 = .ok (.iconst 0, 1) := by decide +kernel
theorem dX12_share_142 : decode cX12_share 142 = .ok (.istore 7, 2) := by decide +kernel
theorem dX12_share_144 : decode cX12_share 144 = .ok (.iload 7, 2) := by decide +kernel
theorem dX12_share_146 : decode cX12_share 146 = .ok (.aload_n 0, 1) := by decide +kernel
theorem dX12_share_147 : decode cX12_share 147 = .ok (.getfield 184, 3) := by decide +kernel
theorem dX12_share_150 : decode cX12_share 150 = .ok (.if_icmp .ge 23, 3) := by decide +kernel
theorem dX12_share_153 : decode cX12_share 153 = .ok (.aload_n 0, 1) := by decide +kernel
theorem dX12_share_154 : decode cX12_share 154 = .ok (.getfield 101, 3) := by decide +kernel
theorem dX12_share_157 : decode cX12_share 157 = .ok (.iload 7, 2) := by decide +kernel
theorem dX12_share_159 : decode cX12_share 159 = .ok (.aload_n 0, 1) := by decide +kernel
theorem dX12_share_160 : decode cX12_share 160 = .ok (.getfield 74, 3) := by decide +kernel
theorem dX12_share_163 : decode cX12_share 163 = .ok (.iload 7, 2) := by decide +kernel
theorem dX12_share_165 : decode cX12_share 165 = .ok (.laload, 1) := by decide +kernel
theorem dX12_share_166 : decode cX12_share 166 = .ok (.lastore, 1) := by decide +kernel
theorem dX12_share_167 : decode cX12_share 167 = .ok (.iinc 7 1, 3) := by decide +kernel
theorem dX12_share_170 : decode cX12_share 170 = .ok (.goto (-26), 3) := by decide +kernel
theorem dX12_share_173 : decode cX12_share 173 = .ok (.aload_n 0, 1) := by decide +kernel
theorem dX12_share_174 : decode cX12_share 174 = .ok (.lload_n 2, 1) := by decide +kernel
theorem dX12_share_175 : decode cX12_share 175 = .ok (.invokevirtual 241, 3) := by decide +kernel
theorem dX12_share_178 : decode cX12_share 178 = .ok (.aload_n 0, 1) := by decide +kernel
theorem dX12_share_179 : decode cX12_share 179 = .ok (.iconst 0, 1) := by decide +kernel
theorem dX12_share_180 : decode cX12_share 180 = .ok (.putfield 187, 3) := by decide +kernel
theorem dX12_share_183 : decode cX12_share 183 = .ok (.aload_n 0, 1) := by decide +kernel
theorem dX12_share_184 : decode cX12_share 184 = .ok (.iload_n 1, 1) := by decide +kernel
theorem dX12_share_185 : decode cX12_share 185 = .ok (.lload_n 2, 1) := by decide +kernel
theorem dX12_share_186 : decode cX12_share 186 = .ok (.lneg, 1) := by decide +kernel
theorem dX12_share_187 : decode cX12_share 187 = .ok (.invokevirtual 217, 3) := by decide +kernel
theorem dX12_share_190 : decode cX12_share 190 = .ok (.iconst 0, 1) := by decide +kernel
theorem dX12_share_191 : decode cX12_share 191 = .ok (.istore 7, 2) := by decide +kernel
theorem dX12_share_193 : decode cX12_share 193 = .ok (.iload 7, 2) := by decide +kernel
theorem dX12_share_195 : decode cX12_share 195 = .ok (.aload_n 0, 1) := by decide +kernel
theorem dX12_share_196 : decode cX12_share 196 = .ok (.getfield 184, 3) := by decide +kernel
theorem dX12_share_199 : decode cX12_share 199 = .ok (.if_icmp .ge 39, 3) := by decide +kernel
theorem dX12_share_202 : decode cX12_share 202 = .ok (.aload_n 0, 1) := by decide +kernel
theorem dX12_share_203 : decode cX12_share 203 = .ok (.getfield 104, 3) := by decide +kernel
theorem dX12_share_206 : decode cX12_share 206 = .ok (.iload 7, 2) := by decide +kernel
theorem dX12_share_208 : decode cX12_share 208 = .ok (.laload, 1) := by decide +kernel
theorem dX12_share_209 : decode cX12_share 209 = .ok (.lconst 0, 1) := by decide +kernel
theorem dX12_share_210 : decode cX12_share 210 = .ok (.lcmp, 1) := by decide +kernel
theorem dX12_share_211 : decode cX12_share 211 = .ok (.ifCond .eq 21, 3) := by decide +kernel
theorem dX12_share_214 : decode cX12_share 214 = .ok (.aload_n 0, 1) := by decide +kernel
theorem dX12_share_215 : decode cX12_share 215 = .ok (.aload_n 0, 1) := by decide +kernel
theorem dX12_share_216 : decode cX12_share 216 = .ok (.getfield 71, 3) := by decide +kernel
theorem dX12_share_219 : decode cX12_share 219 = .ok (.iload 7, 2) := by decide +kernel
theorem dX12_share_221 : decode cX12_share 221 = .ok (.iaload, 1) := by decide +kernel
theorem dX12_share_222 : decode cX12_share 222 = .ok (.aload_n 0, 1) := by decide +kernel
theorem dX12_share_223 : decode cX12_share 223 = .ok (.getfield 104, 3) := by decide +kernel
theorem dX12_share_226 : decode cX12_share 226 = .ok (.iload 7, 2) := by decide +kernel
theorem dX12_share_228 : decode cX12_share 228 = .ok (.laload, 1) := by decide +kernel
theorem dX12_share_229 : decode cX12_share 229 = .ok (.invokevirtual 217, 3) := by decide +kernel
theorem dX12_share_232 : decode cX12_share 232 = .ok (.iinc 7 1, 3) := by decide +kernel
theorem dX12_share_235 : decode cX12_share 235 = .ok (.goto (-42), 3) := by decide +kernel
theorem dX12_share_238 : decode cX12_share 238 = .ok (.aload_n 0, 1) := by decide +kernel
theorem dX12_share_239 : decode cX12_share 239 = .ok (.iload 4, 2) := by decide +kernel
theorem dX12_share_241 : decode cX12_share 241 = .ok (.iload 5, 2) := by decide +kernel
theorem dX12_share_243 : decode cX12_share 243 = .ok (.invokevirtual 221, 3) := by decide +kernel
theorem dX12_share_246 : decode cX12_share 246 = .ok (.istore 7, 2) := by decide +kernel
theorem dX12_share_248 : decode cX12_share 248 = .ok (.aload_n 0, 1) := by decide +kernel
theorem dX12_share_249 : decode cX12_share 249 = .ok (.iload 7, 2) := by decide +kernel
theorem dX12_share_251 : decode cX12_share 251 = .ok (.ifCond .ge 10, 3) := by decide +kernel
theorem dX12_share_254 : decode cX12_share 254 = .ok (.aload_n 0, 1) := by decide +kernel
theorem dX12_share_255 : decode cX12_share 255 = .ok (.getfield 184, 3) := by decide +kernel
theorem dX12_share_258 : decode cX12_share 258 = .ok (.goto 4, 3) := by decide +kernel
theorem dX12_share_261 : decode cX12_share 261 = .ok (.iconst 0, 1) := by decide +kernel
theorem dX12_share_262 : decode cX12_share 262 = .ok (.putfield 184, 3) := by decide +kernel
theorem dX12_share_265 : decode cX12_share 265 = .ok (.iload 7, 2) := by decide +kernel
theorem dX12_share_267 : decode cX12_share 267 = .ok (.ireturn, 1) := by decide +kernel
theorem dX12_part_0 : decode cX12_part 0 = .ok (.iload 7, 2) := by decide +kernel
theorem dX12_part_2 : decode cX12_part 2 = .ok (.i2l, 1) := by decide +kernel
theorem dX12_part_3 : decode cX12_part 3 = .ok (.lconst 0, 1) := by decide +kernel
theorem dX12_part_4 : decode cX12_part 4 = .ok (.ldc2_w 244, 3) := by decide +kernel
theorem dX12_part_7 : decode cX12_part 7 = .ok (.invokestatic 116, 3) := by decide +kernel
theorem dX12_part_10 : decode cX12_part 10 = .ok (.ifCond .eq 80, 3) := by decide +kernel
theorem dX12_part_13 : decode cX12_part 13 = .ok (.lload_n 1, 1) := by decide +kernel
theorem dX12_part_14 : decode cX12_part 14 = .ok (.ldc2_w 180, 3) := by decide +kernel
theorem dX12_part_17 : decode cX12_part 17 = .ok (.ldc2_w 182, 3) := by decide +kernel
theorem dX12_part_20 : decode cX12_part 20 = .ok (.invokestatic 116, 3) := by decide +kernel
theorem dX12_part_23 : decode cX12_part 23 = .ok (.ifCond .eq 67, 3) := by decide +kernel
theorem dX12_part_26 : decode cX12_part 26 = .ok (.iload_n 3, 1) := by decide +kernel
theorem dX12_part_27 : decode cX12_part 27 = .ok (.i2l, 1) := by decide +kernel
theorem dX12_part_28 : decode cX12_part 28 = .ok (.lconst 0, 1) := by decide +kernel
theorem dX12_part_29 : decode cX12_part 29 = .ok (.ldc2_w 239, 3) := by decide +kernel
theorem dX12_part_32 : decode cX12_part 32 = .ok (.invokestatic 116, 3) := by decide +kernel
theorem dX12_part_35 : decode cX12_part 35 = .ok (.ifCond .eq 55, 3) := by decide +kernel
theorem dX12_part_38 : decode cX12_part 38 = .ok (.iload 4, 2) := by decide +kernel
theorem dX12_part_40 : decode cX12_part 40 = .ok (.i2l, 1) := by decide +kernel
theorem dX12_part_41 : decode cX12_part 41 = .ok (.lconst 0, 1) := by decide +kernel
theorem dX12_part_42 : decode cX12_part 42 = .ok (.ldc2_w 239, 3) := by decide +kernel
theorem dX12_part_45 : decode cX12_part 45 = .ok (.invokestatic 116, 3) := by decide +kernel
theorem dX12_part_48 : decode cX12_part 48 = .ok (.ifCond .eq 42, 3) := by decide +kernel
theorem dX12_part_51 : decode cX12_part 51 = .ok (.iload 5, 2) := by decide +kernel
theorem dX12_part_53 : decode cX12_part 53 = .ok (.i2l, 1) := by decide +kernel
theorem dX12_part_54 : decode cX12_part 54 = .ok (.lconst 0, 1) := by decide +kernel
theorem dX12_part_55 : decode cX12_part 55 = .ok (.ldc2_w 239, 3) := by decide +kernel
theorem dX12_part_58 : decode cX12_part 58 = .ok (.invokestatic 116, 3) := by decide +kernel
theorem dX12_part_61 : decode cX12_part 61 = .ok (.ifCond .eq 29, 3) := by decide +kernel
theorem dX12_part_64 : decode cX12_part 64 = .ok (.iload 6, 2) := by decide +kernel
theorem dX12_part_66 : decode cX12_part 66 = .ok (.i2l, 1) := by decide +kernel
theorem dX12_part_67 : decode cX12_part 67 = .ok (.lconst 0, 1) := by decide +kernel
theorem dX12_part_68 : decode cX12_part 68 = .ok (.ldc2_w 239, 3) := by decide +kernel
theorem dX12_part_71 : decode cX12_part 71 = .ok (.invokestatic 116, 3) := by decide +kernel
theorem dX12_part_74 : decode cX12_part 74 = .ok (.ifCond .eq 16, 3) := by decide +kernel
theorem dX12_part_77 : decode cX12_part 77 = .ok (.iload_n 3, 1) := by decide +kernel
theorem dX12_part_78 : decode cX12_part 78 = .ok (.iload 4, 2) := by decide +kernel
theorem dX12_part_80 : decode cX12_part 80 = .ok (.iadd, 1) := by decide +kernel
theorem dX12_part_81 : decode cX12_part 81 = .ok (.iload 5, 2) := by decide +kernel
theorem dX12_part_83 : decode cX12_part 83 = .ok (.iadd, 1) := by decide +kernel
theorem dX12_part_84 : decode cX12_part 84 = .ok (.iload 6, 2) := by decide +kernel
theorem dX12_part_86 : decode cX12_part 86 = .ok (.iadd, 1) := by decide +kernel
theorem dX12_part_87 : decode cX12_part 87 = .ok (.ifCond .ne 7, 3) := by decide +kernel
theorem dX12_part_90 : decode cX12_part 90 = .ok (.ldc2_w 246, 3) := by decide +kernel
theorem dX12_part_93 : decode cX12_part 93 = .ok (.lreturn, 1) := by decide +kernel
theorem dX12_part_94 : decode cX12_part 94 = .ok (.aload_n 0, 1) := by decide +kernel
theorem dX12_part_95 : decode cX12_part 95 = .ok (.iconst 4, 1) := by decide +kernel
theorem dX12_part_96 : decode cX12_part 96 = .ok (.putfield 234, 3) := by decide +kernel
theorem dX12_part_99 : decode cX12_part 99 = .ok (.aload_n 0, 1) := by decide +kernel
theorem dX12_part_100 : decode cX12_part 100 = .ok (.getfield 101, 3) := by decide +kernel
theorem dX12_part_103 : decode cX12_part 103 = .ok (.iconst 0, 1) := by decide +kernel
theorem dX12_part_104 : decode cX12_part 104 = .ok (.iload_n 3, 1) := by decide +kernel
theorem dX12_part_105 : decode cX12_part 105 = .ok (.i2l, 1) := by decide +kernel
theorem dX12_part_106 : decode cX12_part 106 = .ok (.lastore, 1) := by decide +kernel
theorem dX12_part_107 : decode cX12_part 107 = .ok (.aload_n 0, 1) := by decide +kernel
theorem dX12_part_108 : decode cX12_part 108 = .ok (.getfield 101, 3) := by decide +kernel
theorem dX12_part_111 : decode cX12_part 111 = .ok (.iconst 1, 1) := by decide +kernel
theorem dX12_part_112 : decode cX12_part 112 = .ok (.iload 4, 2) := by decide +kernel
theorem dX12_part_114 : decode cX12_part 114 = .ok (.i2l, 1) := by decide +kernel
theorem dX12_part_115 : decode cX12_part 115 = .ok (.lastore, 1) := by decide +kernel
theorem dX12_part_116 : decode cX12_part 116 = .ok (.aload_n 0, 1) := by decide +kernel
theorem dX12_part_117 : decode cX12_part 117 = .ok (.getfield 101, 3) := by decide +kernel
theorem dX12_part_120 : decode cX12_part 120 = .ok (.iconst 2, 1) := by decide +kernel
theorem dX12_part_121 : decode cX12_part 121 = .ok (.iload 5, 2) := by decide +kernel
theorem dX12_part_123 : decode cX12_part 123 = .ok (.i2l, 1) := by decide +kernel
theorem dX12_part_124 : decode cX12_part 124 = .ok (.lastore, 1) := by decide +kernel
theorem dX12_part_125 : decode cX12_part 125 = .ok (.aload_n 0, 1) := by decide +kernel
theorem dX12_part_126 : decode cX12_part 126 = .ok (.getfield 101, 3) := by decide +kernel
theorem dX12_part_129 : decode cX12_part 129 = .ok (.iconst 3, 1) := by decide +kernel
theorem dX12_part_130 : decode cX12_part 130 = .ok (.iload 6, 2) := by decide +kernel
theorem dX12_part_132 : decode cX12_part 132 = .ok (.i2l, 1) := by decide +kernel
theorem dX12_part_133 : decode cX12_part 133 = .ok (.lastore, 1) := by decide +kernel
theorem dX12_part_134 : decode cX12_part 134 = .ok (.aload_n 0, 1) := by decide +kernel
theorem dX12_part_135 : decode cX12_part 135 = .ok (.lload_n 1, 1) := by decide +kernel
theorem dX12_part_136 : decode cX12_part 136 = .ok (.invokevirtual 241, 3) := by decide +kernel
theorem dX12_part_139 : decode cX12_part 139 = .ok (.aload_n 0, 1) := by decide +kernel
theorem dX12_part_140 : decode cX12_part 140 = .ok (.getfield 104, 3) := by decide +kernel
theorem dX12_part_143 : decode cX12_part 143 = .ok (.iload 7, 2) := by decide +kernel
theorem dX12_part_145 : decode cX12_part 145 = .ok (.laload, 1) := by decide +kernel
theorem dX12_part_146 : decode cX12_part 146 = .ok (.lreturn, 1) := by decide +kernel
theorem dX12_sync_0 : decode cX12_sync 0 = .ok (.aload_n 0, 1) := by decide +kernel
theorem dX12_sync_1 : decode cX12_sync 1 = .ok (.getfield 7, 3) := by decide +kernel
theorem dX12_sync_4 : decode cX12_sync 4 = .ok (.ifCond .ne 6, 3) := by decide +kernel
theorem dX12_sync_7 : decode cX12_sync 7 = .ok (.bipush (-6), 2) := by decide +kernel
theorem dX12_sync_9 : decode cX12_sync 9 = .ok (.ireturn, 1) := by decide +kernel
theorem dX12_sync_10 : decode cX12_sync 10 = .ok (.aload_n 0, 1) := by decide +kernel
theorem dX12_sync_11 : decode cX12_sync 11 = .ok (.getfield 132, 3) := by decide +kernel
theorem dX12_sync_14 : decode cX12_sync 14 = .ok (.aload_n 0, 1) := by decide +kernel
theorem dX12_sync_15 : decode cX12_sync 15 = .ok (.getfield 248, 3) := by decide +kernel
theorem dX12_sync_18 : decode cX12_sync 18 = .ok (.isub, 1) := by decide +kernel
theorem dX12_sync_19 : decode cX12_sync 19 = .ok (.istore_n 1, 1) := by decide +kernel
theorem dX12_sync_20 : decode cX12_sync 20 = .ok (.aload_n 0, 1) := by decide +kernel
theorem dX12_sync_21 : decode cX12_sync 21 = .ok (.aload_n 0, 1) := by decide +kernel
theorem dX12_sync_22 : decode cX12_sync 22 = .ok (.getfield 132, 3) := by decide +kernel
theorem dX12_sync_25 : decode cX12_sync 25 = .ok (.putfield 248, 3) := by decide +kernel
theorem dX12_sync_28 : decode cX12_sync 28 = .ok (.iload_n 1, 1) := by decide +kernel
theorem dX12_sync_29 : decode cX12_sync 29 = .ok (.ireturn, 1) := by decide +kernel
theorem dX12_crash_0 : decode cX12_crash 0 = .ok (.iload_n 1, 1) := by decide +kernel
theorem dX12_crash_1 : decode cX12_crash 1 = .ok (.ifCond .lt 15, 3) := by decide +kernel
theorem dX12_crash_4 : decode cX12_crash 4 = .ok (.iload_n 2, 1) := by decide +kernel
theorem dX12_crash_5 : decode cX12_crash 5 = .ok (.i2l, 1) := by decide +kernel
theorem dX12_crash_6 : decode cX12_crash 6 = .ok (.lconst 0, 1) := by decide +kernel
theorem dX12_crash_7 : decode cX12_crash 7 = .ok (.ldc2_w 251, 3) := by decide +kernel
theorem dX12_crash_10 : decode cX12_crash 10 = .ok (.invokestatic 116, 3) := by decide +kernel
theorem dX12_crash_13 : decode cX12_crash 13 = .ok (.ifCond .ne 6, 3) := by decide +kernel
theorem dX12_crash_16 : decode cX12_crash 16 = .ok (.bipush (-3), 2) := by decide +kernel
theorem dX12_crash_18 : decode cX12_crash 18 = .ok (.ireturn, 1) := by decide +kernel
theorem dX12_crash_19 : decode cX12_crash 19 = .ok (.aload_n 0, 1) := by decide +kernel
theorem dX12_crash_20 : decode cX12_crash 20 = .ok (.getfield 132, 3) := by decide +kernel
theorem dX12_crash_23 : decode cX12_crash 23 = .ok (.aload_n 0, 1) := by decide +kernel
theorem dX12_crash_24 : decode cX12_crash 24 = .ok (.getfield 248, 3) := by decide +kernel
theorem dX12_crash_27 : decode cX12_crash 27 = .ok (.isub, 1) := by decide +kernel
theorem dX12_crash_28 : decode cX12_crash 28 = .ok (.iload_n 1, 1) := by decide +kernel
theorem dX12_crash_29 : decode cX12_crash 29 = .ok (.if_icmp .ge 15, 3) := by decide +kernel
theorem dX12_crash_32 : decode cX12_crash 32 = .ok (.aload_n 0, 1) := by decide +kernel
theorem dX12_crash_33 : decode cX12_crash 33 = .ok (.getfield 132, 3) := by decide +kernel
theorem dX12_crash_36 : decode cX12_crash 36 = .ok (.aload_n 0, 1) := by decide +kernel
theorem dX12_crash_37 : decode cX12_crash 37 = .ok (.getfield 248, 3) := by decide +kernel
theorem dX12_crash_40 : decode cX12_crash 40 = .ok (.isub, 1) := by decide +kernel
theorem dX12_crash_41 : decode cX12_crash 41 = .ok (.goto 4, 3) := by decide +kernel
theorem dX12_crash_44 : decode cX12_crash 44 = .ok (.iload_n 1, 1) := by decide +kernel
theorem dX12_crash_45 : decode cX12_crash 45 = .ok (.istore_n 3, 1) := by decide +kernel
theorem dX12_crash_46 : decode cX12_crash 46 = .ok (.aload_n 0, 1) := by decide +kernel
theorem dX12_crash_47 : decode cX12_crash 47 = .ok (.aload_n 0, 1) := by decide +kernel
theorem dX12_crash_48 : decode cX12_crash 48 = .ok (.getfield 248, 3) := by decide +kernel
theorem dX12_crash_51 : decode cX12_crash 51 = .ok (.iload_n 3, 1) := by decide +kernel
theorem dX12_crash_52 : decode cX12_crash 52 = .ok (.iadd, 1) := by decide +kernel
theorem dX12_crash_53 : decode cX12_crash 53 = .ok (.putfield 132, 3) := by decide +kernel
theorem dX12_crash_56 : decode cX12_crash 56 = .ok (.iload_n 3, 1) := by decide +kernel
theorem dX12_crash_57 : decode cX12_crash 57 = .ok (.ifCond .le 27, 3) := by decide +kernel
theorem dX12_crash_60 : decode cX12_crash 60 = .ok (.aload_n 0, 1) := by decide +kernel
theorem dX12_crash_61 : decode cX12_crash 61 = .ok (.getfield 83, 3) := by decide +kernel
theorem dX12_crash_64 : decode cX12_crash 64 = .ok (.aload_n 0, 1) := by decide +kernel
theorem dX12_crash_65 : decode cX12_crash 65 = .ok (.getfield 132, 3) := by decide +kernel
theorem dX12_crash_68 : decode cX12_crash 68 = .ok (.iconst 1, 1) := by decide +kernel
theorem dX12_crash_69 : decode cX12_crash 69 = .ok (.isub, 1) := by decide +kernel
theorem dX12_crash_70 : decode cX12_crash 70 = .ok (.aload_n 0, 1) := by decide +kernel
theorem dX12_crash_71 : decode cX12_crash 71 = .ok (.getfield 83, 3) := by decide +kernel
theorem dX12_crash_74 : decode cX12_crash 74 = .ok (.aload_n 0, 1) := by decide +kernel
theorem dX12_crash_75 : decode cX12_crash 75 = .ok (.getfield 132, 3) := by decide +kernel
theorem dX12_crash_78 : decode cX12_crash 78 = .ok (.iconst 1, 1) := by decide +kernel
theorem dX12_crash_79 : decode cX12_crash 79 = .ok (.isub, 1) := by decide +kernel
theorem dX12_crash_80 : decode cX12_crash 80 = .ok (.iaload, 1) := by decide +kernel
theorem dX12_crash_81 : decode cX12_crash 81 = .ok (.iload_n 2, 1) := by decide +kernel
theorem dX12_crash_82 : decode cX12_crash 82 = .ok (.ixor, 1) := by decide +kernel
theorem dX12_crash_83 : decode cX12_crash 83 = .ok (.iastore, 1) := by decide +kernel
theorem dX12_crash_84 : decode cX12_crash 84 = .ok (.aload_n 0, 1) := by decide +kernel
theorem dX12_crash_85 : decode cX12_crash 85 = .ok (.iconst 0, 1) := by decide +kernel
theorem dX12_crash_86 : decode cX12_crash 86 = .ok (.putfield 184, 3) := by decide +kernel
theorem dX12_crash_89 : decode cX12_crash 89 = .ok (.aload_n 0, 1) := by decide +kernel
theorem dX12_crash_90 : decode cX12_crash 90 = .ok (.iconst 0, 1) := by decide +kernel
theorem dX12_crash_91 : decode cX12_crash 91 = .ok (.putfield 253, 3) := by decide +kernel
theorem dX12_crash_94 : decode cX12_crash 94 = .ok (.aload_n 0, 1) := by decide +kernel
theorem dX12_crash_95 : decode cX12_crash 95 = .ok (.iconst 0, 1) := by decide +kernel
theorem dX12_crash_96 : decode cX12_crash 96 = .ok (.putfield 7, 3) := by decide +kernel
theorem dX12_crash_99 : decode cX12_crash 99 = .ok (.aload_n 0, 1) := by decide +kernel
theorem dX12_crash_100 : decode cX12_crash 100 = .ok (.getfield 132, 3) := by decide +kernel
theorem dX12_crash_103 : decode cX12_crash 103 = .ok (.ireturn, 1) := by decide +kernel
theorem dX12_number_0 : decode cX12_number 0 = .ok (.lconst 0, 1) := by decide +kernel
theorem dX12_number_1 : decode cX12_number 1 = .ok (.lstore_n 1, 1) := by decide +kernel
theorem dX12_number_2 : decode cX12_number 2 = .ok (.iconst 0, 1) := by decide +kernel
theorem dX12_number_3 : decode cX12_number 3 = .ok (.istore_n 3, 1) := by decide +kernel
theorem dX12_number_4 : decode cX12_number 4 = .ok (.iconst 1, 1) := by decide +kernel
theorem dX12_number_5 : decode cX12_number 5 = .ok (.istore 4, 2) := by decide +kernel
theorem dX12_number_7 : decode cX12_number 7 = .ok (.iload 4, 2) := by decide +kernel
theorem dX12_number_9 : decode cX12_number 9 = .ok (.ifCond .eq 111, 3) := by decide +kernel
theorem dX12_number_12 : decode cX12_number 12 = .ok (.aload_n 0, 1) := by decide +kernel
theorem dX12_number_13 : decode cX12_number 13 = .ok (.getfield 256, 3) := by decide +kernel
theorem dX12_number_16 : decode cX12_number 16 = .ok (.ifCond .ne 104, 3) := by decide +kernel
theorem dX12_number_19 : decode cX12_number 19 = .ok (.aload_n 0, 1) := by decide +kernel
theorem dX12_number_20 : decode cX12_number 20 = .ok (.getfield 259, 3) := by decide +kernel
theorem dX12_number_23 : decode cX12_number 23 = .ok (.aload_n 0, 1) := by decide +kernel
theorem dX12_number_24 : decode cX12_number 24 = .ok (.getfield 262, 3) := by decide +kernel
theorem dX12_number_27 : decode cX12_number 27 = .ok (.if_icmp .eq 9, 3) := by decide +kernel
theorem dX12_number_30 : decode cX12_number 30 = .ok (.iload_n 3, 1) := by decide +kernel
theorem dX12_number_31 : decode cX12_number 31 = .ok (.bipush 10, 2) := by decide +kernel
theorem dX12_number_33 : decode cX12_number 33 = .ok (.if_icmp .ne 11, 3) := by decide +kernel
theorem dX12_number_36 : decode cX12_number 36 = .ok (.aload_n 0, 1) := by decide +kernel
theorem dX12_number_37 : decode cX12_number 37 = .ok (.iconst 1, 1) := by decide +kernel
theorem dX12_number_38 : decode cX12_number 38 = .ok (.putfield 256, 3) := by decide +kernel
theorem dX12_number_41 : decode cX12_number 41 = .ok (.goto (-34), 3) := by decide +kernel
theorem dX12_number_44 : decode cX12_number 44 = .ok (.aload_n 0, 1) := by decide +kernel
theorem dX12_number_45 : decode cX12_number 45 = .ok (.getfield 83, 3) := by decide +kernel
theorem dX12_number_48 : decode cX12_number 48 = .ok (.aload_n 0, 1) := by decide +kernel
theorem dX12_number_49 : decode cX12_number 49 = .ok (.getfield 259, 3) := by decide +kernel
theorem dX12_number_52 : decode cX12_number 52 = .ok (.iaload, 1) := by decide +kernel
theorem dX12_number_53 : decode cX12_number 53 = .ok (.istore 5, 2) := by decide +kernel
theorem dX12_number_55 : decode cX12_number 55 = .ok (.aload_n 0, 1) := by decide +kernel
theorem dX12_number_56 : decode cX12_number 56 = .ok (.dup, 1) := by decide +kernel
theorem dX12_number_57 : decode cX12_number 57 = .ok (.getfield 259, 3) := by decide +kernel
theorem dX12_number_60 : decode cX12_number 60 = .ok (.iconst 1, 1) := by decide +kernel
theorem dX12_number_61 : decode cX12_number 61 = .ok (.iadd, 1) := by decide +kernel
theorem dX12_number_62 : decode cX12_number 62 = .ok (.putfield 259, 3) := by decide +kernel
theorem dX12_number_65 : decode cX12_number 65 = .ok (.aload_n 0, 1) := by decide +kernel
theorem dX12_number_66 : decode cX12_number 66 = .ok (.iload_n 3, 1) := by decide +kernel
theorem dX12_number_67 : decode cX12_number 67 = .ok (.bipush 9, 2) := by decide +kernel
theorem dX12_number_69 : decode cX12_number 69 = .ok (.if_icmp .ne 13, 3) := by decide +kernel
theorem dX12_number_72 : decode cX12_number 72 = .ok (.iload 5, 2) := by decide +kernel
theorem dX12_number_74 : decode cX12_number 74 = .ok (.iconst 1, 1) := by decide +kernel
theorem dX12_number_75 : decode cX12_number 75 = .ok (.if_icmp .le 7, 3) := by decide +kernel
theorem dX12_number_78 : decode cX12_number 78 = .ok (.iconst 1, 1) := by decide +kernel
theorem dX12_number_79 : decode cX12_number 79 = .ok (.goto 4, 3) := by decide +kernel
theorem dX12_number_82 : decode cX12_number 82 = .ok (.iconst 0, 1) := by decide +kernel
theorem dX12_number_83 : decode cX12_number 83 = .ok (.putfield 256, 3) := by decide +kernel
theorem dX12_number_86 : decode cX12_number 86 = .ok (.lload_n 1, 1) := by decide +kernel
theorem dX12_number_87 : decode cX12_number 87 = .ok (.iload 5, 2) := by decide +kernel
theorem dX12_number_89 : decode cX12_number 89 = .ok (.bipush 127, 2) := by decide +kernel
theorem dX12_number_91 : decode cX12_number 91 = .ok (.iand, 1) := by decide +kernel
theorem dX12_number_92 : decode cX12_number 92 = .ok (.i2l, 1) := by decide +kernel
theorem dX12_number_93 : decode cX12_number 93 = .ok (.bipush 7, 2) := by decide +kernel
theorem dX12_number_95 : decode cX12_number 95 = .ok (.iload_n 3, 1) := by decide +kernel
theorem dX12_number_96 : decode cX12_number 96 = .ok (.imul, 1) := by decide +kernel
theorem dX12_number_97 : decode cX12_number 97 = .ok (.lshl, 1) := by decide +kernel
theorem dX12_number_98 : decode cX12_number 98 = .ok (.lor, 1) := by decide +kernel
theorem dX12_number_99 : decode cX12_number 99 = .ok (.lstore_n 1, 1) := by decide +kernel
theorem dX12_number_100 : decode cX12_number 100 = .ok (.iload 5, 2) := by decide +kernel
theorem dX12_number_102 : decode cX12_number 102 = .ok (.bipush 127, 2) := by decide +kernel
theorem dX12_number_104 : decode cX12_number 104 = .ok (.if_icmp .le 7, 3) := by decide +kernel
theorem dX12_number_107 : decode cX12_number 107 = .ok (.iconst 1, 1) := by decide +kernel
theorem dX12_number_108 : decode cX12_number 108 = .ok (.goto 4, 3) := by decide +kernel
theorem dX12_number_111 : decode cX12_number 111 = .ok (.iconst 0, 1) := by decide +kernel
theorem dX12_number_112 : decode cX12_number 112 = .ok (.istore 4, 2) := by decide +kernel
theorem dX12_number_114 : decode cX12_number 114 = .ok (.iinc 3 1, 3) := by decide +kernel
theorem dX12_number_117 : decode cX12_number 117 = .ok (.goto (-110), 3) := by decide +kernel
theorem dX12_number_120 : decode cX12_number 120 = .ok (.lload_n 1, 1) := by decide +kernel
theorem dX12_number_121 : decode cX12_number 121 = .ok (.iconst 1, 1) := by decide +kernel
theorem dX12_number_122 : decode cX12_number 122 = .ok (.lushr, 1) := by decide +kernel
theorem dX12_number_123 : decode cX12_number 123 = .ok (.lstore 5, 2) := by decide +kernel
theorem dX12_number_125 : decode cX12_number 125 = .ok (.lload_n 1, 1) := by decide +kernel
theorem dX12_number_126 : decode cX12_number 126 = .ok (.lconst 1, 1) := by decide +kernel
theorem dX12_number_127 : decode cX12_number 127 = .ok (.land, 1) := by decide +kernel
theorem dX12_number_128 : decode cX12_number 128 = .ok (.lconst 1, 1) := by decide +kernel
theorem dX12_number_129 : decode cX12_number 129 = .ok (.lcmp, 1) := by decide +kernel
theorem dX12_number_130 : decode cX12_number 130 = .ok (.ifCond .ne 11, 3) := by decide +kernel
theorem dX12_number_133 : decode cX12_number 133 = .ok (.lload 5, 2) := by decide +kernel
theorem dX12_number_135 : decode cX12_number 135 = .ok (.lneg, 1) := by decide +kernel
theorem dX12_number_136 : decode cX12_number 136 = .ok (.lconst 1, 1) := by decide +kernel
theorem dX12_number_137 : decode cX12_number 137 = .ok (.lsub, 1) := by decide +kernel
theorem dX12_number_138 : decode cX12_number 138 = .ok (.goto 5, 3) := by decide +kernel
theorem dX12_number_141 : decode cX12_number 141 = .ok (.lload 5, 2) := by decide +kernel
theorem dX12_number_143 : decode cX12_number 143 = .ok (.lreturn, 1) := by decide +kernel
theorem dX12_whole_0 : decode cX12_whole 0 = .ok (.aload_n 0, 1) := by decide +kernel
theorem dX12_whole_1 : decode cX12_whole 1 = .ok (.invokevirtual 265, 3) := by decide +kernel
theorem dX12_whole_4 : decode cX12_whole 4 = .ok (.lstore_n 1, 1) := by decide +kernel
theorem dX12_whole_5 : decode cX12_whole 5 = .ok (.aload_n 0, 1) := by decide +kernel
theorem dX12_whole_6 : decode cX12_whole 6 = .ok (.aload_n 0, 1) := by decide +kernel
theorem dX12_whole_7 : decode cX12_whole 7 = .ok (.getfield 256, 3) := by decide +kernel
theorem dX12_whole_10 : decode cX12_whole 10 = .ok (.ifCond .ne 16, 3) := by decide +kernel
theorem dX12_whole_13 : decode cX12_whole 13 = .ok (.lload_n 1, 1) := by decide +kernel
theorem dX12_whole_14 : decode cX12_whole 14 = .ok (.ldc2_w 269, 3) := by decide +kernel
theorem dX12_whole_17 : decode cX12_whole 17 = .ok (.ldc2_w 271, 3) := by decide +kernel
theorem dX12_whole_20 : decode cX12_whole 20 = .ok (.invokestatic 116, 3) := by decide +kernel
theorem dX12_whole_23 : decode cX12_whole 23 = .ok (.ifCond .ne 7, 3) := by decide +kernel
theorem dX12_whole_26 : decode cX12_whole 26 = .ok (.iconst 1, 1) := by decide +kernel
theorem dX12_whole_27 : decode cX12_whole 27 = .ok (.goto 4, 3) := by decide +kernel
theorem dX12_whole_30 : decode cX12_whole 30 = .ok (.iconst 0, 1) := by decide +kernel
theorem dX12_whole_31 : decode cX12_whole 31 = .ok (.putfield 256, 3) := by decide +kernel
theorem dX12_whole_34 : decode cX12_whole 34 = .ok (.lload_n 1, 1) := by decide +kernel
theorem dX12_whole_35 : decode cX12_whole 35 = .ok (.l2i, 1) := by decide +kernel
theorem dX12_whole_36 : decode cX12_whole 36 = .ok (.ireturn, 1) := by decide +kernel
theorem dX12_truth_0 : decode cX12_truth 0 = .ok (.aload_n 0, 1) := by decide +kernel
theorem dX12_truth_1 : decode cX12_truth 1 = .ok (.invokevirtual 273, 3) := by decide +kernel
theorem dX12_truth_4 : decode cX12_truth 4 = .ok (.istore_n 1, 1) := by decide +kernel
theorem dX12_truth_5 : decode cX12_truth 5 = .ok (.aload_n 0, 1) := by decide +kernel
theorem dX12_truth_6 : decode cX12_truth 6 = .ok (.aload_n 0, 1) := by decide +kernel
theorem dX12_truth_7 : decode cX12_truth 7 = .ok (.getfield 256, 3) := by decide +kernel
theorem dX12_truth_10 : decode cX12_truth 10 = .ok (.ifCond .ne 13, 3) := by decide +kernel
theorem dX12_truth_13 : decode cX12_truth 13 = .ok (.iload_n 1, 1) := by decide +kernel
theorem dX12_truth_14 : decode cX12_truth 14 = .ok (.i2l, 1) := by decide +kernel
theorem dX12_truth_15 : decode cX12_truth 15 = .ok (.lconst 0, 1) := by decide +kernel
theorem dX12_truth_16 : decode cX12_truth 16 = .ok (.lconst 1, 1) := by decide +kernel
theorem dX12_truth_17 : decode cX12_truth 17 = .ok (.invokestatic 116, 3) := by decide +kernel
theorem dX12_truth_20 : decode cX12_truth 20 = .ok (.ifCond .ne 7, 3) := by decide +kernel
theorem dX12_truth_23 : decode cX12_truth 23 = .ok (.iconst 1, 1) := by decide +kernel
theorem dX12_truth_24 : decode cX12_truth 24 = .ok (.goto 4, 3) := by decide +kernel
theorem dX12_truth_27 : decode cX12_truth 27 = .ok (.iconst 0, 1) := by decide +kernel
theorem dX12_truth_28 : decode cX12_truth 28 = .ok (.putfield 256, 3) := by decide +kernel
theorem dX12_truth_31 : decode cX12_truth 31 = .ok (.iload_n 1, 1) := by decide +kernel
theorem dX12_truth_32 : decode cX12_truth 32 = .ok (.iconst 1, 1) := by decide +kernel
theorem dX12_truth_33 : decode cX12_truth 33 = .ok (.if_icmp .ne 7, 3) := by decide +kernel
theorem dX12_truth_36 : decode cX12_truth 36 = .ok (.iconst 1, 1) := by decide +kernel
theorem dX12_truth_37 : decode cX12_truth 37 = .ok (.goto 4, 3) := by decide +kernel
theorem dX12_truth_40 : decode cX12_truth 40 = .ok (.iconst 0, 1) := by decide +kernel
theorem dX12_truth_41 : decode cX12_truth 41 = .ok (.ireturn, 1) := by decide +kernel
theorem dX12_isEnded_0 : decode cX12_isEnded 0 = .ok (.aload_n 0, 1) := by decide +kernel
theorem dX12_isEnded_1 : decode cX12_isEnded 1 = .ok (.getfield 256, 3) := by decide +kernel
theorem dX12_isEnded_4 : decode cX12_isEnded 4 = .ok (.ifCond .ne 18, 3) := by decide +kernel
theorem dX12_isEnded_7 : decode cX12_isEnded 7 = .ok (.aload_n 0, 1) := by decide +kernel
theorem dX12_isEnded_8 : decode cX12_isEnded 8 = .ok (.getfield 259, 3) := by decide +kernel
theorem dX12_isEnded_11 : decode cX12_isEnded 11 = .ok (.aload_n 0, 1) := by decide +kernel
theorem dX12_isEnded_12 : decode cX12_isEnded 12 = .ok (.getfield 262, 3) := by decide +kernel
theorem dX12_isEnded_15 : decode cX12_isEnded 15 = .ok (.if_icmp .ne 7, 3) := by decide +kernel
theorem dX12_isEnded_18 : decode cX12_isEnded 18 = .ok (.iconst 1, 1) := by decide +kernel
theorem dX12_isEnded_19 : decode cX12_isEnded 19 = .ok (.goto 4, 3) := by decide +kernel
theorem dX12_isEnded_22 : decode cX12_isEnded 22 = .ok (.iconst 0, 1) := by decide +kernel
theorem dX12_isEnded_23 : decode cX12_isEnded 23 = .ok (.ireturn, 1) := by decide +kernel
theorem dX12_isDone_0 : decode cX12_isDone 0 = .ok (.iload_n 1, 1) := by decide +kernel
theorem dX12_isDone_1 : decode cX12_isDone 1 = .ok (.tableswitch 269 1 8 #[47, 95, 131, 159, 188, 193, 229, 249], 47) := by decide +kernel
theorem dX12_isDone_48 : decode cX12_isDone 48 = .ok (.aload_n 0, 1) := by decide +kernel
theorem dX12_isDone_49 : decode cX12_isDone 49 = .ok (.invokevirtual 273, 3) := by decide +kernel
theorem dX12_isDone_52 : decode cX12_isDone 52 = .ok (.istore_n 2, 1) := by decide +kernel
theorem dX12_isDone_53 : decode cX12_isDone 53 = .ok (.aload_n 0, 1) := by decide +kernel
theorem dX12_isDone_54 : decode cX12_isDone 54 = .ok (.invokevirtual 273, 3) := by decide +kernel
theorem dX12_isDone_57 : decode cX12_isDone 57 = .ok (.istore_n 3, 1) := by decide +kernel
theorem dX12_isDone_58 : decode cX12_isDone 58 = .ok (.aload_n 0, 1) := by decide +kernel
theorem dX12_isDone_59 : decode cX12_isDone 59 = .ok (.invokevirtual 273, 3) := by decide +kernel
theorem dX12_isDone_62 : decode cX12_isDone 62 = .ok (.istore 4, 2) := by decide +kernel
theorem dX12_isDone_64 : decode cX12_isDone 64 = .ok (.aload_n 0, 1) := by decide +kernel
theorem dX12_isDone_65 : decode cX12_isDone 65 = .ok (.invokevirtual 277, 3) := by decide +kernel
theorem dX12_isDone_68 : decode cX12_isDone 68 = .ok (.istore 5, 2) := by decide +kernel
theorem dX12_isDone_70 : decode cX12_isDone 70 = .ok (.aload_n 0, 1) := by decide +kernel
theorem dX12_isDone_71 : decode cX12_isDone 71 = .ok (.invokevirtual 280, 3) := by decide +kernel
theorem dX12_isDone_74 : decode cX12_isDone 74 = .ok (.ifCond .eq 20, 3) := by decide +kernel
theorem dX12_isDone_77 : decode cX12_isDone 77 = .ok (.aload_n 0, 1) := by decide +kernel
theorem dX12_isDone_78 : decode cX12_isDone 78 = .ok (.iload_n 2, 1) := by decide +kernel
theorem dX12_isDone_79 : decode cX12_isDone 79 = .ok (.iload_n 3, 1) := by decide +kernel
theorem dX12_isDone_80 : decode cX12_isDone 80 = .ok (.iload 4, 2) := by decide +kernel
theorem dX12_isDone_82 : decode cX12_isDone 82 = .ok (.iload 5, 2) := by decide +kernel
theorem dX12_isDone_84 : decode cX12_isDone 84 = .ok (.invokevirtual 283, 3) := by decide +kernel
theorem dX12_isDone_87 : decode cX12_isDone 87 = .ok (.ifCond .lt 7, 3) := by decide +kernel
theorem dX12_isDone_90 : decode cX12_isDone 90 = .ok (.iconst 1, 1) := by decide +kernel
theorem dX12_isDone_91 : decode cX12_isDone 91 = .ok (.goto 4, 3) := by decide +kernel
theorem dX12_isDone_94 : decode cX12_isDone 94 = .ok (.iconst 0, 1) := by decide +kernel
theorem dX12_isDone_95 : decode cX12_isDone 95 = .ok (.ireturn, 1) := by decide +kernel
theorem dX12_isDone_96 : decode cX12_isDone 96 = .ok (.aload_n 0, 1) := by decide +kernel
theorem dX12_isDone_97 : decode cX12_isDone 97 = .ok (.invokevirtual 273, 3) := by decide +kernel
theorem dX12_isDone_100 : decode cX12_isDone 100 = .ok (.istore 6, 2) := by decide +kernel
theorem dX12_isDone_102 : decode cX12_isDone 102 = .ok (.aload_n 0, 1) := by decide +kernel
theorem dX12_isDone_103 : decode cX12_isDone 103 = .ok (.invokevirtual 277, 3) := by decide +kernel
theorem dX12_isDone_106 : decode cX12_isDone 106 = .ok (.istore 7, 2) := by decide +kernel
theorem dX12_isDone_108 : decode cX12_isDone 108 = .ok (.aload_n 0, 1) := by decide +kernel
theorem dX12_isDone_109 : decode cX12_isDone 109 = .ok (.invokevirtual 280, 3) := by decide +kernel
theorem dX12_isDone_112 : decode cX12_isDone 112 = .ok (.ifCond .eq 18, 3) := by decide +kernel
theorem dX12_isDone_115 : decode cX12_isDone 115 = .ok (.aload_n 0, 1) := by decide +kernel
theorem dX12_isDone_116 : decode cX12_isDone 116 = .ok (.iload 6, 2) := by decide +kernel
theorem dX12_isDone_118 : decode cX12_isDone 118 = .ok (.iload 7, 2) := by decide +kernel
theorem dX12_isDone_120 : decode cX12_isDone 120 = .ok (.invokevirtual 287, 3) := by decide +kernel
theorem dX12_isDone_123 : decode cX12_isDone 123 = .ok (.ifCond .lt 7, 3) := by decide +kernel
theorem dX12_isDone_126 : decode cX12_isDone 126 = .ok (.iconst 1, 1) := by decide +kernel
theorem dX12_isDone_127 : decode cX12_isDone 127 = .ok (.goto 4, 3) := by decide +kernel
theorem dX12_isDone_130 : decode cX12_isDone 130 = .ok (.iconst 0, 1) := by decide +kernel
theorem dX12_isDone_131 : decode cX12_isDone 131 = .ok (.ireturn, 1) := by decide +kernel
theorem dX12_isDone_132 : decode cX12_isDone 132 = .ok (.aload_n 0, 1) := by decide +kernel
theorem dX12_isDone_133 : decode cX12_isDone 133 = .ok (.invokevirtual 273, 3) := by decide +kernel
theorem dX12_isDone_136 : decode cX12_isDone 136 = .ok (.istore 8, 2) := by decide +kernel
theorem dX12_isDone_138 : decode cX12_isDone 138 = .ok (.aload_n 0, 1) := by decide +kernel
theorem dX12_isDone_139 : decode cX12_isDone 139 = .ok (.invokevirtual 280, 3) := by decide +kernel
theorem dX12_isDone_142 : decode cX12_isDone 142 = .ok (.ifCond .eq 16, 3) := by decide +kernel
theorem dX12_isDone_145 : decode cX12_isDone 145 = .ok (.aload_n 0, 1) := by decide +kernel
theorem dX12_isDone_146 : decode cX12_isDone 146 = .ok (.iload 8, 2) := by decide +kernel
theorem dX12_isDone_148 : decode cX12_isDone 148 = .ok (.invokevirtual 291, 3) := by decide +kernel
theorem dX12_isDone_151 : decode cX12_isDone 151 = .ok (.ifCond .lt 7, 3) := by decide +kernel
theorem dX12_isDone_154 : decode cX12_isDone 154 = .ok (.iconst 1, 1) := by decide +kernel
theorem dX12_isDone_155 : decode cX12_isDone 155 = .ok (.goto 4, 3) := by decide +kernel
theorem dX12_isDone_158 : decode cX12_isDone 158 = .ok (.iconst 0, 1) := by decide +kernel
theorem dX12_isDone_159 : decode cX12_isDone 159 = .ok (.ireturn, 1) := by decide +kernel
theorem dX12_isDone_160 : decode cX12_isDone 160 = .ok (.aload_n 0, 1) := by decide +kernel
theorem dX12_isDone_161 : decode cX12_isDone 161 = .ok (.invokevirtual 273, 3) := by decide +kernel
theorem dX12_isDone_164 : decode cX12_isDone 164 = .ok (.istore 9, 2) := by decide +kernel
theorem dX12_isDone_166 : decode cX12_isDone 166 = .ok (.aload_n 0, 1) := by decide +kernel
theorem dX12_isDone_167 : decode cX12_isDone 167 = .ok (.invokevirtual 280, 3) := by decide +kernel
theorem dX12_isDone_170 : decode cX12_isDone 170 = .ok (.ifCond .eq 17, 3) := by decide +kernel
theorem dX12_isDone_173 : decode cX12_isDone 173 = .ok (.aload_n 0, 1) := by decide +kernel
theorem dX12_isDone_174 : decode cX12_isDone 174 = .ok (.iload 9, 2) := by decide +kernel
theorem dX12_isDone_176 : decode cX12_isDone 176 = .ok (.invokevirtual 294, 3) := by decide +kernel
theorem dX12_isDone_179 : decode cX12_isDone 179 = .ok (.iconst (-1), 1) := by decide +kernel
theorem dX12_isDone_180 : decode cX12_isDone 180 = .ok (.if_icmp .lt 7, 3) := by decide +kernel
theorem dX12_isDone_183 : decode cX12_isDone 183 = .ok (.iconst 1, 1) := by decide +kernel
theorem dX12_isDone_184 : decode cX12_isDone 184 = .ok (.goto 4, 3) := by decide +kernel
theorem dX12_isDone_187 : decode cX12_isDone 187 = .ok (.iconst 0, 1) := by decide +kernel
theorem dX12_isDone_188 : decode cX12_isDone 188 = .ok (.ireturn, 1) := by decide +kernel
theorem dX12_isDone_189 : decode cX12_isDone 189 = .ok (.aload_n 0, 1) := by decide +kernel
theorem dX12_isDone_190 : decode cX12_isDone 190 = .ok (.invokevirtual 296, 3) := by decide +kernel
theorem dX12_isDone_193 : decode cX12_isDone 193 = .ok (.ireturn, 1) := by decide +kernel
theorem dX12_isDone_194 : decode cX12_isDone 194 = .ok (.aload_n 0, 1) := by decide +kernel
theorem dX12_isDone_195 : decode cX12_isDone 195 = .ok (.invokevirtual 273, 3) := by decide +kernel
theorem dX12_isDone_198 : decode cX12_isDone 198 = .ok (.istore 10, 2) := by decide +kernel
theorem dX12_isDone_200 : decode cX12_isDone 200 = .ok (.aload_n 0, 1) := by decide +kernel
theorem dX12_isDone_201 : decode cX12_isDone 201 = .ok (.invokevirtual 273, 3) := by decide +kernel
theorem dX12_isDone_204 : decode cX12_isDone 204 = .ok (.istore 11, 2) := by decide +kernel
theorem dX12_isDone_206 : decode cX12_isDone 206 = .ok (.aload_n 0, 1) := by decide +kernel
theorem dX12_isDone_207 : decode cX12_isDone 207 = .ok (.invokevirtual 280, 3) := by decide +kernel
theorem dX12_isDone_210 : decode cX12_isDone 210 = .ok (.ifCond .eq 18, 3) := by decide +kernel
theorem dX12_isDone_213 : decode cX12_isDone 213 = .ok (.aload_n 0, 1) := by decide +kernel
theorem dX12_isDone_214 : decode cX12_isDone 214 = .ok (.iload 10, 2) := by decide +kernel
theorem dX12_isDone_216 : decode cX12_isDone 216 = .ok (.iload 11, 2) := by decide +kernel
theorem dX12_isDone_218 : decode cX12_isDone 218 = .ok (.invokevirtual 299, 3) := by decide +kernel
theorem dX12_isDone_221 : decode cX12_isDone 221 = .ok (.ifCond .lt 7, 3) := by decide +kernel
theorem dX12_isDone_224 : decode cX12_isDone 224 = .ok (.iconst 1, 1) := by decide +kernel
theorem dX12_isDone_225 : decode cX12_isDone 225 = .ok (.goto 4, 3) := by decide +kernel
