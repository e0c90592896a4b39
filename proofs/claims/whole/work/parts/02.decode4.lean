theorem dX12_isDone_228 : decode cX12_isDone 228 = .ok (.iconst 0, 1) := by decide +kernel
theorem dX12_isDone_229 : decode cX12_isDone 229 = .ok (.ireturn, 1) := by decide +kernel
theorem dX12_isDone_230 : decode cX12_isDone 230 = .ok (.aload_n 0, 1) := by decide +kernel
theorem dX12_isDone_231 : decode cX12_isDone 231 = .ok (.invokevirtual 280, 3) := by decide +kernel
theorem dX12_isDone_234 : decode cX12_isDone 234 = .ok (.ifCond .eq 14, 3) := by decide +kernel
theorem dX12_isDone_237 : decode cX12_isDone 237 = .ok (.aload_n 0, 1) := by decide +kernel
theorem dX12_isDone_238 : decode cX12_isDone 238 = .ok (.invokevirtual 302, 3) := by decide +kernel
theorem dX12_isDone_241 : decode cX12_isDone 241 = .ok (.ifCond .lt 7, 3) := by decide +kernel
theorem dX12_isDone_244 : decode cX12_isDone 244 = .ok (.iconst 1, 1) := by decide +kernel
theorem dX12_isDone_245 : decode cX12_isDone 245 = .ok (.goto 4, 3) := by decide +kernel
theorem dX12_isDone_248 : decode cX12_isDone 248 = .ok (.iconst 0, 1) := by decide +kernel
theorem dX12_isDone_249 : decode cX12_isDone 249 = .ok (.ireturn, 1) := by decide +kernel
theorem dX12_isDone_250 : decode cX12_isDone 250 = .ok (.aload_n 0, 1) := by decide +kernel
theorem dX12_isDone_251 : decode cX12_isDone 251 = .ok (.invokevirtual 280, 3) := by decide +kernel
theorem dX12_isDone_254 : decode cX12_isDone 254 = .ok (.ifCond .eq 14, 3) := by decide +kernel
theorem dX12_isDone_257 : decode cX12_isDone 257 = .ok (.aload_n 0, 1) := by decide +kernel
theorem dX12_isDone_258 : decode cX12_isDone 258 = .ok (.invokevirtual 305, 3) := by decide +kernel
theorem dX12_isDone_261 : decode cX12_isDone 261 = .ok (.ifCond .lt 7, 3) := by decide +kernel
theorem dX12_isDone_264 : decode cX12_isDone 264 = .ok (.iconst 1, 1) := by decide +kernel
theorem dX12_isDone_265 : decode cX12_isDone 265 = .ok (.goto 4, 3) := by decide +kernel
theorem dX12_isDone_268 : decode cX12_isDone 268 = .ok (.iconst 0, 1) := by decide +kernel
theorem dX12_isDone_269 : decode cX12_isDone 269 = .ok (.ireturn, 1) := by decide +kernel
theorem dX12_isDone_270 : decode cX12_isDone 270 = .ok (.iconst 0, 1) := by decide +kernel
theorem dX12_isDone_271 : decode cX12_isDone 271 = .ok (.ireturn, 1) := by decide +kernel
theorem dX12_isPosted_0 : decode cX12_isPosted 0 = .ok (.aload_n 0, 1) := by decide +kernel
theorem dX12_isPosted_1 : decode cX12_isPosted 1 = .ok (.invokevirtual 273, 3) := by decide +kernel
theorem dX12_isPosted_4 : decode cX12_isPosted 4 = .ok (.istore_n 1, 1) := by decide +kernel
theorem dX12_isPosted_5 : decode cX12_isPosted 5 = .ok (.aload_n 0, 1) := by decide +kernel
theorem dX12_isPosted_6 : decode cX12_isPosted 6 = .ok (.invokevirtual 273, 3) := by decide +kernel
theorem dX12_isPosted_9 : decode cX12_isPosted 9 = .ok (.istore_n 2, 1) := by decide +kernel
theorem dX12_isPosted_10 : decode cX12_isPosted 10 = .ok (.aload_n 0, 1) := by decide +kernel
theorem dX12_isPosted_11 : decode cX12_isPosted 11 = .ok (.invokevirtual 273, 3) := by decide +kernel
theorem dX12_isPosted_14 : decode cX12_isPosted 14 = .ok (.istore_n 3, 1) := by decide +kernel
theorem dX12_isPosted_15 : decode cX12_isPosted 15 = .ok (.aload_n 0, 1) := by decide +kernel
theorem dX12_isPosted_16 : decode cX12_isPosted 16 = .ok (.aload_n 0, 1) := by decide +kernel
theorem dX12_isPosted_17 : decode cX12_isPosted 17 = .ok (.getfield 256, 3) := by decide +kernel
theorem dX12_isPosted_20 : decode cX12_isPosted 20 = .ok (.ifCond .ne 15, 3) := by decide +kernel
theorem dX12_isPosted_23 : decode cX12_isPosted 23 = .ok (.iload_n 3, 1) := by decide +kernel
theorem dX12_isPosted_24 : decode cX12_isPosted 24 = .ok (.i2l, 1) := by decide +kernel
theorem dX12_isPosted_25 : decode cX12_isPosted 25 = .ok (.lconst 0, 1) := by decide +kernel
theorem dX12_isPosted_26 : decode cX12_isPosted 26 = .ok (.ldc2_w 308, 3) := by decide +kernel
theorem dX12_isPosted_29 : decode cX12_isPosted 29 = .ok (.invokestatic 116, 3) := by decide +kernel
theorem dX12_isPosted_32 : decode cX12_isPosted 32 = .ok (.ifCond .ne 7, 3) := by decide +kernel
theorem dX12_isPosted_35 : decode cX12_isPosted 35 = .ok (.iconst 1, 1) := by decide +kernel
theorem dX12_isPosted_36 : decode cX12_isPosted 36 = .ok (.goto 4, 3) := by decide +kernel
theorem dX12_isPosted_39 : decode cX12_isPosted 39 = .ok (.iconst 0, 1) := by decide +kernel
theorem dX12_isPosted_40 : decode cX12_isPosted 40 = .ok (.putfield 256, 3) := by decide +kernel
theorem dX12_isPosted_43 : decode cX12_isPosted 43 = .ok (.aload_n 0, 1) := by decide +kernel
theorem dX12_isPosted_44 : decode cX12_isPosted 44 = .ok (.iconst 0, 1) := by decide +kernel
theorem dX12_isPosted_45 : decode cX12_isPosted 45 = .ok (.putfield 187, 3) := by decide +kernel
theorem dX12_isPosted_48 : decode cX12_isPosted 48 = .ok (.iconst 1, 1) := by decide +kernel
theorem dX12_isPosted_49 : decode cX12_isPosted 49 = .ok (.istore 4, 2) := by decide +kernel
theorem dX12_isPosted_51 : decode cX12_isPosted 51 = .ok (.iconst 0, 1) := by decide +kernel
theorem dX12_isPosted_52 : decode cX12_isPosted 52 = .ok (.istore 5, 2) := by decide +kernel
theorem dX12_isPosted_54 : decode cX12_isPosted 54 = .ok (.iload 5, 2) := by decide +kernel
theorem dX12_isPosted_56 : decode cX12_isPosted 56 = .ok (.iload_n 3, 1) := by decide +kernel
theorem dX12_isPosted_57 : decode cX12_isPosted 57 = .ok (.if_icmp .ge 88, 3) := by decide +kernel
theorem dX12_isPosted_60 : decode cX12_isPosted 60 = .ok (.aload_n 0, 1) := by decide +kernel
theorem dX12_isPosted_61 : decode cX12_isPosted 61 = .ok (.getfield 256, 3) := by decide +kernel
theorem dX12_isPosted_64 : decode cX12_isPosted 64 = .ok (.ifCond .ne 81, 3) := by decide +kernel
theorem dX12_isPosted_67 : decode cX12_isPosted 67 = .ok (.aload_n 0, 1) := by decide +kernel
theorem dX12_isPosted_68 : decode cX12_isPosted 68 = .ok (.invokevirtual 273, 3) := by decide +kernel
theorem dX12_isPosted_71 : decode cX12_isPosted 71 = .ok (.istore 6, 2) := by decide +kernel
theorem dX12_isPosted_73 : decode cX12_isPosted 73 = .ok (.aload_n 0, 1) := by decide +kernel
theorem dX12_isPosted_74 : decode cX12_isPosted 74 = .ok (.invokevirtual 265, 3) := by decide +kernel
theorem dX12_isPosted_77 : decode cX12_isPosted 77 = .ok (.lstore 7, 2) := by decide +kernel
theorem dX12_isPosted_79 : decode cX12_isPosted 79 = .ok (.iload 4, 2) := by decide +kernel
theorem dX12_isPosted_81 : decode cX12_isPosted 81 = .ok (.ifCond .eq 47, 3) := by decide +kernel
theorem dX12_isPosted_84 : decode cX12_isPosted 84 = .ok (.aload_n 0, 1) := by decide +kernel
theorem dX12_isPosted_85 : decode cX12_isPosted 85 = .ok (.iload 6, 2) := by decide +kernel
theorem dX12_isPosted_87 : decode cX12_isPosted 87 = .ok (.invokevirtual 148, 3) := by decide +kernel
theorem dX12_isPosted_90 : decode cX12_isPosted 90 = .ok (.ifCond .eq 38, 3) := by decide +kernel
theorem dX12_isPosted_93 : decode cX12_isPosted 93 = .ok (.lload 7, 2) := by decide +kernel
theorem dX12_isPosted_95 : decode cX12_isPosted 95 = .ok (.lconst 0, 1) := by decide +kernel
theorem dX12_isPosted_96 : decode cX12_isPosted 96 = .ok (.lcmp, 1) := by decide +kernel
theorem dX12_isPosted_97 : decode cX12_isPosted 97 = .ok (.ifCond .eq 31, 3) := by decide +kernel
theorem dX12_isPosted_100 : decode cX12_isPosted 100 = .ok (.lload 7, 2) := by decide +kernel
theorem dX12_isPosted_102 : decode cX12_isPosted 102 = .ok (.ldc2_w 180, 3) := by decide +kernel
theorem dX12_isPosted_105 : decode cX12_isPosted 105 = .ok (.ldc2_w 182, 3) := by decide +kernel
theorem dX12_isPosted_108 : decode cX12_isPosted 108 = .ok (.invokestatic 116, 3) := by decide +kernel
theorem dX12_isPosted_111 : decode cX12_isPosted 111 = .ok (.ifCond .eq 17, 3) := by decide +kernel
theorem dX12_isPosted_114 : decode cX12_isPosted 114 = .ok (.aload_n 0, 1) := by decide +kernel
theorem dX12_isPosted_115 : decode cX12_isPosted 115 = .ok (.getfield 23, 3) := by decide +kernel
theorem dX12_isPosted_118 : decode cX12_isPosted 118 = .ok (.iload 6, 2) := by decide +kernel
theorem dX12_isPosted_120 : decode cX12_isPosted 120 = .ok (.baload, 1) := by decide +kernel
theorem dX12_isPosted_121 : decode cX12_isPosted 121 = .ok (.ifCond .ne 7, 3) := by decide +kernel
theorem dX12_isPosted_124 : decode cX12_isPosted 124 = .ok (.iconst 1, 1) := by decide +kernel
theorem dX12_isPosted_125 : decode cX12_isPosted 125 = .ok (.goto 4, 3) := by decide +kernel
theorem dX12_isPosted_128 : decode cX12_isPosted 128 = .ok (.iconst 0, 1) := by decide +kernel
theorem dX12_isPosted_129 : decode cX12_isPosted 129 = .ok (.istore 4, 2) := by decide +kernel
theorem dX12_isPosted_131 : decode cX12_isPosted 131 = .ok (.aload_n 0, 1) := by decide +kernel
theorem dX12_isPosted_132 : decode cX12_isPosted 132 = .ok (.iload 6, 2) := by decide +kernel
theorem dX12_isPosted_134 : decode cX12_isPosted 134 = .ok (.lload 7, 2) := by decide +kernel
theorem dX12_isPosted_136 : decode cX12_isPosted 136 = .ok (.invokevirtual 217, 3) := by decide +kernel
theorem dX12_isPosted_139 : decode cX12_isPosted 139 = .ok (.iinc 5 1, 3) := by decide +kernel
theorem dX12_isPosted_142 : decode cX12_isPosted 142 = .ok (.goto (-88), 3) := by decide +kernel
theorem dX12_isPosted_145 : decode cX12_isPosted 145 = .ok (.aload_n 0, 1) := by decide +kernel
theorem dX12_isPosted_146 : decode cX12_isPosted 146 = .ok (.invokevirtual 280, 3) := by decide +kernel
theorem dX12_isPosted_149 : decode cX12_isPosted 149 = .ok (.ifCond .eq 21, 3) := by decide +kernel
theorem dX12_isPosted_152 : decode cX12_isPosted 152 = .ok (.iload 4, 2) := by decide +kernel
theorem dX12_isPosted_154 : decode cX12_isPosted 154 = .ok (.ifCond .eq 16, 3) := by decide +kernel
theorem dX12_isPosted_157 : decode cX12_isPosted 157 = .ok (.aload_n 0, 1) := by decide +kernel
theorem dX12_isPosted_158 : decode cX12_isPosted 158 = .ok (.iload_n 1, 1) := by decide +kernel
theorem dX12_isPosted_159 : decode cX12_isPosted 159 = .ok (.iload_n 2, 1) := by decide +kernel
theorem dX12_isPosted_160 : decode cX12_isPosted 160 = .ok (.invokevirtual 221, 3) := by decide +kernel
theorem dX12_isPosted_163 : decode cX12_isPosted 163 = .ok (.ifCond .lt 7, 3) := by decide +kernel
theorem dX12_isPosted_166 : decode cX12_isPosted 166 = .ok (.iconst 1, 1) := by decide +kernel
theorem dX12_isPosted_167 : decode cX12_isPosted 167 = .ok (.goto 4, 3) := by decide +kernel
theorem dX12_isPosted_170 : decode cX12_isPosted 170 = .ok (.iconst 0, 1) := by decide +kernel
theorem dX12_isPosted_171 : decode cX12_isPosted 171 = .ok (.ireturn, 1) := by decide +kernel
theorem dX12_isNext_0 : decode cX12_isNext 0 = .ok (.aload_n 0, 1) := by decide +kernel
theorem dX12_isNext_1 : decode cX12_isNext 1 = .ok (.getfield 259, 3) := by decide +kernel
theorem dX12_isNext_4 : decode cX12_isNext 4 = .ok (.iconst 4, 1) := by decide +kernel
theorem dX12_isNext_5 : decode cX12_isNext 5 = .ok (.iadd, 1) := by decide +kernel
theorem dX12_isNext_6 : decode cX12_isNext 6 = .ok (.aload_n 0, 1) := by decide +kernel
theorem dX12_isNext_7 : decode cX12_isNext 7 = .ok (.getfield 132, 3) := by decide +kernel
theorem dX12_isNext_10 : decode cX12_isNext 10 = .ok (.if_icmp .gt 26, 3) := by decide +kernel
theorem dX12_isNext_13 : decode cX12_isNext 13 = .ok (.aload_n 0, 1) := by decide +kernel
theorem dX12_isNext_14 : decode cX12_isNext 14 = .ok (.getfield 259, 3) := by decide +kernel
theorem dX12_isNext_17 : decode cX12_isNext 17 = .ok (.iconst 4, 1) := by decide +kernel
theorem dX12_isNext_18 : decode cX12_isNext 18 = .ok (.iadd, 1) := by decide +kernel
theorem dX12_isNext_19 : decode cX12_isNext 19 = .ok (.aload_n 0, 1) := by decide +kernel
theorem dX12_isNext_20 : decode cX12_isNext 20 = .ok (.getfield 83, 3) := by decide +kernel
theorem dX12_isNext_23 : decode cX12_isNext 23 = .ok (.aload_n 0, 1) := by decide +kernel
theorem dX12_isNext_24 : decode cX12_isNext 24 = .ok (.getfield 259, 3) := by decide +kernel
theorem dX12_isNext_27 : decode cX12_isNext 27 = .ok (.iaload, 1) := by decide +kernel
theorem dX12_isNext_28 : decode cX12_isNext 28 = .ok (.iadd, 1) := by decide +kernel
theorem dX12_isNext_29 : decode cX12_isNext 29 = .ok (.aload_n 0, 1) := by decide +kernel
theorem dX12_isNext_30 : decode cX12_isNext 30 = .ok (.getfield 132, 3) := by decide +kernel
theorem dX12_isNext_33 : decode cX12_isNext 33 = .ok (.if_icmp .le 5, 3) := by decide +kernel
theorem dX12_isNext_36 : decode cX12_isNext 36 = .ok (.iconst 0, 1) := by decide +kernel
theorem dX12_isNext_37 : decode cX12_isNext 37 = .ok (.ireturn, 1) := by decide +kernel
theorem dX12_isNext_38 : decode cX12_isNext 38 = .ok (.aload_n 0, 1) := by decide +kernel
theorem dX12_isNext_39 : decode cX12_isNext 39 = .ok (.getfield 259, 3) := by decide +kernel
theorem dX12_isNext_42 : decode cX12_isNext 42 = .ok (.istore_n 1, 1) := by decide +kernel
theorem dX12_isNext_43 : decode cX12_isNext 43 = .ok (.aload_n 0, 1) := by decide +kernel
theorem dX12_isNext_44 : decode cX12_isNext 44 = .ok (.getfield 83, 3) := by decide +kernel
theorem dX12_isNext_47 : decode cX12_isNext 47 = .ok (.iload_n 1, 1) := by decide +kernel
theorem dX12_isNext_48 : decode cX12_isNext 48 = .ok (.iaload, 1) := by decide +kernel
theorem dX12_isNext_49 : decode cX12_isNext 49 = .ok (.istore_n 2, 1) := by decide +kernel
theorem dX12_isNext_50 : decode cX12_isNext 50 = .ok (.ldc 136, 2) := by decide +kernel
theorem dX12_isNext_52 : decode cX12_isNext 52 = .ok (.istore_n 3, 1) := by decide +kernel
theorem dX12_isNext_53 : decode cX12_isNext 53 = .ok (.iconst 0, 1) := by decide +kernel
theorem dX12_isNext_54 : decode cX12_isNext 54 = .ok (.istore 4, 2) := by decide +kernel
theorem dX12_isNext_56 : decode cX12_isNext 56 = .ok (.iload 4, 2) := by decide +kernel
theorem dX12_isNext_58 : decode cX12_isNext 58 = .ok (.iload_n 2, 1) := by decide +kernel
theorem dX12_isNext_59 : decode cX12_isNext 59 = .ok (.iconst 2, 1) := by decide +kernel
theorem dX12_isNext_60 : decode cX12_isNext 60 = .ok (.iadd, 1) := by decide +kernel
theorem dX12_isNext_61 : decode cX12_isNext 61 = .ok (.if_icmp .ge 23, 3) := by decide +kernel
theorem dX12_isNext_64 : decode cX12_isNext 64 = .ok (.iload_n 3, 1) := by decide +kernel
theorem dX12_isNext_65 : decode cX12_isNext 65 = .ok (.aload_n 0, 1) := by decide +kernel
theorem dX12_isNext_66 : decode cX12_isNext 66 = .ok (.getfield 83, 3) := by decide +kernel
theorem dX12_isNext_69 : decode cX12_isNext 69 = .ok (.iload_n 1, 1) := by decide +kernel
theorem dX12_isNext_70 : decode cX12_isNext 70 = .ok (.iload 4, 2) := by decide +kernel
theorem dX12_isNext_72 : decode cX12_isNext 72 = .ok (.iadd, 1) := by decide +kernel
theorem dX12_isNext_73 : decode cX12_isNext 73 = .ok (.iaload, 1) := by decide +kernel
theorem dX12_isNext_74 : decode cX12_isNext 74 = .ok (.invokestatic 140, 3) := by decide +kernel
theorem dX12_isNext_77 : decode cX12_isNext 77 = .ok (.istore_n 3, 1) := by decide +kernel
theorem dX12_isNext_78 : decode cX12_isNext 78 = .ok (.iinc 4 1, 3) := by decide +kernel
theorem dX12_isNext_81 : decode cX12_isNext 81 = .ok (.goto (-25), 3) := by decide +kernel
theorem dX12_isNext_84 : decode cX12_isNext 84 = .ok (.aload_n 0, 1) := by decide +kernel
theorem dX12_isNext_85 : decode cX12_isNext 85 = .ok (.getfield 83, 3) := by decide +kernel
theorem dX12_isNext_88 : decode cX12_isNext 88 = .ok (.iload_n 1, 1) := by decide +kernel
theorem dX12_isNext_89 : decode cX12_isNext 89 = .ok (.iload_n 2, 1) := by decide +kernel
theorem dX12_isNext_90 : decode cX12_isNext 90 = .ok (.iadd, 1) := by decide +kernel
theorem dX12_isNext_91 : decode cX12_isNext 91 = .ok (.iconst 2, 1) := by decide +kernel
theorem dX12_isNext_92 : decode cX12_isNext 92 = .ok (.iadd, 1) := by decide +kernel
theorem dX12_isNext_93 : decode cX12_isNext 93 = .ok (.iaload, 1) := by decide +kernel
theorem dX12_isNext_94 : decode cX12_isNext 94 = .ok (.iload_n 3, 1) := by decide +kernel
theorem dX12_isNext_95 : decode cX12_isNext 95 = .ok (.bipush 8, 2) := by decide +kernel
theorem dX12_isNext_97 : decode cX12_isNext 97 = .ok (.ishr, 1) := by decide +kernel
theorem dX12_isNext_98 : decode cX12_isNext 98 = .ok (.if_icmp .ne 21, 3) := by decide +kernel
theorem dX12_isNext_101 : decode cX12_isNext 101 = .ok (.aload_n 0, 1) := by decide +kernel
theorem dX12_isNext_102 : decode cX12_isNext 102 = .ok (.getfield 83, 3) := by decide +kernel
theorem dX12_isNext_105 : decode cX12_isNext 105 = .ok (.iload_n 1, 1) := by decide +kernel
theorem dX12_isNext_106 : decode cX12_isNext 106 = .ok (.iload_n 2, 1) := by decide +kernel
theorem dX12_isNext_107 : decode cX12_isNext 107 = .ok (.iadd, 1) := by decide +kernel
theorem dX12_isNext_108 : decode cX12_isNext 108 = .ok (.iconst 3, 1) := by decide +kernel
theorem dX12_isNext_109 : decode cX12_isNext 109 = .ok (.iadd, 1) := by decide +kernel
theorem dX12_isNext_110 : decode cX12_isNext 110 = .ok (.iaload, 1) := by decide +kernel
theorem dX12_isNext_111 : decode cX12_isNext 111 = .ok (.iload_n 3, 1) := by decide +kernel
theorem dX12_isNext_112 : decode cX12_isNext 112 = .ok (.sipush 255, 3) := by decide +kernel
theorem dX12_isNext_115 : decode cX12_isNext 115 = .ok (.iand, 1) := by decide +kernel
theorem dX12_isNext_116 : decode cX12_isNext 116 = .ok (.if_icmp .eq 5, 3) := by decide +kernel
theorem dX12_isNext_119 : decode cX12_isNext 119 = .ok (.iconst 0, 1) := by decide +kernel
theorem dX12_isNext_120 : decode cX12_isNext 120 = .ok (.ireturn, 1) := by decide +kernel
theorem dX12_isNext_121 : decode cX12_isNext 121 = .ok (.aload_n 0, 1) := by decide +kernel
theorem dX12_isNext_122 : decode cX12_isNext 122 = .ok (.iload_n 1, 1) := by decide +kernel
theorem dX12_isNext_123 : decode cX12_isNext 123 = .ok (.iconst 2, 1) := by decide +kernel
theorem dX12_isNext_124 : decode cX12_isNext 124 = .ok (.iadd, 1) := by decide +kernel
theorem dX12_isNext_125 : decode cX12_isNext 125 = .ok (.iload_n 2, 1) := by decide +kernel
theorem dX12_isNext_126 : decode cX12_isNext 126 = .ok (.iadd, 1) := by decide +kernel
theorem dX12_isNext_127 : decode cX12_isNext 127 = .ok (.putfield 262, 3) := by decide +kernel
theorem dX12_isNext_130 : decode cX12_isNext 130 = .ok (.aload_n 0, 1) := by decide +kernel
theorem dX12_isNext_131 : decode cX12_isNext 131 = .ok (.iload_n 1, 1) := by decide +kernel
theorem dX12_isNext_132 : decode cX12_isNext 132 = .ok (.iconst 2, 1) := by decide +kernel
theorem dX12_isNext_133 : decode cX12_isNext 133 = .ok (.iadd, 1) := by decide +kernel
theorem dX12_isNext_134 : decode cX12_isNext 134 = .ok (.putfield 259, 3) := by decide +kernel
theorem dX12_isNext_137 : decode cX12_isNext 137 = .ok (.aload_n 0, 1) := by decide +kernel
theorem dX12_isNext_138 : decode cX12_isNext 138 = .ok (.iconst 0, 1) := by decide +kernel
theorem dX12_isNext_139 : decode cX12_isNext 139 = .ok (.putfield 256, 3) := by decide +kernel
theorem dX12_isNext_142 : decode cX12_isNext 142 = .ok (.aload_n 0, 1) := by decide +kernel
theorem dX12_isNext_143 : decode cX12_isNext 143 = .ok (.aload_n 0, 1) := by decide +kernel
theorem dX12_isNext_144 : decode cX12_isNext 144 = .ok (.getfield 83, 3) := by decide +kernel
theorem dX12_isNext_147 : decode cX12_isNext 147 = .ok (.iload_n 1, 1) := by decide +kernel
theorem dX12_isNext_148 : decode cX12_isNext 148 = .ok (.iconst 1, 1) := by decide +kernel
theorem dX12_isNext_149 : decode cX12_isNext 149 = .ok (.iadd, 1) := by decide +kernel
theorem dX12_isNext_150 : decode cX12_isNext 150 = .ok (.iaload, 1) := by decide +kernel
theorem dX12_isNext_151 : decode cX12_isNext 151 = .ok (.invokevirtual 310, 3) := by decide +kernel
theorem dX12_isNext_154 : decode cX12_isNext 154 = .ok (.istore 4, 2) := by decide +kernel
theorem dX12_isNext_156 : decode cX12_isNext 156 = .ok (.aload_n 0, 1) := by decide +kernel
theorem dX12_isNext_157 : decode cX12_isNext 157 = .ok (.iload 4, 2) := by decide +kernel
theorem dX12_isNext_159 : decode cX12_isNext 159 = .ok (.ifCond .eq 12, 3) := by decide +kernel
theorem dX12_isNext_162 : decode cX12_isNext 162 = .ok (.aload_n 0, 1) := by decide +kernel
theorem dX12_isNext_163 : decode cX12_isNext 163 = .ok (.getfield 262, 3) := by decide +kernel
theorem dX12_isNext_166 : decode cX12_isNext 166 = .ok (.iconst 2, 1) := by decide +kernel
theorem dX12_isNext_167 : decode cX12_isNext 167 = .ok (.iadd, 1) := by decide +kernel
theorem dX12_isNext_168 : decode cX12_isNext 168 = .ok (.goto 4, 3) := by decide +kernel
theorem dX12_isNext_171 : decode cX12_isNext 171 = .ok (.iload_n 1, 1) := by decide +kernel
theorem dX12_isNext_172 : decode cX12_isNext 172 = .ok (.putfield 259, 3) := by decide +kernel
theorem dX12_isNext_175 : decode cX12_isNext 175 = .ok (.iload 4, 2) := by decide +kernel
theorem dX12_isNext_177 : decode cX12_isNext 177 = .ok (.ireturn, 1) := by decide +kernel
theorem dX12_recover_0 : decode cX12_recover 0 = .ok (.aload_n 0, 1) := by decide +kernel
theorem dX12_recover_1 : decode cX12_recover 1 = .ok (.getfield 7, 3) := by decide +kernel
theorem dX12_recover_4 : decode cX12_recover 4 = .ok (.ifCond .eq 6, 3) := by decide +kernel
theorem dX12_recover_7 : decode cX12_recover 7 = .ok (.bipush (-6), 2) := by decide +kernel
theorem dX12_recover_9 : decode cX12_recover 9 = .ok (.ireturn, 1) := by decide +kernel
theorem dX12_recover_10 : decode cX12_recover 10 = .ok (.aload_n 0, 1) := by decide +kernel
theorem dX12_recover_11 : decode cX12_recover 11 = .ok (.iconst 0, 1) := by decide +kernel
theorem dX12_recover_12 : decode cX12_recover 12 = .ok (.putfield 113, 3) := by decide +kernel
theorem dX12_recover_15 : decode cX12_recover 15 = .ok (.aload_n 0, 1) := by decide +kernel
theorem dX12_recover_16 : decode cX12_recover 16 = .ok (.iconst (-1), 1) := by decide +kernel
theorem dX12_recover_17 : decode cX12_recover 17 = .ok (.putfield 37, 3) := by decide +kernel
theorem dX12_recover_20 : decode cX12_recover 20 = .ok (.aload_n 0, 1) := by decide +kernel
theorem dX12_recover_21 : decode cX12_recover 21 = .ok (.iconst 0, 1) := by decide +kernel
theorem dX12_recover_22 : decode cX12_recover 22 = .ok (.putfield 173, 3) := by decide +kernel
theorem dX12_recover_25 : decode cX12_recover 25 = .ok (.aload_n 0, 1) := by decide +kernel
theorem dX12_recover_26 : decode cX12_recover 26 = .ok (.iconst 0, 1) := by decide +kernel
theorem dX12_recover_27 : decode cX12_recover 27 = .ok (.putfield 197, 3) := by decide +kernel
theorem dX12_recover_30 : decode cX12_recover 30 = .ok (.aload_n 0, 1) := by decide +kernel
theorem dX12_recover_31 : decode cX12_recover 31 = .ok (.iconst 0, 1) := by decide +kernel
theorem dX12_recover_32 : decode cX12_recover 32 = .ok (.putfield 203, 3) := by decide +kernel
theorem dX12_recover_35 : decode cX12_recover 35 = .ok (.aload_n 0, 1) := by decide +kernel
theorem dX12_recover_36 : decode cX12_recover 36 = .ok (.iconst 0, 1) := by decide +kernel
theorem dX12_recover_37 : decode cX12_recover 37 = .ok (.putfield 137, 3) := by decide +kernel
theorem dX12_recover_40 : decode cX12_recover 40 = .ok (.aload_n 0, 1) := by decide +kernel
theorem dX12_recover_41 : decode cX12_recover 41 = .ok (.iconst 0, 1) := by decide +kernel
theorem dX12_recover_42 : decode cX12_recover 42 = .ok (.putfield 184, 3) := by decide +kernel
theorem dX12_recover_45 : decode cX12_recover 45 = .ok (.aload_n 0, 1) := by decide +kernel
theorem dX12_recover_46 : decode cX12_recover 46 = .ok (.iconst 1, 1) := by decide +kernel
theorem dX12_recover_47 : decode cX12_recover 47 = .ok (.putfield 7, 3) := by decide +kernel
theorem dX12_recover_50 : decode cX12_recover 50 = .ok (.aload_n 0, 1) := by decide +kernel
theorem dX12_recover_51 : decode cX12_recover 51 = .ok (.iconst 1, 1) := by decide +kernel
theorem dX12_recover_52 : decode cX12_recover 52 = .ok (.putfield 129, 3) := by decide +kernel
theorem dX12_recover_55 : decode cX12_recover 55 = .ok (.aload_n 0, 1) := by decide +kernel
theorem dX12_recover_56 : decode cX12_recover 56 = .ok (.iconst 0, 1) := by decide +kernel
theorem dX12_recover_57 : decode cX12_recover 57 = .ok (.putfield 259, 3) := by decide +kernel
theorem dX12_recover_60 : decode cX12_recover 60 = .ok (.iconst 1, 1) := by decide +kernel
theorem dX12_recover_61 : decode cX12_recover 61 = .ok (.istore_n 1, 1) := by decide +kernel
theorem dX12_recover_62 : decode cX12_recover 62 = .ok (.iload_n 1, 1) := by decide +kernel
theorem dX12_recover_63 : decode cX12_recover 63 = .ok (.ifCond .eq 11, 3) := by decide +kernel
theorem dX12_recover_66 : decode cX12_recover 66 = .ok (.aload_n 0, 1) := by decide +kernel
theorem dX12_recover_67 : decode cX12_recover 67 = .ok (.invokevirtual 313, 3) := by decide +kernel
theorem dX12_recover_70 : decode cX12_recover 70 = .ok (.istore_n 1, 1) := by decide +kernel
theorem dX12_recover_71 : decode cX12_recover 71 = .ok (.goto (-9), 3) := by decide +kernel
theorem dX12_recover_74 : decode cX12_recover 74 = .ok (.aload_n 0, 1) := by decide +kernel
theorem dX12_recover_75 : decode cX12_recover 75 = .ok (.iconst 0, 1) := by decide +kernel
theorem dX12_recover_76 : decode cX12_recover 76 = .ok (.putfield 129, 3) := by decide +kernel
theorem dX12_recover_79 : decode cX12_recover 79 = .ok (.aload_n 0, 1) := by decide +kernel
theorem dX12_recover_80 : decode cX12_recover 80 = .ok (.aload_n 0, 1) := by decide +kernel
theorem dX12_recover_81 : decode cX12_recover 81 = .ok (.getfield 259, 3) := by decide +kernel
theorem dX12_recover_84 : decode cX12_recover 84 = .ok (.putfield 132, 3) := by decide +kernel
theorem dX12_recover_87 : decode cX12_recover 87 = .ok (.aload_n 0, 1) := by decide +kernel
theorem dX12_recover_88 : decode cX12_recover 88 = .ok (.aload_n 0, 1) := by decide +kernel
theorem dX12_recover_89 : decode cX12_recover 89 = .ok (.getfield 132, 3) := by decide +kernel
theorem dX12_recover_92 : decode cX12_recover 92 = .ok (.putfield 248, 3) := by decide +kernel
theorem dX12_recover_95 : decode cX12_recover 95 = .ok (.aload_n 0, 1) := by decide +kernel
theorem dX12_recover_96 : decode cX12_recover 96 = .ok (.getfield 137, 3) := by decide +kernel
theorem dX12_recover_99 : decode cX12_recover 99 = .ok (.ireturn, 1) := by decide +kernel
theorem dX12_byteAt_0 : decode cX12_byteAt 0 = .ok (.iload_n 1, 1) := by decide +kernel
theorem dX12_byteAt_1 : decode cX12_byteAt 1 = .ok (.i2l, 1) := by decide +kernel
theorem dX12_byteAt_2 : decode cX12_byteAt 2 = .ok (.lconst 0, 1) := by decide +kernel
theorem dX12_byteAt_3 : decode cX12_byteAt 3 = .ok (.aload_n 0, 1) := by decide +kernel
theorem dX12_byteAt_4 : decode cX12_byteAt 4 = .ok (.getfield 132, 3) := by decide +kernel
theorem dX12_byteAt_7 : decode cX12_byteAt 7 = .ok (.iconst 1, 1) := by decide +kernel
theorem dX12_byteAt_8 : decode cX12_byteAt 8 = .ok (.isub, 1) := by decide +kernel
theorem dX12_byteAt_9 : decode cX12_byteAt 9 = .ok (.i2l, 1) := by decide +kernel
theorem dX12_byteAt_10 : decode cX12_byteAt 10 = .ok (.invokestatic 116, 3) := by decide +kernel
theorem dX12_byteAt_13 : decode cX12_byteAt 13 = .ok (.ifCond .eq 12, 3) := by decide +kernel
theorem dX12_byteAt_16 : decode cX12_byteAt 16 = .ok (.aload_n 0, 1) := by decide +kernel
theorem dX12_byteAt_17 : decode cX12_byteAt 17 = .ok (.getfield 83, 3) := by decide +kernel
theorem dX12_byteAt_20 : decode cX12_byteAt 20 = .ok (.iload_n 1, 1) := by decide +kernel
theorem dX12_byteAt_21 : decode cX12_byteAt 21 = .ok (.iaload, 1) := by decide +kernel
theorem dX12_byteAt_22 : decode cX12_byteAt 22 = .ok (.goto 5, 3) := by decide +kernel
theorem dX12_byteAt_25 : decode cX12_byteAt 25 = .ok (.bipush (-2), 2) := by decide +kernel
theorem dX12_byteAt_27 : decode cX12_byteAt 27 = .ok (.ireturn, 1) := by decide +kernel
theorem dX12_of_0 : decode cX12_of 0 = .ok (.aload_n 0, 1) := by decide +kernel
theorem dX12_of_1 : decode cX12_of 1 = .ok (.getfield 7, 3) := by decide +kernel
theorem dX12_of_4 : decode cX12_of 4 = .ok (.ifCond .ne 6, 3) := by decide +kernel
theorem dX12_of_7 : decode cX12_of 7 = .ok (.bipush (-6), 2) := by decide +kernel
theorem dX12_of_9 : decode cX12_of 9 = .ok (.ireturn, 1) := by decide +kernel
theorem dX12_of_10 : decode cX12_of 10 = .ok (.aload_n 0, 1) := by decide +kernel
theorem dX12_of_11 : decode cX12_of 11 = .ok (.iload_n 1, 1) := by decide +kernel
theorem dX12_of_12 : decode cX12_of 12 = .ok (.invokevirtual 148, 3) := by decide +kernel
theorem dX12_of_15 : decode cX12_of 15 = .ok (.ifCond .ne 6, 3) := by decide +kernel
theorem dX12_of_18 : decode cX12_of 18 = .ok (.bipush (-2), 2) := by decide +kernel
theorem dX12_of_20 : decode cX12_of 20 = .ok (.ireturn, 1) := by decide +kernel
theorem dX12_of_21 : decode cX12_of 21 = .ok (.iload_n 2, 1) := by decide +kernel
theorem dX12_of_22 : decode cX12_of 22 = .ok (.tableswitch 146 0 6 #[42, 49, 56, 63, 78, 93, 100], 42) := by decide +kernel
theorem dX12_of_64 : decode cX12_of 64 = .ok (.aload_n 0, 1) := by decide +kernel
theorem dX12_of_65 : decode cX12_of 65 = .ok (.getfield 13, 3) := by decide +kernel
theorem dX12_of_68 : decode cX12_of 68 = .ok (.iload_n 1, 1) := by decide +kernel
theorem dX12_of_69 : decode cX12_of 69 = .ok (.iaload, 1) := by decide +kernel
theorem dX12_of_70 : decode cX12_of 70 = .ok (.ireturn, 1) := by decide +kernel
theorem dX12_of_71 : decode cX12_of 71 = .ok (.aload_n 0, 1) := by decide +kernel
theorem dX12_of_72 : decode cX12_of 72 = .ok (.getfield 17, 3) := by decide +kernel
theorem dX12_of_75 : decode cX12_of 75 = .ok (.iload_n 1, 1) := by decide +kernel
theorem dX12_of_76 : decode cX12_of 76 = .ok (.iaload, 1) := by decide +kernel
theorem dX12_of_77 : decode cX12_of 77 = .ok (.ireturn, 1) := by decide +kernel
theorem dX12_of_78 : decode cX12_of 78 = .ok (.aload_n 0, 1) := by decide +kernel
theorem dX12_of_79 : decode cX12_of 79 = .ok (.getfield 20, 3) := by decide +kernel
theorem dX12_of_82 : decode cX12_of 82 = .ok (.iload_n 1, 1) := by decide +kernel
theorem dX12_of_83 : decode cX12_of 83 = .ok (.iaload, 1) := by decide +kernel
theorem dX12_of_84 : decode cX12_of 84 = .ok (.ireturn, 1) := by decide +kernel
theorem dX12_of_85 : decode cX12_of 85 = .ok (.aload_n 0, 1) := by decide +kernel
theorem dX12_of_86 : decode cX12_of 86 = .ok (.getfield 23, 3) := by decide +kernel
theorem dX12_of_89 : decode cX12_of 89 = .ok (.iload_n 1, 1) := by decide +kernel
theorem dX12_of_90 : decode cX12_of 90 = .ok (.baload, 1) := by decide +kernel
theorem dX12_of_91 : decode cX12_of 91 = .ok (.ifCond .eq 7, 3) := by decide +kernel
theorem dX12_of_94 : decode cX12_of 94 = .ok (.iconst 1, 1) := by decide +kernel
theorem dX12_of_95 : decode cX12_of 95 = .ok (.goto 4, 3) := by decide +kernel
theorem dX12_of_98 : decode cX12_of 98 = .ok (.iconst 0, 1) := by decide +kernel
theorem dX12_of_99 : decode cX12_of 99 = .ok (.ireturn, 1) := by decide +kernel
theorem dX12_of_100 : decode cX12_of 100 = .ok (.aload_n 0, 1) := by decide +kernel
theorem dX12_of_101 : decode cX12_of 101 = .ok (.getfield 30, 3) := by decide +kernel
theorem dX12_of_104 : decode cX12_of 104 = .ok (.iload_n 1, 1) := by decide +kernel
theorem dX12_of_105 : decode cX12_of 105 = .ok (.baload, 1) := by decide +kernel
theorem dX12_of_106 : decode cX12_of 106 = .ok (.ifCond .eq 7, 3) := by decide +kernel
theorem dX12_of_109 : decode cX12_of 109 = .ok (.iconst 1, 1) := by decide +kernel
theorem dX12_of_110 : decode cX12_of 110 = .ok (.goto 4, 3) := by decide +kernel
theorem dX12_of_113 : decode cX12_of 113 = .ok (.iconst 0, 1) := by decide +kernel
theorem dX12_of_114 : decode cX12_of 114 = .ok (.ireturn, 1) := by decide +kernel
theorem dX12_of_115 : decode cX12_of 115 = .ok (.aload_n 0, 1) := by decide +kernel
theorem dX12_of_116 : decode cX12_of 116 = .ok (.getfield 27, 3) := by decide +kernel
theorem dX12_of_119 : decode cX12_of 119 = .ok (.iload_n 1, 1) := by decide +kernel
theorem dX12_of_120 : decode cX12_of 120 = .ok (.iaload, 1) := by decide +kernel
theorem dX12_of_121 : decode cX12_of 121 = .ok (.ireturn, 1) := by decide +kernel
theorem dX12_of_122 : decode cX12_of 122 = .ok (.iconst 0, 1) := by decide +kernel
theorem dX12_of_123 : decode cX12_of 123 = .ok (.istore_n 3, 1) := by decide +kernel
theorem dX12_of_124 : decode cX12_of 124 = .ok (.iconst 0, 1) := by decide +kernel
theorem dX12_of_125 : decode cX12_of 125 = .ok (.istore 4, 2) := by decide +kernel
theorem dX12_of_127 : decode cX12_of 127 = .ok (.iload 4, 2) := by decide +kernel
theorem dX12_of_129 : decode cX12_of 129 = .ok (.aload_n 0, 1) := by decide +kernel
theorem dX12_of_130 : decode cX12_of 130 = .ok (.getfield 56, 3) := by decide +kernel
theorem dX12_of_133 : decode cX12_of 133 = .ok (.aload_n 0, 1) := by decide +kernel
theorem dX12_of_134 : decode cX12_of 134 = .ok (.getfield 203, 3) := by decide +kernel
theorem dX12_of_137 : decode cX12_of 137 = .ok (.iaload, 1) := by decide +kernel
theorem dX12_of_138 : decode cX12_of 138 = .ok (.if_icmp .ge 28, 3) := by decide +kernel
theorem dX12_of_141 : decode cX12_of 141 = .ok (.iload_n 3, 1) := by decide +kernel
theorem dX12_of_142 : decode cX12_of 142 = .ok (.aload_n 0, 1) := by decide +kernel
theorem dX12_of_143 : decode cX12_of 143 = .ok (.getfield 65, 3) := by decide +kernel
theorem dX12_of_146 : decode cX12_of 146 = .ok (.iload 4, 2) := by decide +kernel
theorem dX12_of_148 : decode cX12_of 148 = .ok (.iaload, 1) := by decide +kernel
theorem dX12_of_149 : decode cX12_of 149 = .ok (.iload_n 1, 1) := by decide +kernel
theorem dX12_of_150 : decode cX12_of 150 = .ok (.if_icmp .ne 7, 3) := by decide +kernel
theorem dX12_of_153 : decode cX12_of 153 = .ok (.iconst 1, 1) := by decide +kernel
theorem dX12_of_154 : decode cX12_of 154 = .ok (.goto 4, 3) := by decide +kernel
theorem dX12_of_157 : decode cX12_of 157 = .ok (.iconst 0, 1) := by decide +kernel
theorem dX12_of_158 : decode cX12_of 158 = .ok (.iadd, 1) := by decide +kernel
theorem dX12_of_159 : decode cX12_of 159 = .ok (.istore_n 3, 1) := by decide +kernel
theorem dX12_of_160 : decode cX12_of 160 = .ok (.iinc 4 1, 3) := by decide +kernel
theorem dX12_of_163 : decode cX12_of 163 = .ok (.goto (-36), 3) := by decide +kernel
theorem dX12_of_166 : decode cX12_of 166 = .ok (.iload_n 3, 1) := by decide +kernel
theorem dX12_of_167 : decode cX12_of 167 = .ok (.ireturn, 1) := by decide +kernel
theorem dX12_of_168 : decode cX12_of 168 = .ok (.bipush (-3), 2) := by decide +kernel
theorem dX12_of_170 : decode cX12_of 170 = .ok (.ireturn, 1) := by decide +kernel
theorem dX12_isUnder_0 : decode cX12_isUnder 0 = .ok (.iload_n 1, 1) := by decide +kernel
theorem dX12_isUnder_1 : decode cX12_isUnder 1 = .ok (.istore_n 3, 1) := by decide +kernel
theorem dX12_isUnder_2 : decode cX12_isUnder 2 = .ok (.iload_n 3, 1) := by decide +kernel
theorem dX12_isUnder_3 : decode cX12_isUnder 3 = .ok (.iconst (-1), 1) := by decide +kernel
theorem dX12_isUnder_4 : decode cX12_isUnder 4 = .ok (.if_icmp .eq 18, 3) := by decide +kernel
theorem dX12_isUnder_7 : decode cX12_isUnder 7 = .ok (.iload_n 3, 1) := by decide +kernel
theorem dX12_isUnder_8 : decode cX12_isUnder 8 = .ok (.iload_n 2, 1) := by decide +kernel
theorem dX12_isUnder_9 : decode cX12_isUnder 9 = .ok (.if_icmp .eq 13, 3) := by decide +kernel
theorem dX12_isUnder_12 : decode cX12_isUnder 12 = .ok (.aload_n 0, 1) := by decide +kernel
theorem dX12_isUnder_13 : decode cX12_isUnder 13 = .ok (.getfield 20, 3) := by decide +kernel
theorem dX12_isUnder_16 : decode cX12_isUnder 16 = .ok (.iload_n 3, 1) := by decide +kernel
theorem dX12_isUnder_17 : decode cX12_isUnder 17 = .ok (.iaload, 1) := by decide +kernel
theorem dX12_isUnder_18 : decode cX12_isUnder 18 = .ok (.istore_n 3, 1) := by decide +kernel
theorem dX12_isUnder_19 : decode cX12_isUnder 19 = .ok (.goto (-17), 3) := by decide +kernel
theorem dX12_isUnder_22 : decode cX12_isUnder 22 = .ok (.iload_n 3, 1) := by decide +kernel
theorem dX12_isUnder_23 : decode cX12_isUnder 23 = .ok (.iload_n 2, 1) := by decide +kernel
theorem dX12_isUnder_24 : decode cX12_isUnder 24 = .ok (.if_icmp .ne 7, 3) := by decide +kernel
theorem dX12_isUnder_27 : decode cX12_isUnder 27 = .ok (.iconst 1, 1) := by decide +kernel
theorem dX12_isUnder_28 : decode cX12_isUnder 28 = .ok (.goto 4, 3) := by decide +kernel
theorem dX12_isUnder_31 : decode cX12_isUnder 31 = .ok (.iconst 0, 1) := by decide +kernel
theorem dX12_isUnder_32 : decode cX12_isUnder 32 = .ok (.ireturn, 1) := by decide +kernel
theorem dX12_balanceOf_0 : decode cX12_balanceOf 0 = .ok (.lconst 0, 1) := by decide +kernel
theorem dX12_balanceOf_1 : decode cX12_balanceOf 1 = .ok (.lstore_n 2, 1) := by decide +kernel
theorem dX12_balanceOf_2 : decode cX12_balanceOf 2 = .ok (.iconst 0, 1) := by decide +kernel
theorem dX12_balanceOf_3 : decode cX12_balanceOf 3 = .ok (.istore 4, 2) := by decide +kernel
theorem dX12_balanceOf_5 : decode cX12_balanceOf 5 = .ok (.iload 4, 2) := by decide +kernel
theorem dX12_balanceOf_7 : decode cX12_balanceOf 7 = .ok (.aload_n 0, 1) := by decide +kernel
theorem dX12_balanceOf_8 : decode cX12_balanceOf 8 = .ok (.getfield 113, 3) := by decide +kernel
theorem dX12_balanceOf_11 : decode cX12_balanceOf 11 = .ok (.if_icmp .ge 43, 3) := by decide +kernel
theorem dX12_balanceOf_14 : decode cX12_balanceOf 14 = .ok (.lload_n 2, 1) := by decide +kernel
theorem dX12_balanceOf_15 : decode cX12_balanceOf 15 = .ok (.aload_n 0, 1) := by decide +kernel
theorem dX12_balanceOf_16 : decode cX12_balanceOf 16 = .ok (.getfield 23, 3) := by decide +kernel
theorem dX12_balanceOf_19 : decode cX12_balanceOf 19 = .ok (.iload 4, 2) := by decide +kernel
theorem dX12_balanceOf_21 : decode cX12_balanceOf 21 = .ok (.baload, 1) := by decide +kernel
theorem dX12_balanceOf_22 : decode cX12_balanceOf 22 = .ok (.ifCond .ne 23, 3) := by decide +kernel
theorem dX12_balanceOf_25 : decode cX12_balanceOf 25 = .ok (.aload_n 0, 1) := by decide +kernel
theorem dX12_balanceOf_26 : decode cX12_balanceOf 26 = .ok (.iload 4, 2) := by decide +kernel
theorem dX12_balanceOf_28 : decode cX12_balanceOf 28 = .ok (.iload_n 1, 1) := by decide +kernel
theorem dX12_balanceOf_29 : decode cX12_balanceOf 29 = .ok (.invokevirtual 316, 3) := by decide +kernel
theorem dX12_balanceOf_32 : decode cX12_balanceOf 32 = .ok (.ifCond .eq 13, 3) := by decide +kernel
theorem dX12_balanceOf_35 : decode cX12_balanceOf 35 = .ok (.aload_n 0, 1) := by decide +kernel
theorem dX12_balanceOf_36 : decode cX12_balanceOf 36 = .ok (.getfield 33, 3) := by decide +kernel
theorem dX12_balanceOf_39 : decode cX12_balanceOf 39 = .ok (.iload 4, 2) := by decide +kernel
theorem dX12_balanceOf_41 : decode cX12_balanceOf 41 = .ok (.laload, 1) := by decide +kernel
theorem dX12_balanceOf_42 : decode cX12_balanceOf 42 = .ok (.goto 4, 3) := by decide +kernel
theorem dX12_balanceOf_45 : decode cX12_balanceOf 45 = .ok (.lconst 0, 1) := by decide +kernel
theorem dX12_balanceOf_46 : decode cX12_balanceOf 46 = .ok (.ladd, 1) := by decide +kernel
theorem dX12_balanceOf_47 : decode cX12_balanceOf 47 = .ok (.lstore_n 2, 1) := by decide +kernel
theorem dX12_balanceOf_48 : decode cX12_balanceOf 48 = .ok (.iinc 4 1, 3) := by decide +kernel
theorem dX12_balanceOf_51 : decode cX12_balanceOf 51 = .ok (.goto (-46), 3) := by decide +kernel
theorem dX12_balanceOf_54 : decode cX12_balanceOf 54 = .ok (.lload_n 2, 1) := by decide +kernel
theorem dX12_balanceOf_55 : decode cX12_balanceOf 55 = .ok (.lreturn, 1) := by decide +kernel
theorem dX12_balance_0 : decode cX12_balance 0 = .ok (.aload_n 0, 1) := by decide +kernel
theorem dX12_balance_1 : decode cX12_balance 1 = .ok (.getfield 7, 3) := by decide +kernel
theorem dX12_balance_4 : decode cX12_balance 4 = .ok (.ifCond .eq 11, 3) := by decide +kernel
theorem dX12_balance_7 : decode cX12_balance 7 = .ok (.aload_n 0, 1) := by decide +kernel
theorem dX12_balance_8 : decode cX12_balance 8 = .ok (.iload_n 1, 1) := by decide +kernel
theorem dX12_balance_9 : decode cX12_balance 9 = .ok (.invokevirtual 148, 3) := by decide +kernel
theorem dX12_balance_12 : decode cX12_balance 12 = .ok (.ifCond .ne 9, 3) := by decide +kernel
theorem dX12_balance_15 : decode cX12_balance 15 = .ok (.ldc2_w 246, 3) := by decide +kernel
theorem dX12_balance_18 : decode cX12_balance 18 = .ok (.goto 8, 3) := by decide +kernel
theorem dX12_balance_21 : decode cX12_balance 21 = .ok (.aload_n 0, 1) := by decide +kernel
theorem dX12_balance_22 : decode cX12_balance 22 = .ok (.iload_n 1, 1) := by decide +kernel
theorem dX12_balance_23 : decode cX12_balance 23 = .ok (.invokevirtual 320, 3) := by decide +kernel
theorem dX12_balance_26 : decode cX12_balance 26 = .ok (.lreturn, 1) := by decide +kernel
theorem dX12_sum_0 : decode cX12_sum 0 = .ok (.aload_n 0, 1) := by decide +kernel
theorem dX12_sum_1 : decode cX12_sum 1 = .ok (.getfield 7, 3) := by decide +kernel
theorem dX12_sum_4 : decode cX12_sum 4 = .ok (.ifCond .eq 11, 3) := by decide +kernel
theorem dX12_sum_7 : decode cX12_sum 7 = .ok (.aload_n 0, 1) := by decide +kernel
theorem dX12_sum_8 : decode cX12_sum 8 = .ok (.iload_n 1, 1) := by decide +kernel
theorem dX12_sum_9 : decode cX12_sum 9 = .ok (.invokevirtual 148, 3) := by decide +kernel
theorem dX12_sum_12 : decode cX12_sum 12 = .ok (.ifCond .ne 7, 3) := by decide +kernel
theorem dX12_sum_15 : decode cX12_sum 15 = .ok (.ldc2_w 246, 3) := by decide +kernel
theorem dX12_sum_18 : decode cX12_sum 18 = .ok (.lreturn, 1) := by decide +kernel
theorem dX12_sum_19 : decode cX12_sum 19 = .ok (.lconst 0, 1) := by decide +kernel
theorem dX12_sum_20 : decode cX12_sum 20 = .ok (.lstore 4, 2) := by decide +kernel
theorem dX12_sum_22 : decode cX12_sum 22 = .ok (.iconst 0, 1) := by decide +kernel
theorem dX12_sum_23 : decode cX12_sum 23 = .ok (.istore 6, 2) := by decide +kernel
theorem dX12_sum_25 : decode cX12_sum 25 = .ok (.iload 6, 2) := by decide +kernel
theorem dX12_sum_27 : decode cX12_sum 27 = .ok (.aload_n 0, 1) := by decide +kernel
theorem dX12_sum_28 : decode cX12_sum 28 = .ok (.getfield 113, 3) := by decide +kernel
theorem dX12_sum_31 : decode cX12_sum 31 = .ok (.if_icmp .ge 46, 3) := by decide +kernel
theorem dX12_sum_34 : decode cX12_sum 34 = .ok (.lload 4, 2) := by decide +kernel
theorem dX12_sum_36 : decode cX12_sum 36 = .ok (.aload_n 0, 1) := by decide +kernel
theorem dX12_sum_37 : decode cX12_sum 37 = .ok (.getfield 23, 3) := by decide +kernel
theorem dX12_sum_40 : decode cX12_sum 40 = .ok (.iload 6, 2) := by decide +kernel
theorem dX12_sum_42 : decode cX12_sum 42 = .ok (.baload, 1) := by decide +kernel
theorem dX12_sum_43 : decode cX12_sum 43 = .ok (.ifCond .ne 24, 3) := by decide +kernel
theorem dX12_sum_46 : decode cX12_sum 46 = .ok (.aload_n 0, 1) := by decide +kernel
theorem dX12_sum_47 : decode cX12_sum 47 = .ok (.iload 6, 2) := by decide +kernel
theorem dX12_sum_49 : decode cX12_sum 49 = .ok (.iload_n 1, 1) := by decide +kernel
theorem dX12_sum_50 : decode cX12_sum 50 = .ok (.invokevirtual 316, 3) := by decide +kernel
theorem dX12_sum_53 : decode cX12_sum 53 = .ok (.ifCond .eq 14, 3) := by decide +kernel
theorem dX12_sum_56 : decode cX12_sum 56 = .ok (.aload_n 0, 1) := by decide +kernel
theorem dX12_sum_57 : decode cX12_sum 57 = .ok (.iload 6, 2) := by decide +kernel
theorem dX12_sum_59 : decode cX12_sum 59 = .ok (.iload_n 2, 1) := by decide +kernel
theorem dX12_sum_60 : decode cX12_sum 60 = .ok (.iload_n 3, 1) := by decide +kernel
theorem dX12_sum_61 : decode cX12_sum 61 = .ok (.invokevirtual 230, 3) := by decide +kernel
theorem dX12_sum_64 : decode cX12_sum 64 = .ok (.goto 4, 3) := by decide +kernel
theorem dX12_sum_67 : decode cX12_sum 67 = .ok (.lconst 0, 1) := by decide +kernel
theorem dX12_sum_68 : decode cX12_sum 68 = .ok (.ladd, 1) := by decide +kernel
theorem dX12_sum_69 : decode cX12_sum 69 = .ok (.lstore 4, 2) := by decide +kernel
theorem dX12_sum_71 : decode cX12_sum 71 = .ok (.iinc 6 1, 3) := by decide +kernel
theorem dX12_sum_74 : decode cX12_sum 74 = .ok (.goto (-49), 3) := by decide +kernel
theorem dX12_sum_77 : decode cX12_sum 77 = .ok (.lload 4, 2) := by decide +kernel
theorem dX12_sum_79 : decode cX12_sum 79 = .ok (.lreturn, 1) := by decide +kernel
theorem dX12_entry_0 : decode cX12_entry 0 = .ok (.aload_n 0, 1) := by decide +kernel
theorem dX12_entry_1 : decode cX12_entry 1 = .ok (.getfield 7, 3) := by decide +kernel
theorem dX12_entry_4 : decode cX12_entry 4 = .ok (.ifCond .ne 6, 3) := by decide +kernel
theorem dX12_entry_7 : decode cX12_entry 7 = .ok (.bipush (-6), 2) := by decide +kernel
theorem dX12_entry_9 : decode cX12_entry 9 = .ok (.ireturn, 1) := by decide +kernel
theorem dX12_entry_10 : decode cX12_entry 10 = .ok (.iload_n 1, 1) := by decide +kernel
theorem dX12_entry_11 : decode cX12_entry 11 = .ok (.i2l, 1) := by decide +kernel
theorem dX12_entry_12 : decode cX12_entry 12 = .ok (.lconst 0, 1) := by decide +kernel
theorem dX12_entry_13 : decode cX12_entry 13 = .ok (.aload_n 0, 1) := by decide +kernel
theorem dX12_entry_14 : decode cX12_entry 14 = .ok (.getfield 203, 3) := by decide +kernel
theorem dX12_entry_17 : decode cX12_entry 17 = .ok (.iconst 1, 1) := by decide +kernel
theorem dX12_entry_18 : decode cX12_entry 18 = .ok (.isub, 1) := by decide +kernel
theorem dX12_entry_19 : decode cX12_entry 19 = .ok (.i2l, 1) := by decide +kernel
theorem dX12_entry_20 : decode cX12_entry 20 = .ok (.invokestatic 116, 3) := by decide +kernel
theorem dX12_entry_23 : decode cX12_entry 23 = .ok (.ifCond .ne 6, 3) := by decide +kernel
theorem dX12_entry_26 : decode cX12_entry 26 = .ok (.bipush (-2), 2) := by decide +kernel
theorem dX12_entry_28 : decode cX12_entry 28 = .ok (.ireturn, 1) := by decide +kernel
theorem dX12_entry_29 : decode cX12_entry 29 = .ok (.iload_n 2, 1) := by decide +kernel
theorem dX12_entry_30 : decode cX12_entry 30 = .ok (.tableswitch 89 0 5 #[38, 45, 52, 59, 75, 82], 38) := by decide +kernel
theorem dX12_entry_68 : decode cX12_entry 68 = .ok (.aload_n 0, 1) := by decide +kernel
theorem dX12_entry_69 : decode cX12_entry 69 = .ok (.getfield 47, 3) := by decide +kernel
theorem dX12_entry_72 : decode cX12_entry 72 = .ok (.iload_n 1, 1) := by decide +kernel
theorem dX12_entry_73 : decode cX12_entry 73 = .ok (.iaload, 1) := by decide +kernel
theorem dX12_entry_74 : decode cX12_entry 74 = .ok (.ireturn, 1) := by decide +kernel
theorem dX12_entry_75 : decode cX12_entry 75 = .ok (.aload_n 0, 1) := by decide +kernel
theorem dX12_entry_76 : decode cX12_entry 76 = .ok (.getfield 50, 3) := by decide +kernel
theorem dX12_entry_79 : decode cX12_entry 79 = .ok (.iload_n 1, 1) := by decide +kernel
theorem dX12_entry_80 : decode cX12_entry 80 = .ok (.iaload, 1) := by decide +kernel
theorem dX12_entry_81 : decode cX12_entry 81 = .ok (.ireturn, 1) := by decide +kernel
theorem dX12_entry_82 : decode cX12_entry 82 = .ok (.aload_n 0, 1) := by decide +kernel
theorem dX12_entry_83 : decode cX12_entry 83 = .ok (.getfield 53, 3) := by decide +kernel
theorem dX12_entry_86 : decode cX12_entry 86 = .ok (.iload_n 1, 1) := by decide +kernel
theorem dX12_entry_87 : decode cX12_entry 87 = .ok (.iaload, 1) := by decide +kernel
theorem dX12_entry_88 : decode cX12_entry 88 = .ok (.ireturn, 1) := by decide +kernel
theorem dX12_entry_89 : decode cX12_entry 89 = .ok (.aload_n 0, 1) := by decide +kernel
theorem dX12_entry_90 : decode cX12_entry 90 = .ok (.getfield 56, 3) := by decide +kernel
theorem dX12_entry_93 : decode cX12_entry 93 = .ok (.iload_n 1, 1) := by decide +kernel
theorem dX12_entry_94 : decode cX12_entry 94 = .ok (.iconst 1, 1) := by decide +kernel
theorem dX12_entry_95 : decode cX12_entry 95 = .ok (.iadd, 1) := by decide +kernel
theorem dX12_entry_96 : decode cX12_entry 96 = .ok (.iaload, 1) := by decide +kernel
theorem dX12_entry_97 : decode cX12_entry 97 = .ok (.aload_n 0, 1) := by decide +kernel
theorem dX12_entry_98 : decode cX12_entry 98 = .ok (.getfield 56, 3) := by decide +kernel
theorem dX12_entry_101 : decode cX12_entry 101 = .ok (.iload_n 1, 1) := by decide +kernel
theorem dX12_entry_102 : decode cX12_entry 102 = .ok (.iaload, 1) := by decide +kernel
theorem dX12_entry_103 : decode cX12_entry 103 = .ok (.isub, 1) := by decide +kernel
theorem dX12_entry_104 : decode cX12_entry 104 = .ok (.ireturn, 1) := by decide +kernel
theorem dX12_entry_105 : decode cX12_entry 105 = .ok (.aload_n 0, 1) := by decide +kernel
theorem dX12_entry_106 : decode cX12_entry 106 = .ok (.getfield 59, 3) := by decide +kernel
theorem dX12_entry_109 : decode cX12_entry 109 = .ok (.iload_n 1, 1) := by decide +kernel
theorem dX12_entry_110 : decode cX12_entry 110 = .ok (.iaload, 1) := by decide +kernel
theorem dX12_entry_111 : decode cX12_entry 111 = .ok (.ireturn, 1) := by decide +kernel
theorem dX12_entry_112 : decode cX12_entry 112 = .ok (.aload_n 0, 1) := by decide +kernel
theorem dX12_entry_113 : decode cX12_entry 113 = .ok (.getfield 62, 3) := by decide +kernel
theorem dX12_entry_116 : decode cX12_entry 116 = .ok (.iload_n 1, 1) := by decide +kernel
theorem dX12_entry_117 : decode cX12_entry 117 = .ok (.iaload, 1) := by decide +kernel
theorem dX12_entry_118 : decode cX12_entry 118 = .ok (.ireturn, 1) := by decide +kernel
theorem dX12_entry_119 : decode cX12_entry 119 = .ok (.bipush (-3), 2) := by decide +kernel
theorem dX12_entry_121 : decode cX12_entry 121 = .ok (.ireturn, 1) := by decide +kernel
theorem dX12_lineOf_0 : decode cX12_lineOf 0 = .ok (.aload_n 0, 1) := by decide +kernel
theorem dX12_lineOf_1 : decode cX12_lineOf 1 = .ok (.getfield 7, 3) := by decide +kernel
theorem dX12_lineOf_4 : decode cX12_lineOf 4 = .ok (.ifCond .eq 56, 3) := by decide +kernel
theorem dX12_lineOf_7 : decode cX12_lineOf 7 = .ok (.iload_n 1, 1) := by decide +kernel
theorem dX12_lineOf_8 : decode cX12_lineOf 8 = .ok (.i2l, 1) := by decide +kernel
theorem dX12_lineOf_9 : decode cX12_lineOf 9 = .ok (.lconst 0, 1) := by decide +kernel
theorem dX12_lineOf_10 : decode cX12_lineOf 10 = .ok (.aload_n 0, 1) := by decide +kernel
theorem dX12_lineOf_11 : decode cX12_lineOf 11 = .ok (.getfield 203, 3) := by decide +kernel
theorem dX12_lineOf_14 : decode cX12_lineOf 14 = .ok (.iconst 1, 1) := by decide +kernel
theorem dX12_lineOf_15 : decode cX12_lineOf 15 = .ok (.isub, 1) := by decide +kernel
theorem dX12_lineOf_16 : decode cX12_lineOf 16 = .ok (.i2l, 1) := by decide +kernel
theorem dX12_lineOf_17 : decode cX12_lineOf 17 = .ok (.invokestatic 116, 3) := by decide +kernel
theorem dX12_lineOf_20 : decode cX12_lineOf 20 = .ok (.ifCond .eq 40, 3) := by decide +kernel
theorem dX12_lineOf_23 : decode cX12_lineOf 23 = .ok (.iload_n 2, 1) := by decide +kernel
theorem dX12_lineOf_24 : decode cX12_lineOf 24 = .ok (.i2l, 1) := by decide +kernel
theorem dX12_lineOf_25 : decode cX12_lineOf 25 = .ok (.lconst 0, 1) := by decide +kernel
theorem dX12_lineOf_26 : decode cX12_lineOf 26 = .ok (.aload_n 0, 1) := by decide +kernel
theorem dX12_lineOf_27 : decode cX12_lineOf 27 = .ok (.getfield 56, 3) := by decide +kernel
theorem dX12_lineOf_30 : decode cX12_lineOf 30 = .ok (.iload_n 1, 1) := by decide +kernel
theorem dX12_lineOf_31 : decode cX12_lineOf 31 = .ok (.iconst 1, 1) := by decide +kernel
theorem dX12_lineOf_32 : decode cX12_lineOf 32 = .ok (.iadd, 1) := by decide +kernel
theorem dX12_lineOf_33 : decode cX12_lineOf 33 = .ok (.iaload, 1) := by decide +kernel
theorem dX12_lineOf_34 : decode cX12_lineOf 34 = .ok (.aload_n 0, 1) := by decide +kernel
theorem dX12_lineOf_35 : decode cX12_lineOf 35 = .ok (.getfield 56, 3) := by decide +kernel
theorem dX12_lineOf_38 : decode cX12_lineOf 38 = .ok (.iload_n 1, 1) := by decide +kernel
theorem dX12_lineOf_39 : decode cX12_lineOf 39 = .ok (.iaload, 1) := by decide +kernel
theorem dX12_lineOf_40 : decode cX12_lineOf 40 = .ok (.isub, 1) := by decide +kernel
theorem dX12_lineOf_41 : decode cX12_lineOf 41 = .ok (.iconst 1, 1) := by decide +kernel
theorem dX12_lineOf_42 : decode cX12_lineOf 42 = .ok (.isub, 1) := by decide +kernel
theorem dX12_lineOf_43 : decode cX12_lineOf 43 = .ok (.i2l, 1) := by decide +kernel
theorem dX12_lineOf_44 : decode cX12_lineOf 44 = .ok (.invokestatic 116, 3) := by decide +kernel
theorem dX12_lineOf_47 : decode cX12_lineOf 47 = .ok (.ifCond .eq 13, 3) := by decide +kernel
theorem dX12_lineOf_50 : decode cX12_lineOf 50 = .ok (.iload_n 3, 1) := by decide +kernel
theorem dX12_lineOf_51 : decode cX12_lineOf 51 = .ok (.i2l, 1) := by decide +kernel
theorem dX12_lineOf_52 : decode cX12_lineOf 52 = .ok (.lconst 0, 1) := by decide +kernel
theorem dX12_lineOf_53 : decode cX12_lineOf 53 = .ok (.lconst 1, 1) := by decide +kernel
theorem dX12_lineOf_54 : decode cX12_lineOf 54 = .ok (.invokestatic 116, 3) := by decide +kernel
theorem dX12_lineOf_57 : decode cX12_lineOf 57 = .ok (.ifCond .ne 7, 3) := by decide +kernel
theorem dX12_lineOf_60 : decode cX12_lineOf 60 = .ok (.ldc2_w 246, 3) := by decide +kernel
theorem dX12_lineOf_63 : decode cX12_lineOf 63 = .ok (.lreturn, 1) := by decide +kernel
theorem dX12_lineOf_64 : decode cX12_lineOf 64 = .ok (.iload_n 3, 1) := by decide +kernel
theorem dX12_lineOf_65 : decode cX12_lineOf 65 = .ok (.ifCond .ne 20, 3) := by decide +kernel
theorem dX12_lineOf_68 : decode cX12_lineOf 68 = .ok (.aload_n 0, 1) := by decide +kernel
theorem dX12_lineOf_69 : decode cX12_lineOf 69 = .ok (.getfield 65, 3) := by decide +kernel
theorem dX12_lineOf_72 : decode cX12_lineOf 72 = .ok (.aload_n 0, 1) := by decide +kernel
theorem dX12_lineOf_73 : decode cX12_lineOf 73 = .ok (.getfield 56, 3) := by decide +kernel
theorem dX12_lineOf_76 : decode cX12_lineOf 76 = .ok (.iload_n 1, 1) := by decide +kernel
theorem dX12_lineOf_77 : decode cX12_lineOf 77 = .ok (.iaload, 1) := by decide +kernel
theorem dX12_lineOf_78 : decode cX12_lineOf 78 = .ok (.iload_n 2, 1) := by decide +kernel
theorem dX12_lineOf_79 : decode cX12_lineOf 79 = .ok (.iadd, 1) := by decide +kernel
theorem dX12_lineOf_80 : decode cX12_lineOf 80 = .ok (.iaload, 1) := by decide +kernel
theorem dX12_lineOf_81 : decode cX12_lineOf 81 = .ok (.i2l, 1) := by decide +kernel
theorem dX12_lineOf_82 : decode cX12_lineOf 82 = .ok (.goto 16, 3) := by decide +kernel
theorem dX12_lineOf_85 : decode cX12_lineOf 85 = .ok (.aload_n 0, 1) := by decide +kernel
theorem dX12_lineOf_86 : decode cX12_lineOf 86 = .ok (.getfield 68, 3) := by decide +kernel
theorem dX12_lineOf_89 : decode cX12_lineOf 89 = .ok (.aload_n 0, 1) := by decide +kernel
theorem dX12_lineOf_90 : decode cX12_lineOf 90 = .ok (.getfield 56, 3) := by decide +kernel
theorem dX12_lineOf_93 : decode cX12_lineOf 93 = .ok (.iload_n 1, 1) := by decide +kernel
theorem dX12_lineOf_94 : decode cX12_lineOf 94 = .ok (.iaload, 1) := by decide +kernel
theorem dX12_lineOf_95 : decode cX12_lineOf 95 = .ok (.iload_n 2, 1) := by decide +kernel
theorem dX12_lineOf_96 : decode cX12_lineOf 96 = .ok (.iadd, 1) := by decide +kernel
theorem dX12_lineOf_97 : decode cX12_lineOf 97 = .ok (.laload, 1) := by decide +kernel
theorem dX12_lineOf_98 : decode cX12_lineOf 98 = .ok (.lreturn, 1) := by decide +kernel
theorem dX12_ledger_0 : decode cX12_ledger 0 = .ok (.aload_n 0, 1) := by decide +kernel
theorem dX12_ledger_1 : decode cX12_ledger 1 = .ok (.getfield 7, 3) := by decide +kernel
theorem dX12_ledger_4 : decode cX12_ledger 4 = .ok (.ifCond .eq 36, 3) := by decide +kernel
theorem dX12_ledger_7 : decode cX12_ledger 7 = .ok (.aload_n 0, 1) := by decide +kernel
theorem dX12_ledger_8 : decode cX12_ledger 8 = .ok (.iload_n 1, 1) := by decide +kernel
theorem dX12_ledger_9 : decode cX12_ledger 9 = .ok (.invokevirtual 148, 3) := by decide +kernel
theorem dX12_ledger_12 : decode cX12_ledger 12 = .ok (.ifCond .eq 28, 3) := by decide +kernel
theorem dX12_ledger_15 : decode cX12_ledger 15 = .ok (.aload_n 0, 1) := by decide +kernel
theorem dX12_ledger_16 : decode cX12_ledger 16 = .ok (.getfield 23, 3) := by decide +kernel
theorem dX12_ledger_19 : decode cX12_ledger 19 = .ok (.iload_n 1, 1) := by decide +kernel
theorem dX12_ledger_20 : decode cX12_ledger 20 = .ok (.baload, 1) := by decide +kernel
theorem dX12_ledger_21 : decode cX12_ledger 21 = .ok (.ifCond .ne 19, 3) := by decide +kernel
theorem dX12_ledger_24 : decode cX12_ledger 24 = .ok (.iload_n 3, 1) := by decide +kernel
theorem dX12_ledger_25 : decode cX12_ledger 25 = .ok (.i2l, 1) := by decide +kernel
theorem dX12_ledger_26 : decode cX12_ledger 26 = .ok (.lconst 0, 1) := by decide +kernel
theorem dX12_ledger_27 : decode cX12_ledger 27 = .ok (.ldc2_w 125, 3) := by decide +kernel
theorem dX12_ledger_30 : decode cX12_ledger 30 = .ok (.invokestatic 116, 3) := by decide +kernel
theorem dX12_ledger_33 : decode cX12_ledger 33 = .ok (.ifCond .eq 7, 3) := by decide +kernel
theorem dX12_ledger_36 : decode cX12_ledger 36 = .ok (.iload_n 2, 1) := by decide +kernel
theorem dX12_ledger_37 : decode cX12_ledger 37 = .ok (.ifCond .ge 7, 3) := by decide +kernel
theorem dX12_ledger_40 : decode cX12_ledger 40 = .ok (.ldc2_w 246, 3) := by decide +kernel
theorem dX12_ledger_43 : decode cX12_ledger 43 = .ok (.lreturn, 1) := by decide +kernel
theorem dX12_ledger_44 : decode cX12_ledger 44 = .ok (.iconst 0, 1) := by decide +kernel
theorem dX12_ledger_45 : decode cX12_ledger 45 = .ok (.istore 4, 2) := by decide +kernel
theorem dX12_ledger_47 : decode cX12_ledger 47 = .ok (.lconst 0, 1) := by decide +kernel
theorem dX12_ledger_48 : decode cX12_ledger 48 = .ok (.lstore 5, 2) := by decide +kernel
theorem dX12_ledger_50 : decode cX12_ledger 50 = .ok (.iconst 0, 1) := by decide +kernel
theorem dX12_ledger_51 : decode cX12_ledger 51 = .ok (.istore 7, 2) := by decide +kernel
theorem dX12_ledger_53 : decode cX12_ledger 53 = .ok (.iload 7, 2) := by decide +kernel
theorem dX12_ledger_55 : decode cX12_ledger 55 = .ok (.aload_n 0, 1) := by decide +kernel
theorem dX12_ledger_56 : decode cX12_ledger 56 = .ok (.getfield 203, 3) := by decide +kernel
theorem dX12_ledger_59 : decode cX12_ledger 59 = .ok (.if_icmp .ge 98, 3) := by decide +kernel
theorem dX12_ledger_62 : decode cX12_ledger 62 = .ok (.aload_n 0, 1) := by decide +kernel
theorem dX12_ledger_63 : decode cX12_ledger 63 = .ok (.getfield 56, 3) := by decide +kernel
theorem dX12_ledger_66 : decode cX12_ledger 66 = .ok (.iload 7, 2) := by decide +kernel
theorem dX12_ledger_68 : decode cX12_ledger 68 = .ok (.iaload, 1) := by decide +kernel
theorem dX12_ledger_69 : decode cX12_ledger 69 = .ok (.istore 8, 2) := by decide +kernel
theorem dX12_ledger_71 : decode cX12_ledger 71 = .ok (.iload 8, 2) := by decide +kernel
theorem dX12_ledger_73 : decode cX12_ledger 73 = .ok (.aload_n 0, 1) := by decide +kernel
theorem dX12_ledger_74 : decode cX12_ledger 74 = .ok (.getfield 56, 3) := by decide +kernel
theorem dX12_ledger_77 : decode cX12_ledger 77 = .ok (.iload 7, 2) := by decide +kernel
theorem dX12_ledger_79 : decode cX12_ledger 79 = .ok (.iconst 1, 1) := by decide +kernel
theorem dX12_ledger_80 : decode cX12_ledger 80 = .ok (.iadd, 1) := by decide +kernel
theorem dX12_ledger_81 : decode cX12_ledger 81 = .ok (.iaload, 1) := by decide +kernel
theorem dX12_ledger_82 : decode cX12_ledger 82 = .ok (.if_icmp .ge 69, 3) := by decide +kernel
theorem dX12_ledger_85 : decode cX12_ledger 85 = .ok (.aload_n 0, 1) := by decide +kernel
theorem dX12_ledger_86 : decode cX12_ledger 86 = .ok (.getfield 65, 3) := by decide +kernel
theorem dX12_ledger_89 : decode cX12_ledger 89 = .ok (.iload 8, 2) := by decide +kernel
theorem dX12_ledger_91 : decode cX12_ledger 91 = .ok (.iaload, 1) := by decide +kernel
theorem dX12_ledger_92 : decode cX12_ledger 92 = .ok (.iload_n 1, 1) := by decide +kernel
theorem dX12_ledger_93 : decode cX12_ledger 93 = .ok (.if_icmp .ne 52, 3) := by decide +kernel
theorem dX12_ledger_96 : decode cX12_ledger 96 = .ok (.lload 5, 2) := by decide +kernel
theorem dX12_ledger_98 : decode cX12_ledger 98 = .ok (.aload_n 0, 1) := by decide +kernel
theorem dX12_ledger_99 : decode cX12_ledger 99 = .ok (.getfield 68, 3) := by decide +kernel
theorem dX12_ledger_102 : decode cX12_ledger 102 = .ok (.iload 8, 2) := by decide +kernel
theorem dX12_ledger_104 : decode cX12_ledger 104 = .ok (.laload, 1) := by decide +kernel
theorem dX12_ledger_105 : decode cX12_ledger 105 = .ok (.ladd, 1) := by decide +kernel
theorem dX12_ledger_106 : decode cX12_ledger 106 = .ok (.lstore 5, 2) := by decide +kernel
theorem dX12_ledger_108 : decode cX12_ledger 108 = .ok (.iload 4, 2) := by decide +kernel
theorem dX12_ledger_110 : decode cX12_ledger 110 = .ok (.iload_n 2, 1) := by decide +kernel
theorem dX12_ledger_111 : decode cX12_ledger 111 = .ok (.if_icmp .ne 31, 3) := by decide +kernel
theorem dX12_ledger_114 : decode cX12_ledger 114 = .ok (.iload_n 3, 1) := by decide +kernel
theorem dX12_ledger_115 : decode cX12_ledger 115 = .ok (.ifCond .ne 9, 3) := by decide +kernel
theorem dX12_ledger_118 : decode cX12_ledger 118 = .ok (.iload 7, 2) := by decide +kernel
theorem dX12_ledger_120 : decode cX12_ledger 120 = .ok (.i2l, 1) := by decide +kernel
theorem dX12_ledger_121 : decode cX12_ledger 121 = .ok (.goto 20, 3) := by decide +kernel
theorem dX12_ledger_124 : decode cX12_ledger 124 = .ok (.iload_n 3, 1) := by decide +kernel
theorem dX12_ledger_125 : decode cX12_ledger 125 = .ok (.iconst 1, 1) := by decide +kernel
theorem dX12_ledger_126 : decode cX12_ledger 126 = .ok (.if_icmp .ne 13, 3) := by decide +kernel
theorem dX12_ledger_129 : decode cX12_ledger 129 = .ok (.aload_n 0, 1) := by decide +kernel
theorem dX12_ledger_130 : decode cX12_ledger 130 = .ok (.getfield 68, 3) := by decide +kernel
theorem dX12_ledger_133 : decode cX12_ledger 133 = .ok (.iload 8, 2) := by decide +kernel
theorem dX12_ledger_135 : decode cX12_ledger 135 = .ok (.laload, 1) := by decide +kernel
theorem dX12_ledger_136 : decode cX12_ledger 136 = .ok (.goto 5, 3) := by decide +kernel
theorem dX12_ledger_139 : decode cX12_ledger 139 = .ok (.lload 5, 2) := by decide +kernel
theorem dX12_ledger_141 : decode cX12_ledger 141 = .ok (.lreturn, 1) := by decide +kernel
theorem dX12_ledger_142 : decode cX12_ledger 142 = .ok (.iinc 4 1, 3) := by decide +kernel
theorem dX12_ledger_145 : decode cX12_ledger 145 = .ok (.iinc 8 1, 3) := by decide +kernel
theorem dX12_ledger_148 : decode cX12_ledger 148 = .ok (.goto (-77), 3) := by decide +kernel
theorem dX12_ledger_151 : decode cX12_ledger 151 = .ok (.iinc 7 1, 3) := by decide +kernel
theorem dX12_ledger_154 : decode cX12_ledger 154 = .ok (.goto (-101), 3) := by decide +kernel
theorem dX12_ledger_157 : decode cX12_ledger 157 = .ok (.ldc2_w 246, 3) := by decide +kernel
theorem dX12_ledger_160 : decode cX12_ledger 160 = .ok (.lreturn, 1) := by decide +kernel
theorem dX12_periodOf_0 : decode cX12_periodOf 0 = .ok (.aload_n 0, 1) := by decide +kernel
theorem dX12_periodOf_1 : decode cX12_periodOf 1 = .ok (.getfield 7, 3) := by decide +kernel
theorem dX12_periodOf_4 : decode cX12_periodOf 4 = .ok (.ifCond .ne 6, 3) := by decide +kernel
theorem dX12_periodOf_7 : decode cX12_periodOf 7 = .ok (.bipush (-6), 2) := by decide +kernel
theorem dX12_periodOf_9 : decode cX12_periodOf 9 = .ok (.ireturn, 1) := by decide +kernel
theorem dX12_periodOf_10 : decode cX12_periodOf 10 = .ok (.iload_n 1, 1) := by decide +kernel
theorem dX12_periodOf_11 : decode cX12_periodOf 11 = .ok (.i2l, 1) := by decide +kernel
theorem dX12_periodOf_12 : decode cX12_periodOf 12 = .ok (.lconst 0, 1) := by decide +kernel
theorem dX12_periodOf_13 : decode cX12_periodOf 13 = .ok (.aload_n 0, 1) := by decide +kernel
theorem dX12_periodOf_14 : decode cX12_periodOf 14 = .ok (.getfield 173, 3) := by decide +kernel
theorem dX12_periodOf_17 : decode cX12_periodOf 17 = .ok (.iconst 1, 1) := by decide +kernel
theorem dX12_periodOf_18 : decode cX12_periodOf 18 = .ok (.isub, 1) := by decide +kernel
theorem dX12_periodOf_19 : decode cX12_periodOf 19 = .ok (.i2l, 1) := by decide +kernel
theorem dX12_periodOf_20 : decode cX12_periodOf 20 = .ok (.invokestatic 116, 3) := by decide +kernel
theorem dX12_periodOf_23 : decode cX12_periodOf 23 = .ok (.ifCond .ne 6, 3) := by decide +kernel
theorem dX12_periodOf_26 : decode cX12_periodOf 26 = .ok (.bipush (-2), 2) := by decide +kernel
theorem dX12_periodOf_28 : decode cX12_periodOf 28 = .ok (.ireturn, 1) := by decide +kernel
theorem dX12_periodOf_29 : decode cX12_periodOf 29 = .ok (.iload_n 2, 1) := by decide +kernel
theorem dX12_periodOf_30 : decode cX12_periodOf 30 = .ok (.tableswitch 64 0 3 #[30, 36, 43, 57], 30) := by decide +kernel
theorem dX12_periodOf_60 : decode cX12_periodOf 60 = .ok (.aload_n 0, 1) := by decide +kernel
theorem dX12_periodOf_61 : decode cX12_periodOf 61 = .ok (.iload_n 1, 1) := by decide +kernel
theorem dX12_periodOf_62 : decode cX12_periodOf 62 = .ok (.invokevirtual 176, 3) := by decide +kernel
theorem dX12_periodOf_65 : decode cX12_periodOf 65 = .ok (.ireturn, 1) := by decide +kernel
theorem dX12_periodOf_66 : decode cX12_periodOf 66 = .ok (.aload_n 0, 1) := by decide +kernel
theorem dX12_periodOf_67 : decode cX12_periodOf 67 = .ok (.getfield 41, 3) := by decide +kernel
theorem dX12_periodOf_70 : decode cX12_periodOf 70 = .ok (.iload_n 1, 1) := by decide +kernel
theorem dX12_periodOf_71 : decode cX12_periodOf 71 = .ok (.iaload, 1) := by decide +kernel
theorem dX12_periodOf_72 : decode cX12_periodOf 72 = .ok (.ireturn, 1) := by decide +kernel
theorem dX12_periodOf_73 : decode cX12_periodOf 73 = .ok (.iload_n 1, 1) := by decide +kernel
theorem dX12_periodOf_74 : decode cX12_periodOf 74 = .ok (.aload_n 0, 1) := by decide +kernel
theorem dX12_periodOf_75 : decode cX12_periodOf 75 = .ok (.getfield 197, 3) := by decide +kernel
theorem dX12_periodOf_78 : decode cX12_periodOf 78 = .ok (.if_icmp .ge 7, 3) := by decide +kernel
theorem dX12_periodOf_81 : decode cX12_periodOf 81 = .ok (.iconst 1, 1) := by decide +kernel
theorem dX12_periodOf_82 : decode cX12_periodOf 82 = .ok (.goto 4, 3) := by decide +kernel
theorem dX12_periodOf_85 : decode cX12_periodOf 85 = .ok (.iconst 0, 1) := by decide +kernel
theorem dX12_periodOf_86 : decode cX12_periodOf 86 = .ok (.ireturn, 1) := by decide +kernel
theorem dX12_periodOf_87 : decode cX12_periodOf 87 = .ok (.aload_n 0, 1) := by decide +kernel
theorem dX12_periodOf_88 : decode cX12_periodOf 88 = .ok (.getfield 44, 3) := by decide +kernel
theorem dX12_periodOf_91 : decode cX12_periodOf 91 = .ok (.iload_n 1, 1) := by decide +kernel
theorem dX12_periodOf_92 : decode cX12_periodOf 92 = .ok (.iaload, 1) := by decide +kernel
theorem dX12_periodOf_93 : decode cX12_periodOf 93 = .ok (.ireturn, 1) := by decide +kernel
theorem dX12_periodOf_94 : decode cX12_periodOf 94 = .ok (.bipush (-3), 2) := by decide +kernel
theorem dX12_periodOf_96 : decode cX12_periodOf 96 = .ok (.ireturn, 1) := by decide +kernel
theorem dX12_put_0 : decode cX12_put 0 = .ok (.aload_n 0, 1) := by decide +kernel
theorem dX12_put_1 : decode cX12_put 1 = .ok (.getfield 253, 3) := by decide +kernel
theorem dX12_put_4 : decode cX12_put 4 = .ok (.sipush 4000, 3) := by decide +kernel
theorem dX12_put_7 : decode cX12_put 7 = .ok (.if_icmp .ge 13, 3) := by decide +kernel
theorem dX12_put_10 : decode cX12_put 10 = .ok (.aload_n 0, 1) := by decide +kernel
theorem dX12_put_11 : decode cX12_put 11 = .ok (.getfield 89, 3) := by decide +kernel
theorem dX12_put_14 : decode cX12_put 14 = .ok (.aload_n 0, 1) := by decide +kernel
theorem dX12_put_15 : decode cX12_put 15 = .ok (.getfield 253, 3) := by decide +kernel
theorem dX12_put_18 : decode cX12_put 18 = .ok (.iload_n 1, 1) := by decide +kernel
theorem dX12_put_19 : decode cX12_put 19 = .ok (.iastore, 1) := by decide +kernel
theorem dX12_put_20 : decode cX12_put 20 = .ok (.aload_n 0, 1) := by decide +kernel
theorem dX12_put_21 : decode cX12_put 21 = .ok (.dup, 1) := by decide +kernel
theorem dX12_put_22 : decode cX12_put 22 = .ok (.getfield 253, 3) := by decide +kernel
theorem dX12_put_25 : decode cX12_put 25 = .ok (.iconst 1, 1) := by decide +kernel
theorem dX12_put_26 : decode cX12_put 26 = .ok (.iadd, 1) := by decide +kernel
theorem dX12_put_27 : decode cX12_put 27 = .ok (.putfield 253, 3) := by decide +kernel
theorem dX12_put_30 : decode cX12_put 30 = .ok (.return_, 1) := by decide +kernel
theorem dX12_money_0 : decode cX12_money 0 = .ok (.lload_n 1, 1) := by decide +kernel
theorem dX12_money_1 : decode cX12_money 1 = .ok (.lconst 0, 1) := by decide +kernel
theorem dX12_money_2 : decode cX12_money 2 = .ok (.lcmp, 1) := by decide +kernel
theorem dX12_money_3 : decode cX12_money 3 = .ok (.ifCond .ge 9, 3) := by decide +kernel
theorem dX12_money_6 : decode cX12_money 6 = .ok (.aload_n 0, 1) := by decide +kernel
theorem dX12_money_7 : decode cX12_money 7 = .ok (.bipush 45, 2) := by decide +kernel
theorem dX12_money_9 : decode cX12_money 9 = .ok (.invokevirtual 324, 3) := by decide +kernel
theorem dX12_money_12 : decode cX12_money 12 = .ok (.lload_n 1, 1) := by decide +kernel
theorem dX12_money_13 : decode cX12_money 13 = .ok (.lconst 0, 1) := by decide +kernel
theorem dX12_money_14 : decode cX12_money 14 = .ok (.lcmp, 1) := by decide +kernel
theorem dX12_money_15 : decode cX12_money 15 = .ok (.ifCond .ge 8, 3) := by decide +kernel
theorem dX12_money_18 : decode cX12_money 18 = .ok (.lload_n 1, 1) := by decide +kernel
theorem dX12_money_19 : decode cX12_money 19 = .ok (.lneg, 1) := by decide +kernel
theorem dX12_money_20 : decode cX12_money 20 = .ok (.goto 4, 3) := by decide +kernel
theorem dX12_money_23 : decode cX12_money 23 = .ok (.lload_n 1, 1) := by decide +kernel
theorem dX12_money_24 : decode cX12_money 24 = .ok (.lstore_n 3, 1) := by decide +kernel
theorem dX12_money_25 : decode cX12_money 25 = .ok (.iconst 0, 1) := by decide +kernel
theorem dX12_money_26 : decode cX12_money 26 = .ok (.istore 5, 2) := by decide +kernel
theorem dX12_money_28 : decode cX12_money 28 = .ok (.lload_n 3, 1) := by decide +kernel
theorem dX12_money_29 : decode cX12_money 29 = .ok (.lconst 0, 1) := by decide +kernel
theorem dX12_money_30 : decode cX12_money 30 = .ok (.lcmp, 1) := by decide +kernel
theorem dX12_money_31 : decode cX12_money 31 = .ok (.ifCond .gt 9, 3) := by decide +kernel
theorem dX12_money_34 : decode cX12_money 34 = .ok (.iload 5, 2) := by decide +kernel
theorem dX12_money_36 : decode cX12_money 36 = .ok (.iconst 3, 1) := by decide +kernel
theorem dX12_money_37 : decode cX12_money 37 = .ok (.if_icmp .ge 28, 3) := by decide +kernel
theorem dX12_money_40 : decode cX12_money 40 = .ok (.aload_n 0, 1) := by decide +kernel
theorem dX12_money_41 : decode cX12_money 41 = .ok (.getfield 92, 3) := by decide +kernel
theorem dX12_money_44 : decode cX12_money 44 = .ok (.iload 5, 2) := by decide +kernel
theorem dX12_money_46 : decode cX12_money 46 = .ok (.lload_n 3, 1) := by decide +kernel
theorem dX12_money_47 : decode cX12_money 47 = .ok (.ldc2_w 327, 3) := by decide +kernel
theorem dX12_money_50 : decode cX12_money 50 = .ok (.lrem, 1) := by decide +kernel
theorem dX12_money_51 : decode cX12_money 51 = .ok (.l2i, 1) := by decide +kernel
theorem dX12_money_52 : decode cX12_money 52 = .ok (.iastore, 1) := by decide +kernel
theorem dX12_money_53 : decode cX12_money 53 = .ok (.lload_n 3, 1) := by decide +kernel
theorem dX12_money_54 : decode cX12_money 54 = .ok (.ldc2_w 327, 3) := by decide +kernel
theorem dX12_money_57 : decode cX12_money 57 = .ok (.ldiv, 1) := by decide +kernel
theorem dX12_money_58 : decode cX12_money 58 = .ok (.lstore_n 3, 1) := by decide +kernel
theorem dX12_money_59 : decode cX12_money 59 = .ok (.iinc 5 1, 3) := by decide +kernel
theorem dX12_money_62 : decode cX12_money 62 = .ok (.goto (-34), 3) := by decide +kernel
theorem dX12_money_65 : decode cX12_money 65 = .ok (.iload 5, 2) := by decide +kernel
theorem dX12_money_67 : decode cX12_money 67 = .ok (.iconst 1, 1) := by decide +kernel
theorem dX12_money_68 : decode cX12_money 68 = .ok (.isub, 1) := by decide +kernel
theorem dX12_money_69 : decode cX12_money 69 = .ok (.istore 6, 2) := by decide +kernel
theorem dX12_money_71 : decode cX12_money 71 = .ok (.iload 6, 2) := by decide +kernel
theorem dX12_money_73 : decode cX12_money 73 = .ok (.ifCond .lt 56, 3) := by decide +kernel
theorem dX12_money_76 : decode cX12_money 76 = .ok (.iload 6, 2) := by decide +kernel
theorem dX12_money_78 : decode cX12_money 78 = .ok (.iconst 1, 1) := by decide +kernel
theorem dX12_money_79 : decode cX12_money 79 = .ok (.if_icmp .ne 9, 3) := by decide +kernel
theorem dX12_money_82 : decode cX12_money 82 = .ok (.aload_n 0, 1) := by decide +kernel
theorem dX12_money_83 : decode cX12_money 83 = .ok (.bipush 46, 2) := by decide +kernel
theorem dX12_money_85 : decode cX12_money 85 = .ok (.invokevirtual 324, 3) := by decide +kernel
theorem dX12_money_88 : decode cX12_money 88 = .ok (.aload_n 0, 1) := by decide +kernel
theorem dX12_money_89 : decode cX12_money 89 = .ok (.bipush 48, 2) := by decide +kernel
theorem dX12_money_91 : decode cX12_money 91 = .ok (.aload_n 0, 1) := by decide +kernel
theorem dX12_money_92 : decode cX12_money 92 = .ok (.getfield 92, 3) := by decide +kernel
theorem dX12_money_95 : decode cX12_money 95 = .ok (.iload 6, 2) := by decide +kernel
theorem dX12_money_97 : decode cX12_money 97 = .ok (.iaload, 1) := by decide +kernel
theorem dX12_money_98 : decode cX12_money 98 = .ok (.iadd, 1) := by decide +kernel
theorem dX12_money_99 : decode cX12_money 99 = .ok (.invokevirtual 324, 3) := by decide +kernel
theorem dX12_money_102 : decode cX12_money 102 = .ok (.iload 6, 2) := by decide +kernel
theorem dX12_money_104 : decode cX12_money 104 = .ok (.iconst 2, 1) := by decide +kernel
theorem dX12_money_105 : decode cX12_money 105 = .ok (.if_icmp .le 18, 3) := by decide +kernel
theorem dX12_money_108 : decode cX12_money 108 = .ok (.iload 6, 2) := by decide +kernel
theorem dX12_money_110 : decode cX12_money 110 = .ok (.iconst 2, 1) := by decide +kernel
theorem dX12_money_111 : decode cX12_money 111 = .ok (.isub, 1) := by decide +kernel
theorem dX12_money_112 : decode cX12_money 112 = .ok (.iconst 3, 1) := by decide +kernel
theorem dX12_money_113 : decode cX12_money 113 = .ok (.irem, 1) := by decide +kernel
theorem dX12_money_114 : decode cX12_money 114 = .ok (.ifCond .ne 9, 3) := by decide +kernel
theorem dX12_money_117 : decode cX12_money 117 = .ok (.aload_n 0, 1) := by decide +kernel
theorem dX12_money_118 : decode cX12_money 118 = .ok (.bipush 44, 2) := by decide +kernel
theorem dX12_money_120 : decode cX12_money 120 = .ok (.invokevirtual 324, 3) := by decide +kernel
theorem dX12_money_123 : decode cX12_money 123 = .ok (.iinc 6 (-1), 3) := by decide +kernel
theorem dX12_money_126 : decode cX12_money 126 = .ok (.goto (-55), 3) := by decide +kernel
theorem dX12_money_129 : decode cX12_money 129 = .ok (.return_, 1) := by decide +kernel
theorem dX12_row_0 : decode cX12_row 0 = .ok (.iconst 0, 1) := by decide +kernel
theorem dX12_row_1 : decode cX12_row 1 = .ok (.istore_n 2, 1) := by decide +kernel
theorem dX12_row_2 : decode cX12_row 2 = .ok (.iload_n 2, 1) := by decide +kernel
theorem dX12_row_3 : decode cX12_row 3 = .ok (.iconst 2, 1) := by decide +kernel
theorem dX12_row_4 : decode cX12_row 4 = .ok (.aload_n 0, 1) := by decide +kernel
theorem dX12_row_5 : decode cX12_row 5 = .ok (.getfield 27, 3) := by decide +kernel
theorem dX12_row_8 : decode cX12_row 8 = .ok (.iload_n 1, 1) := by decide +kernel
theorem dX12_row_9 : decode cX12_row 9 = .ok (.iaload, 1) := by decide +kernel
theorem dX12_row_10 : decode cX12_row 10 = .ok (.imul, 1) := by decide +kernel
theorem dX12_row_11 : decode cX12_row 11 = .ok (.if_icmp .ge 15, 3) := by decide +kernel
theorem dX12_row_14 : decode cX12_row 14 = .ok (.aload_n 0, 1) := by decide +kernel
theorem dX12_row_15 : decode cX12_row 15 = .ok (.bipush 32, 2) := by decide +kernel
theorem dX12_row_17 : decode cX12_row 17 = .ok (.invokevirtual 324, 3) := by decide +kernel
theorem dX12_row_20 : decode cX12_row 20 = .ok (.iinc 2 1, 3) := by decide +kernel
theorem dX12_row_23 : decode cX12_row 23 = .ok (.goto (-21), 3) := by decide +kernel
theorem dX12_row_26 : decode cX12_row 26 = .ok (.aload_n 0, 1) := by decide +kernel
theorem dX12_row_27 : decode cX12_row 27 = .ok (.bipush 48, 2) := by decide +kernel
theorem dX12_row_29 : decode cX12_row 29 = .ok (.aload_n 0, 1) := by decide +kernel
theorem dX12_row_30 : decode cX12_row 30 = .ok (.getfield 13, 3) := by decide +kernel
theorem dX12_row_33 : decode cX12_row 33 = .ok (.iload_n 1, 1) := by decide +kernel
theorem dX12_row_34 : decode cX12_row 34 = .ok (.iaload, 1) := by decide +kernel
theorem dX12_row_35 : decode cX12_row 35 = .ok (.sipush 1000, 3) := by decide +kernel
theorem dX12_row_38 : decode cX12_row 38 = .ok (.idiv, 1) := by decide +kernel
theorem dX12_row_39 : decode cX12_row 39 = .ok (.iadd, 1) := by decide +kernel
theorem dX12_row_40 : decode cX12_row 40 = .ok (.invokevirtual 324, 3) := by decide +kernel
theorem dX12_row_43 : decode cX12_row 43 = .ok (.aload_n 0, 1) := by decide +kernel
theorem dX12_row_44 : decode cX12_row 44 = .ok (.bipush 48, 2) := by decide +kernel
theorem dX12_row_46 : decode cX12_row 46 = .ok (.aload_n 0, 1) := by decide +kernel
theorem dX12_row_47 : decode cX12_row 47 = .ok (.getfield 13, 3) := by decide +kernel
theorem dX12_row_50 : decode cX12_row 50 = .ok (.iload_n 1, 1) := by decide +kernel
theorem dX12_row_51 : decode cX12_row 51 = .ok (.iaload, 1) := by decide +kernel
theorem dX12_row_52 : decode cX12_row 52 = .ok (.bipush 100, 2) := by decide +kernel
theorem dX12_row_54 : decode cX12_row 54 = .ok (.idiv, 1) := by decide +kernel
theorem dX12_row_55 : decode cX12_row 55 = .ok (.bipush 10, 2) := by decide +kernel
theorem dX12_row_57 : decode cX12_row 57 = .ok (.irem, 1) := by decide +kernel
theorem dX12_row_58 : decode cX12_row 58 = .ok (.iadd, 1) := by decide +kernel
theorem dX12_row_59 : decode cX12_row 59 = .ok (.invokevirtual 324, 3) := by decide +kernel
theorem dX12_row_62 : decode cX12_row 62 = .ok (.aload_n 0, 1) := by decide +kernel
theorem dX12_row_63 : decode cX12_row 63 = .ok (.bipush 48, 2) := by decide +kernel
theorem dX12_row_65 : decode cX12_row 65 = .ok (.aload_n 0, 1) := by decide +kernel
theorem dX12_row_66 : decode cX12_row 66 = .ok (.getfield 13, 3) := by decide +kernel
theorem dX12_row_69 : decode cX12_row 69 = .ok (.iload_n 1, 1) := by decide +kernel
theorem dX12_row_70 : decode cX12_row 70 = .ok (.iaload, 1) := by decide +kernel
theorem dX12_row_71 : decode cX12_row 71 = .ok (.bipush 10, 2) := by decide +kernel
theorem dX12_row_73 : decode cX12_row 73 = .ok (.idiv, 1) := by decide +kernel
theorem dX12_row_74 : decode cX12_row 74 = .ok (.bipush 10, 2) := by decide +kernel
theorem dX12_row_76 : decode cX12_row 76 = .ok (.irem, 1) := by decide +kernel
theorem dX12_row_77 : decode cX12_row 77 = .ok (.iadd, 1) := by decide +kernel
theorem dX12_row_78 : decode cX12_row 78 = .ok (.invokevirtual 324, 3) := by decide +kernel
theorem dX12_row_81 : decode cX12_row 81 = .ok (.aload_n 0, 1) := by decide +kernel
theorem dX12_row_82 : decode cX12_row 82 = .ok (.bipush 48, 2) := by decide +kernel
theorem dX12_row_84 : decode cX12_row 84 = .ok (.aload_n 0, 1) := by decide +kernel
theorem dX12_row_85 : decode cX12_row 85 = .ok (.getfield 13, 3) := by decide +kernel
theorem dX12_row_88 : decode cX12_row 88 = .ok (.iload_n 1, 1) := by decide +kernel
theorem dX12_row_89 : decode cX12_row 89 = .ok (.iaload, 1) := by decide +kernel
theorem dX12_row_90 : decode cX12_row 90 = .ok (.bipush 10, 2) := by decide +kernel
theorem dX12_row_92 : decode cX12_row 92 = .ok (.irem, 1) := by decide +kernel
theorem dX12_row_93 : decode cX12_row 93 = .ok (.iadd, 1) := by decide +kernel
theorem dX12_row_94 : decode cX12_row 94 = .ok (.invokevirtual 324, 3) := by decide +kernel
theorem dX12_row_97 : decode cX12_row 97 = .ok (.aload_n 0, 1) := by decide +kernel
theorem dX12_row_98 : decode cX12_row 98 = .ok (.bipush 32, 2) := by decide +kernel
theorem dX12_row_100 : decode cX12_row 100 = .ok (.invokevirtual 324, 3) := by decide +kernel
theorem dX12_row_103 : decode cX12_row 103 = .ok (.aload_n 0, 1) := by decide +kernel
theorem dX12_row_104 : decode cX12_row 104 = .ok (.aload_n 0, 1) := by decide +kernel
theorem dX12_row_105 : decode cX12_row 105 = .ok (.iload_n 1, 1) := by decide +kernel
theorem dX12_row_106 : decode cX12_row 106 = .ok (.invokevirtual 320, 3) := by decide +kernel
theorem dX12_row_109 : decode cX12_row 109 = .ok (.invokevirtual 329, 3) := by decide +kernel
theorem dX12_row_112 : decode cX12_row 112 = .ok (.aload_n 0, 1) := by decide +kernel
theorem dX12_row_113 : decode cX12_row 113 = .ok (.bipush 10, 2) := by decide +kernel
theorem dX12_row_115 : decode cX12_row 115 = .ok (.invokevirtual 324, 3) := by decide +kernel
theorem dX12_row_118 : decode cX12_row 118 = .ok (.return_, 1) := by decide +kernel
theorem dX12_tree_0 : decode cX12_tree 0 = .ok (.iconst 0, 1) := by decide +kernel
theorem dX12_tree_1 : decode cX12_tree 1 = .ok (.istore_n 1, 1) := by decide +kernel
theorem dX12_tree_2 : decode cX12_tree 2 = .ok (.aload_n 0, 1) := by decide +kernel
theorem dX12_tree_3 : decode cX12_tree 3 = .ok (.getfield 95, 3) := by decide +kernel
theorem dX12_tree_6 : decode cX12_tree 6 = .ok (.iconst 0, 1) := by decide +kernel
theorem dX12_tree_7 : decode cX12_tree 7 = .ok (.iconst (-1), 1) := by decide +kernel
theorem dX12_tree_8 : decode cX12_tree 8 = .ok (.iastore, 1) := by decide +kernel
theorem dX12_tree_9 : decode cX12_tree 9 = .ok (.aload_n 0, 1) := by decide +kernel
theorem dX12_tree_10 : decode cX12_tree 10 = .ok (.getfield 98, 3) := by decide +kernel
theorem dX12_tree_13 : decode cX12_tree 13 = .ok (.iconst 0, 1) := by decide +kernel
theorem dX12_tree_14 : decode cX12_tree 14 = .ok (.iconst (-1), 1) := by decide +kernel
theorem dX12_tree_15 : decode cX12_tree 15 = .ok (.iastore, 1) := by decide +kernel
theorem dX12_tree_16 : decode cX12_tree 16 = .ok (.iload_n 1, 1) := by decide +kernel
theorem dX12_tree_17 : decode cX12_tree 17 = .ok (.ifCond .lt 152, 3) := by decide +kernel
theorem dX12_tree_20 : decode cX12_tree 20 = .ok (.iconst (-1), 1) := by decide +kernel
theorem dX12_tree_21 : decode cX12_tree 21 = .ok (.istore_n 2, 1) := by decide +kernel
theorem dX12_tree_22 : decode cX12_tree 22 = .ok (.iconst 0, 1) := by decide +kernel
theorem dX12_tree_23 : decode cX12_tree 23 = .ok (.istore_n 3, 1) := by decide +kernel
theorem dX12_tree_24 : decode cX12_tree 24 = .ok (.iload_n 3, 1) := by decide +kernel
theorem dX12_tree_25 : decode cX12_tree 25 = .ok (.aload_n 0, 1) := by decide +kernel
theorem dX12_tree_26 : decode cX12_tree 26 = .ok (.getfield 113, 3) := by decide +kernel
theorem dX12_tree_29 : decode cX12_tree 29 = .ok (.if_icmp .ge 82, 3) := by decide +kernel
theorem dX12_tree_32 : decode cX12_tree 32 = .ok (.sipush 10000, 3) := by decide +kernel
theorem dX12_tree_35 : decode cX12_tree 35 = .ok (.aload_n 0, 1) := by decide +kernel
theorem dX12_tree_36 : decode cX12_tree 36 = .ok (.getfield 17, 3) := by decide +kernel
theorem dX12_tree_39 : decode cX12_tree 39 = .ok (.iload_n 3, 1) := by decide +kernel
theorem dX12_tree_40 : decode cX12_tree 40 = .ok (.iaload, 1) := by decide +kernel
theorem dX12_tree_41 : decode cX12_tree 41 = .ok (.imul, 1) := by decide +kernel
theorem dX12_tree_42 : decode cX12_tree 42 = .ok (.aload_n 0, 1) := by decide +kernel
theorem dX12_tree_43 : decode cX12_tree 43 = .ok (.getfield 13, 3) := by decide +kernel
theorem dX12_tree_46 : decode cX12_tree 46 = .ok (.iload_n 3, 1) := by decide +kernel
theorem dX12_tree_47 : decode cX12_tree 47 = .ok (.iaload, 1) := by decide +kernel
theorem dX12_tree_48 : decode cX12_tree 48 = .ok (.iadd, 1) := by decide +kernel
theorem dX12_tree_49 : decode cX12_tree 49 = .ok (.istore 4, 2) := by decide +kernel
theorem dX12_tree_51 : decode cX12_tree 51 = .ok (.aload_n 0, 1) := by decide +kernel
theorem dX12_tree_52 : decode cX12_tree 52 = .ok (.getfield 20, 3) := by decide +kernel
theorem dX12_tree_55 : decode cX12_tree 55 = .ok (.iload_n 3, 1) := by decide +kernel
theorem dX12_tree_56 : decode cX12_tree 56 = .ok (.iaload, 1) := by decide +kernel
theorem dX12_tree_57 : decode cX12_tree 57 = .ok (.aload_n 0, 1) := by decide +kernel
theorem dX12_tree_58 : decode cX12_tree 58 = .ok (.getfield 95, 3) := by decide +kernel
theorem dX12_tree_61 : decode cX12_tree 61 = .ok (.iload_n 1, 1) := by decide +kernel
theorem dX12_tree_62 : decode cX12_tree 62 = .ok (.iaload, 1) := by decide +kernel
theorem dX12_tree_63 : decode cX12_tree 63 = .ok (.if_icmp .ne 42, 3) := by decide +kernel
theorem dX12_tree_66 : decode cX12_tree 66 = .ok (.iload 4, 2) := by decide +kernel
theorem dX12_tree_68 : decode cX12_tree 68 = .ok (.aload_n 0, 1) := by decide +kernel
theorem dX12_tree_69 : decode cX12_tree 69 = .ok (.getfield 98, 3) := by decide +kernel
theorem dX12_tree_72 : decode cX12_tree 72 = .ok (.iload_n 1, 1) := by decide +kernel
theorem dX12_tree_73 : decode cX12_tree 73 = .ok (.iaload, 1) := by decide +kernel
theorem dX12_tree_74 : decode cX12_tree 74 = .ok (.if_icmp .le 31, 3) := by decide +kernel
theorem dX12_tree_77 : decode cX12_tree 77 = .ok (.iload_n 2, 1) := by decide +kernel
theorem dX12_tree_78 : decode cX12_tree 78 = .ok (.ifCond .lt 25, 3) := by decide +kernel
theorem dX12_tree_81 : decode cX12_tree 81 = .ok (.iload 4, 2) := by decide +kernel
theorem dX12_tree_83 : decode cX12_tree 83 = .ok (.sipush 10000, 3) := by decide +kernel
theorem dX12_tree_86 : decode cX12_tree 86 = .ok (.aload_n 0, 1) := by decide +kernel
theorem dX12_tree_87 : decode cX12_tree 87 = .ok (.getfield 17, 3) := by decide +kernel
theorem dX12_tree_90 : decode cX12_tree 90 = .ok (.iload_n 2, 1) := by decide +kernel
theorem dX12_tree_91 : decode cX12_tree 91 = .ok (.iaload, 1) := by decide +kernel
theorem dX12_tree_92 : decode cX12_tree 92 = .ok (.imul, 1) := by decide +kernel
theorem dX12_tree_93 : decode cX12_tree 93 = .ok (.aload_n 0, 1) := by decide +kernel
theorem dX12_tree_94 : decode cX12_tree 94 = .ok (.getfield 13, 3) := by decide +kernel
theorem dX12_tree_97 : decode cX12_tree 97 = .ok (.iload_n 2, 1) := by decide +kernel
theorem dX12_tree_98 : decode cX12_tree 98 = .ok (.iaload, 1) := by decide +kernel
theorem dX12_tree_99 : decode cX12_tree 99 = .ok (.iadd, 1) := by decide +kernel
theorem dX12_tree_100 : decode cX12_tree 100 = .ok (.if_icmp .ge 5, 3) := by decide +kernel
theorem dX12_tree_103 : decode cX12_tree 103 = .ok (.iload_n 3, 1) := by decide +kernel
theorem dX12_tree_104 : decode cX12_tree 104 = .ok (.istore_n 2, 1) := by decide +kernel
theorem dX12_tree_105 : decode cX12_tree 105 = .ok (.iinc 3 1, 3) := by decide +kernel
theorem dX12_tree_108 : decode cX12_tree 108 = .ok (.goto (-84), 3) := by decide +kernel
theorem dX12_tree_111 : decode cX12_tree 111 = .ok (.iload_n 2, 1) := by decide +kernel
theorem dX12_tree_112 : decode cX12_tree 112 = .ok (.ifCond .ge 9, 3) := by decide +kernel
theorem dX12_tree_115 : decode cX12_tree 115 = .ok (.iinc 1 (-1), 3) := by decide +kernel
theorem dX12_tree_118 : decode cX12_tree 118 = .ok (.goto 48, 3) := by decide +kernel
theorem dX12_tree_121 : decode cX12_tree 121 = .ok (.aload_n 0, 1) := by decide +kernel
theorem dX12_tree_122 : decode cX12_tree 122 = .ok (.iload_n 2, 1) := by decide +kernel
theorem dX12_tree_123 : decode cX12_tree 123 = .ok (.invokevirtual 332, 3) := by decide +kernel
theorem dX12_tree_126 : decode cX12_tree 126 = .ok (.aload_n 0, 1) := by decide +kernel
theorem dX12_tree_127 : decode cX12_tree 127 = .ok (.getfield 98, 3) := by decide +kernel
theorem dX12_tree_130 : decode cX12_tree 130 = .ok (.iload_n 1, 1) := by decide +kernel
theorem dX12_tree_131 : decode cX12_tree 131 = .ok (.sipush 10000, 3) := by decide +kernel
theorem dX12_tree_134 : decode cX12_tree 134 = .ok (.aload_n 0, 1) := by decide +kernel
theorem dX12_tree_135 : decode cX12_tree 135 = .ok (.getfield 17, 3) := by decide +kernel
theorem dX12_tree_138 : decode cX12_tree 138 = .ok (.iload_n 2, 1) := by decide +kernel
theorem dX12_tree_139 : decode cX12_tree 139 = .ok (.iaload, 1) := by decide +kernel
theorem dX12_tree_140 : decode cX12_tree 140 = .ok (.imul, 1) := by decide +kernel
theorem dX12_tree_141 : decode cX12_tree 141 = .ok (.aload_n 0, 1) := by decide +kernel
theorem dX12_tree_142 : decode cX12_tree 142 = .ok (.getfield 13, 3) := by decide +kernel
theorem dX12_tree_145 : decode cX12_tree 145 = .ok (.iload_n 2, 1) := by decide +kernel
theorem dX12_tree_146 : decode cX12_tree 146 = .ok (.iaload, 1) := by decide +kernel
theorem dX12_tree_147 : decode cX12_tree 147 = .ok (.iadd, 1) := by decide +kernel
theorem dX12_tree_148 : decode cX12_tree 148 = .ok (.iastore, 1) := by decide +kernel
theorem dX12_tree_149 : decode cX12_tree 149 = .ok (.iinc 1 1, 3) := by decide +kernel
theorem dX12_tree_152 : decode cX12_tree 152 = .ok (.aload_n 0, 1) := by decide +kernel
theorem dX12_tree_153 : decode cX12_tree 153 = .ok (.getfield 95, 3) := by decide +kernel
theorem dX12_tree_156 : decode cX12_tree 156 = .ok (.iload_n 1, 1) := by decide +kernel
theorem dX12_tree_157 : decode cX12_tree 157 = .ok (.iload_n 2, 1) := by decide +kernel
theorem dX12_tree_158 : decode cX12_tree 158 = .ok (.iastore, 1) := by decide +kernel
theorem dX12_tree_159 : decode cX12_tree 159 = .ok (.aload_n 0, 1) := by decide +kernel
theorem dX12_tree_160 : decode cX12_tree 160 = .ok (.getfield 98, 3) := by decide +kernel
theorem dX12_tree_163 : decode cX12_tree 163 = .ok (.iload_n 1, 1) := by decide +kernel
theorem dX12_tree_164 : decode cX12_tree 164 = .ok (.iconst (-1), 1) := by decide +kernel
theorem dX12_tree_165 : decode cX12_tree 165 = .ok (.iastore, 1) := by decide +kernel
theorem dX12_tree_166 : decode cX12_tree 166 = .ok (.goto (-150), 3) := by decide +kernel
theorem dX12_tree_169 : decode cX12_tree 169 = .ok (.return_, 1) := by decide +kernel
theorem dX12_ofKind_0 : decode cX12_ofKind 0 = .ok (.lconst 0, 1) := by decide +kernel
theorem dX12_ofKind_1 : decode cX12_ofKind 1 = .ok (.lstore_n 2, 1) := by decide +kernel
theorem dX12_ofKind_2 : decode cX12_ofKind 2 = .ok (.iconst 0, 1) := by decide +kernel
theorem dX12_ofKind_3 : decode cX12_ofKind 3 = .ok (.istore 4, 2) := by decide +kernel
theorem dX12_ofKind_5 : decode cX12_ofKind 5 = .ok (.iload 4, 2) := by decide +kernel
theorem dX12_ofKind_7 : decode cX12_ofKind 7 = .ok (.aload_n 0, 1) := by decide +kernel
theorem dX12_ofKind_8 : decode cX12_ofKind 8 = .ok (.getfield 113, 3) := by decide +kernel
theorem dX12_ofKind_11 : decode cX12_ofKind 11 = .ok (.if_icmp .ge 48, 3) := by decide +kernel
theorem dX12_ofKind_14 : decode cX12_ofKind 14 = .ok (.lload_n 2, 1) := by decide +kernel
theorem dX12_ofKind_15 : decode cX12_ofKind 15 = .ok (.aload_n 0, 1) := by decide +kernel
theorem dX12_ofKind_16 : decode cX12_ofKind 16 = .ok (.getfield 23, 3) := by decide +kernel
theorem dX12_ofKind_19 : decode cX12_ofKind 19 = .ok (.iload 4, 2) := by decide +kernel
theorem dX12_ofKind_21 : decode cX12_ofKind 21 = .ok (.baload, 1) := by decide +kernel
theorem dX12_ofKind_22 : decode cX12_ofKind 22 = .ok (.ifCond .ne 28, 3) := by decide +kernel
theorem dX12_ofKind_25 : decode cX12_ofKind 25 = .ok (.iload_n 1, 1) := by decide +kernel
theorem dX12_ofKind_26 : decode cX12_ofKind 26 = .ok (.ifCond .lt 14, 3) := by decide +kernel
theorem dX12_ofKind_29 : decode cX12_ofKind 29 = .ok (.aload_n 0, 1) := by decide +kernel
theorem dX12_ofKind_30 : decode cX12_ofKind 30 = .ok (.getfield 17, 3) := by decide +kernel
theorem dX12_ofKind_33 : decode cX12_ofKind 33 = .ok (.iload 4, 2) := by decide +kernel
theorem dX12_ofKind_35 : decode cX12_ofKind 35 = .ok (.iaload, 1) := by decide +kernel
theorem dX12_ofKind_36 : decode cX12_ofKind 36 = .ok (.iload_n 1, 1) := by decide +kernel
theorem dX12_ofKind_37 : decode cX12_ofKind 37 = .ok (.if_icmp .ne 13, 3) := by decide +kernel
theorem dX12_ofKind_40 : decode cX12_ofKind 40 = .ok (.aload_n 0, 1) := by decide +kernel
theorem dX12_ofKind_41 : decode cX12_ofKind 41 = .ok (.getfield 33, 3) := by decide +kernel
theorem dX12_ofKind_44 : decode cX12_ofKind 44 = .ok (.iload 4, 2) := by decide +kernel
theorem dX12_ofKind_46 : decode cX12_ofKind 46 = .ok (.laload, 1) := by decide +kernel
theorem dX12_ofKind_47 : decode cX12_ofKind 47 = .ok (.goto 4, 3) := by decide +kernel
theorem dX12_ofKind_50 : decode cX12_ofKind 50 = .ok (.lconst 0, 1) := by decide +kernel
theorem dX12_ofKind_51 : decode cX12_ofKind 51 = .ok (.ladd, 1) := by decide +kernel
theorem dX12_ofKind_52 : decode cX12_ofKind 52 = .ok (.lstore_n 2, 1) := by decide +kernel
theorem dX12_ofKind_53 : decode cX12_ofKind 53 = .ok (.iinc 4 1, 3) := by decide +kernel
theorem dX12_ofKind_56 : decode cX12_ofKind 56 = .ok (.goto (-51), 3) := by decide +kernel
theorem dX12_ofKind_59 : decode cX12_ofKind 59 = .ok (.lload_n 2, 1) := by decide +kernel
theorem dX12_ofKind_60 : decode cX12_ofKind 60 = .ok (.lreturn, 1) := by decide +kernel
theorem dX12_total_0 : decode cX12_total 0 = .ok (.aload_n 0, 1) := by decide +kernel
theorem dX12_total_1 : decode cX12_total 1 = .ok (.iload_n 1, 1) := by decide +kernel
theorem dX12_total_2 : decode cX12_total 2 = .ok (.invokevirtual 324, 3) := by decide +kernel
theorem dX12_total_5 : decode cX12_total 5 = .ok (.aload_n 0, 1) := by decide +kernel
theorem dX12_total_6 : decode cX12_total 6 = .ok (.bipush 32, 2) := by decide +kernel
theorem dX12_total_8 : decode cX12_total 8 = .ok (.invokevirtual 324, 3) := by decide +kernel
theorem dX12_total_11 : decode cX12_total 11 = .ok (.aload_n 0, 1) := by decide +kernel
theorem dX12_total_12 : decode cX12_total 12 = .ok (.aload_n 0, 1) := by decide +kernel
theorem dX12_total_13 : decode cX12_total 13 = .ok (.iload_n 2, 1) := by decide +kernel
theorem dX12_total_14 : decode cX12_total 14 = .ok (.invokevirtual 335, 3) := by decide +kernel
theorem dX12_total_17 : decode cX12_total 17 = .ok (.invokevirtual 329, 3) := by decide +kernel
theorem dX12_total_20 : decode cX12_total 20 = .ok (.aload_n 0, 1) := by decide +kernel
theorem dX12_total_21 : decode cX12_total 21 = .ok (.bipush 10, 2) := by decide +kernel
theorem dX12_total_23 : decode cX12_total 23 = .ok (.invokevirtual 324, 3) := by decide +kernel
theorem dX12_total_26 : decode cX12_total 26 = .ok (.return_, 1) := by decide +kernel
theorem dX12_sheet_0 : decode cX12_sheet 0 = .ok (.aload_n 0, 1) := by decide +kernel
theorem dX12_sheet_1 : decode cX12_sheet 1 = .ok (.getfield 7, 3) := by decide +kernel
theorem dX12_sheet_4 : decode cX12_sheet 4 = .ok (.ifCond .ne 6, 3) := by decide +kernel
theorem dX12_sheet_7 : decode cX12_sheet 7 = .ok (.bipush (-6), 2) := by decide +kernel
theorem dX12_sheet_9 : decode cX12_sheet 9 = .ok (.ireturn, 1) := by decide +kernel
theorem dX12_sheet_10 : decode cX12_sheet 10 = .ok (.iload_n 1, 1) := by decide +kernel
theorem dX12_sheet_11 : decode cX12_sheet 11 = .ok (.i2l, 1) := by decide +kernel
theorem dX12_sheet_12 : decode cX12_sheet 12 = .ok (.lconst 0, 1) := by decide +kernel
theorem dX12_sheet_13 : decode cX12_sheet 13 = .ok (.ldc2_w 125, 3) := by decide +kernel
theorem dX12_sheet_16 : decode cX12_sheet 16 = .ok (.invokestatic 116, 3) := by decide +kernel
theorem dX12_sheet_19 : decode cX12_sheet 19 = .ok (.ifCond .ne 6, 3) := by decide +kernel
theorem dX12_sheet_22 : decode cX12_sheet 22 = .ok (.bipush (-3), 2) := by decide +kernel
theorem dX12_sheet_24 : decode cX12_sheet 24 = .ok (.ireturn, 1) := by decide +kernel
theorem dX12_sheet_25 : decode cX12_sheet 25 = .ok (.aload_n 0, 1) := by decide +kernel
theorem dX12_sheet_26 : decode cX12_sheet 26 = .ok (.iconst 0, 1) := by decide +kernel
theorem dX12_sheet_27 : decode cX12_sheet 27 = .ok (.putfield 253, 3) := by decide +kernel
theorem dX12_sheet_30 : decode cX12_sheet 30 = .ok (.iload_n 1, 1) := by decide +kernel
theorem dX12_sheet_31 : decode cX12_sheet 31 = .ok (.ifCond .ne 56, 3) := by decide +kernel
theorem dX12_sheet_34 : decode cX12_sheet 34 = .ok (.aload_n 0, 1) := by decide +kernel
theorem dX12_sheet_35 : decode cX12_sheet 35 = .ok (.iconst 0, 1) := by decide +kernel
theorem dX12_sheet_36 : decode cX12_sheet 36 = .ok (.invokevirtual 227, 3) := by decide +kernel
theorem dX12_sheet_39 : decode cX12_sheet 39 = .ok (.istore_n 2, 1) := by decide +kernel
theorem dX12_sheet_40 : decode cX12_sheet 40 = .ok (.iload_n 2, 1) := by decide +kernel
theorem dX12_sheet_41 : decode cX12_sheet 41 = .ok (.iconst (-1), 1) := by decide +kernel
theorem dX12_sheet_42 : decode cX12_sheet 42 = .ok (.if_icmp .eq 42, 3) := by decide +kernel
theorem dX12_sheet_45 : decode cX12_sheet 45 = .ok (.aload_n 0, 1) := by decide +kernel
theorem dX12_sheet_46 : decode cX12_sheet 46 = .ok (.getfield 23, 3) := by decide +kernel
theorem dX12_sheet_49 : decode cX12_sheet 49 = .ok (.iload_n 2, 1) := by decide +kernel
theorem dX12_sheet_50 : decode cX12_sheet 50 = .ok (.baload, 1) := by decide +kernel
theorem dX12_sheet_51 : decode cX12_sheet 51 = .ok (.ifCond .ne 19, 3) := by decide +kernel
theorem dX12_sheet_54 : decode cX12_sheet 54 = .ok (.aload_n 0, 1) := by decide +kernel
theorem dX12_sheet_55 : decode cX12_sheet 55 = .ok (.getfield 33, 3) := by decide +kernel
theorem dX12_sheet_58 : decode cX12_sheet 58 = .ok (.iload_n 2, 1) := by decide +kernel
theorem dX12_sheet_59 : decode cX12_sheet 59 = .ok (.laload, 1) := by decide +kernel
theorem dX12_sheet_60 : decode cX12_sheet 60 = .ok (.lconst 0, 1) := by decide +kernel
theorem dX12_sheet_61 : decode cX12_sheet 61 = .ok (.lcmp, 1) := by decide +kernel
theorem dX12_sheet_62 : decode cX12_sheet 62 = .ok (.ifCond .eq 8, 3) := by decide +kernel
theorem dX12_sheet_65 : decode cX12_sheet 65 = .ok (.aload_n 0, 1) := by decide +kernel
theorem dX12_sheet_66 : decode cX12_sheet 66 = .ok (.iload_n 2, 1) := by decide +kernel
theorem dX12_sheet_67 : decode cX12_sheet 67 = .ok (.invokevirtual 332, 3) := by decide +kernel
theorem dX12_sheet_70 : decode cX12_sheet 70 = .ok (.aload_n 0, 1) := by decide +kernel
theorem dX12_sheet_71 : decode cX12_sheet 71 = .ok (.aload_n 0, 1) := by decide +kernel
theorem dX12_sheet_72 : decode cX12_sheet 72 = .ok (.getfield 13, 3) := by decide +kernel
theorem dX12_sheet_75 : decode cX12_sheet 75 = .ok (.iload_n 2, 1) := by decide +kernel
theorem dX12_sheet_76 : decode cX12_sheet 76 = .ok (.iaload, 1) := by decide +kernel
theorem dX12_sheet_77 : decode cX12_sheet 77 = .ok (.invokevirtual 227, 3) := by decide +kernel
theorem dX12_sheet_80 : decode cX12_sheet 80 = .ok (.istore_n 2, 1) := by decide +kernel
theorem dX12_sheet_81 : decode cX12_sheet 81 = .ok (.goto (-41), 3) := by decide +kernel
theorem dX12_sheet_84 : decode cX12_sheet 84 = .ok (.goto 57, 3) := by decide +kernel
theorem dX12_sheet_87 : decode cX12_sheet 87 = .ok (.iload_n 1, 1) := by decide +kernel
theorem dX12_sheet_88 : decode cX12_sheet 88 = .ok (.iconst 1, 1) := by decide +kernel
theorem dX12_sheet_89 : decode cX12_sheet 89 = .ok (.if_icmp .ne 10, 3) := by decide +kernel
theorem dX12_sheet_92 : decode cX12_sheet 92 = .ok (.aload_n 0, 1) := by decide +kernel
theorem dX12_sheet_93 : decode cX12_sheet 93 = .ok (.invokevirtual 338, 3) := by decide +kernel
theorem dX12_sheet_96 : decode cX12_sheet 96 = .ok (.goto 45, 3) := by decide +kernel
theorem dX12_sheet_99 : decode cX12_sheet 99 = .ok (.aload_n 0, 1) := by decide +kernel
theorem dX12_sheet_100 : decode cX12_sheet 100 = .ok (.bipush 65, 2) := by decide +kernel
theorem dX12_sheet_102 : decode cX12_sheet 102 = .ok (.iconst 0, 1) := by decide +kernel
theorem dX12_sheet_103 : decode cX12_sheet 103 = .ok (.invokevirtual 341, 3) := by decide +kernel
theorem dX12_sheet_106 : decode cX12_sheet 106 = .ok (.aload_n 0, 1) := by decide +kernel
theorem dX12_sheet_107 : decode cX12_sheet 107 = .ok (.bipush 68, 2) := by decide +kernel
theorem dX12_sheet_109 : decode cX12_sheet 109 = .ok (.iconst 1, 1) := by decide +kernel
theorem dX12_sheet_110 : decode cX12_sheet 110 = .ok (.invokevirtual 341, 3) := by decide +kernel
theorem dX12_sheet_113 : decode cX12_sheet 113 = .ok (.aload_n 0, 1) := by decide +kernel
theorem dX12_sheet_114 : decode cX12_sheet 114 = .ok (.bipush 79, 2) := by decide +kernel
theorem dX12_sheet_116 : decode cX12_sheet 116 = .ok (.iconst 2, 1) := by decide +kernel
theorem dX12_sheet_117 : decode cX12_sheet 117 = .ok (.invokevirtual 341, 3) := by decide +kernel
theorem dX12_sheet_120 : decode cX12_sheet 120 = .ok (.aload_n 0, 1) := by decide +kernel
theorem dX12_sheet_121 : decode cX12_sheet 121 = .ok (.bipush 73, 2) := by decide +kernel
theorem dX12_sheet_123 : decode cX12_sheet 123 = .ok (.iconst 3, 1) := by decide +kernel
theorem dX12_sheet_124 : decode cX12_sheet 124 = .ok (.invokevirtual 341, 3) := by decide +kernel
theorem dX12_sheet_127 : decode cX12_sheet 127 = .ok (.aload_n 0, 1) := by decide +kernel
theorem dX12_sheet_128 : decode cX12_sheet 128 = .ok (.bipush 67, 2) := by decide +kernel
theorem dX12_sheet_130 : decode cX12_sheet 130 = .ok (.iconst 4, 1) := by decide +kernel
theorem dX12_sheet_131 : decode cX12_sheet 131 = .ok (.invokevirtual 341, 3) := by decide +kernel
theorem dX12_sheet_134 : decode cX12_sheet 134 = .ok (.aload_n 0, 1) := by decide +kernel
theorem dX12_sheet_135 : decode cX12_sheet 135 = .ok (.bipush 61, 2) := by decide +kernel
theorem dX12_sheet_137 : decode cX12_sheet 137 = .ok (.iconst (-1), 1) := by decide +kernel
theorem dX12_sheet_138 : decode cX12_sheet 138 = .ok (.invokevirtual 341, 3) := by decide +kernel
theorem dX12_sheet_141 : decode cX12_sheet 141 = .ok (.aload_n 0, 1) := by decide +kernel
theorem dX12_sheet_142 : decode cX12_sheet 142 = .ok (.getfield 253, 3) := by decide +kernel
theorem dX12_sheet_145 : decode cX12_sheet 145 = .ok (.sipush 4000, 3) := by decide +kernel
theorem dX12_sheet_148 : decode cX12_sheet 148 = .ok (.if_icmp .le 11, 3) := by decide +kernel
theorem dX12_sheet_151 : decode cX12_sheet 151 = .ok (.aload_n 0, 1) := by decide +kernel
theorem dX12_sheet_152 : decode cX12_sheet 152 = .ok (.iconst 0, 1) := by decide +kernel
theorem dX12_sheet_153 : decode cX12_sheet 153 = .ok (.putfield 253, 3) := by decide +kernel
theorem dX12_sheet_156 : decode cX12_sheet 156 = .ok (.bipush (-13), 2) := by decide +kernel
theorem dX12_sheet_158 : decode cX12_sheet 158 = .ok (.ireturn, 1) := by decide +kernel
theorem dX12_sheet_159 : decode cX12_sheet 159 = .ok (.aload_n 0, 1) := by decide +kernel
theorem dX12_sheet_160 : decode cX12_sheet 160 = .ok (.getfield 253, 3) := by decide +kernel
theorem dX12_sheet_163 : decode cX12_sheet 163 = .ok (.ireturn, 1) := by decide +kernel
theorem dX12_shown_0 : decode cX12_shown 0 = .ok (.aload_n 0, 1) := by decide +kernel
theorem dX12_shown_1 : decode cX12_shown 1 = .ok (.getfield 7, 3) := by decide +kernel
theorem dX12_shown_4 : decode cX12_shown 4 = .ok (.ifCond .ne 6, 3) := by decide +kernel
theorem dX12_shown_7 : decode cX12_shown 7 = .ok (.bipush (-6), 2) := by decide +kernel
theorem dX12_shown_9 : decode cX12_shown 9 = .ok (.ireturn, 1) := by decide +kernel
theorem dX12_shown_10 : decode cX12_shown 10 = .ok (.iload_n 1, 1) := by decide +kernel
theorem dX12_shown_11 : decode cX12_shown 11 = .ok (.i2l, 1) := by decide +kernel
theorem dX12_shown_12 : decode cX12_shown 12 = .ok (.lconst 0, 1) := by decide +kernel
theorem dX12_shown_13 : decode cX12_shown 13 = .ok (.aload_n 0, 1) := by decide +kernel
theorem dX12_shown_14 : decode cX12_shown 14 = .ok (.getfield 253, 3) := by decide +kernel
theorem dX12_shown_17 : decode cX12_shown 17 = .ok (.iconst 1, 1) := by decide +kernel
theorem dX12_shown_18 : decode cX12_shown 18 = .ok (.isub, 1) := by decide +kernel
theorem dX12_shown_19 : decode cX12_shown 19 = .ok (.i2l, 1) := by decide +kernel
theorem dX12_shown_20 : decode cX12_shown 20 = .ok (.invokestatic 116, 3) := by decide +kernel
theorem dX12_shown_23 : decode cX12_shown 23 = .ok (.ifCond .eq 12, 3) := by decide +kernel
theorem dX12_shown_26 : decode cX12_shown 26 = .ok (.aload_n 0, 1) := by decide +kernel
theorem dX12_shown_27 : decode cX12_shown 27 = .ok (.getfield 89, 3) := by decide +kernel
theorem dX12_shown_30 : decode cX12_shown 30 = .ok (.iload_n 1, 1) := by decide +kernel
theorem dX12_shown_31 : decode cX12_shown 31 = .ok (.iaload, 1) := by decide +kernel
theorem dX12_shown_32 : decode cX12_shown 32 = .ok (.goto 5, 3) := by decide +kernel
theorem dX12_shown_35 : decode cX12_shown 35 = .ok (.bipush (-2), 2) := by decide +kernel
theorem dX12_shown_37 : decode cX12_shown 37 = .ok (.ireturn, 1) := by decide +kernel
theorem dX12_count_0 : decode cX12_count 0 = .ok (.iload_n 1, 1) := by decide +kernel
theorem dX12_count_1 : decode cX12_count 1 = .ok (.i2l, 1) := by decide +kernel
theorem dX12_count_2 : decode cX12_count 2 = .ok (.ldc2_w 344, 3) := by decide +kernel
theorem dX12_count_5 : decode cX12_count 5 = .ok (.ldc2_w 346, 3) := by decide +kernel
theorem dX12_count_8 : decode cX12_count 8 = .ok (.invokestatic 116, 3) := by decide +kernel
theorem dX12_count_11 : decode cX12_count 11 = .ok (.ifCond .ne 17, 3) := by decide +kernel
theorem dX12_count_14 : decode cX12_count 14 = .ok (.iload_n 1, 1) := by decide +kernel
theorem dX12_count_15 : decode cX12_count 15 = .ok (.i2l, 1) := by decide +kernel
theorem dX12_count_16 : decode cX12_count 16 = .ok (.ldc2_w 348, 3) := by decide +kernel
theorem dX12_count_19 : decode cX12_count 19 = .ok (.ldc2_w 327, 3) := by decide +kernel
theorem dX12_count_22 : decode cX12_count 22 = .ok (.invokestatic 116, 3) := by decide +kernel
theorem dX12_count_25 : decode cX12_count 25 = .ok (.ifCond .eq 7, 3) := by decide +kernel
theorem dX12_count_28 : decode cX12_count 28 = .ok (.iconst 1, 1) := by decide +kernel
theorem dX12_count_29 : decode cX12_count 29 = .ok (.goto 4, 3) := by decide +kernel
theorem dX12_count_32 : decode cX12_count 32 = .ok (.iconst 0, 1) := by decide +kernel
theorem dX12_count_33 : decode cX12_count 33 = .ok (.istore_n 2, 1) := by decide +kernel
theorem dX12_count_34 : decode cX12_count 34 = .ok (.iload_n 1, 1) := by decide +kernel
theorem dX12_count_35 : decode cX12_count 35 = .ok (.i2l, 1) := by decide +kernel
theorem dX12_count_36 : decode cX12_count 36 = .ok (.lconst 0, 1) := by decide +kernel
theorem dX12_count_37 : decode cX12_count 37 = .ok (.ldc2_w 327, 3) := by decide +kernel
theorem dX12_count_40 : decode cX12_count 40 = .ok (.invokestatic 116, 3) := by decide +kernel
theorem dX12_count_43 : decode cX12_count 43 = .ok (.ifCond .ne 6, 3) := by decide +kernel
theorem dX12_count_46 : decode cX12_count 46 = .ok (.bipush (-3), 2) := by decide +kernel
theorem dX12_count_48 : decode cX12_count 48 = .ok (.ireturn, 1) := by decide +kernel
theorem dX12_count_49 : decode cX12_count 49 = .ok (.aload_n 0, 1) := by decide +kernel
theorem dX12_count_50 : decode cX12_count 50 = .ok (.getfield 7, 3) := by decide +kernel
theorem dX12_count_53 : decode cX12_count 53 = .ok (.ifCond .ne 10, 3) := by decide +kernel
theorem dX12_count_56 : decode cX12_count 56 = .ok (.iload_n 2, 1) := by decide +kernel
theorem dX12_count_57 : decode cX12_count 57 = .ok (.ifCond .ne 6, 3) := by decide +kernel
theorem dX12_count_60 : decode cX12_count 60 = .ok (.bipush (-6), 2) := by decide +kernel
theorem dX12_count_62 : decode cX12_count 62 = .ok (.ireturn, 1) := by decide +kernel
theorem dX12_count_63 : decode cX12_count 63 = .ok (.iload_n 1, 1) := by decide +kernel
theorem dX12_count_64 : decode cX12_count 64 = .ok (.tableswitch 106 0 9 #[56, 61, 66, 71, 76, 81, 86, 91, 96, 101], 56) := by decide +kernel
theorem dX12_count_120 : decode cX12_count 120 = .ok (.aload_n 0, 1) := by decide +kernel
theorem dX12_count_121 : decode cX12_count 121 = .ok (.getfield 113, 3) := by decide +kernel
theorem dX12_count_124 : decode cX12_count 124 = .ok (.ireturn, 1) := by decide +kernel
theorem dX12_count_125 : decode cX12_count 125 = .ok (.aload_n 0, 1) := by decide +kernel
theorem dX12_count_126 : decode cX12_count 126 = .ok (.getfield 173, 3) := by decide +kernel
theorem dX12_count_129 : decode cX12_count 129 = .ok (.ireturn, 1) := by decide +kernel
theorem dX12_count_130 : decode cX12_count 130 = .ok (.aload_n 0, 1) := by decide +kernel
theorem dX12_count_131 : decode cX12_count 131 = .ok (.getfield 197, 3) := by decide +kernel
theorem dX12_count_134 : decode cX12_count 134 = .ok (.ireturn, 1) := by decide +kernel
theorem dX12_count_135 : decode cX12_count 135 = .ok (.aload_n 0, 1) := by decide +kernel
theorem dX12_count_136 : decode cX12_count 136 = .ok (.getfield 203, 3) := by decide +kernel
theorem dX12_count_139 : decode cX12_count 139 = .ok (.ireturn, 1) := by decide +kernel
theorem dX12_count_140 : decode cX12_count 140 = .ok (.aload_n 0, 1) := by decide +kernel
theorem dX12_count_141 : decode cX12_count 141 = .ok (.getfield 184, 3) := by decide +kernel
theorem dX12_count_144 : decode cX12_count 144 = .ok (.ireturn, 1) := by decide +kernel
theorem dX12_count_145 : decode cX12_count 145 = .ok (.aload_n 0, 1) := by decide +kernel
theorem dX12_count_146 : decode cX12_count 146 = .ok (.getfield 132, 3) := by decide +kernel
theorem dX12_count_149 : decode cX12_count 149 = .ok (.ireturn, 1) := by decide +kernel
theorem dX12_count_150 : decode cX12_count 150 = .ok (.aload_n 0, 1) := by decide +kernel
theorem dX12_count_151 : decode cX12_count 151 = .ok (.getfield 248, 3) := by decide +kernel
theorem dX12_count_154 : decode cX12_count 154 = .ok (.ireturn, 1) := by decide +kernel
theorem dX12_count_155 : decode cX12_count 155 = .ok (.aload_n 0, 1) := by decide +kernel
theorem dX12_count_156 : decode cX12_count 156 = .ok (.getfield 137, 3) := by decide +kernel
theorem dX12_count_159 : decode cX12_count 159 = .ok (.ireturn, 1) := by decide +kernel
theorem dX12_count_160 : decode cX12_count 160 = .ok (.aload_n 0, 1) := by decide +kernel
theorem dX12_count_161 : decode cX12_count 161 = .ok (.getfield 37, 3) := by decide +kernel
theorem dX12_count_164 : decode cX12_count 164 = .ok (.ireturn, 1) := by decide +kernel
theorem dX12_count_165 : decode cX12_count 165 = .ok (.aload_n 0, 1) := by decide +kernel
theorem dX12_count_166 : decode cX12_count 166 = .ok (.getfield 253, 3) := by decide +kernel
theorem dX12_count_169 : decode cX12_count 169 = .ok (.ireturn, 1) := by decide +kernel
theorem dX12_count_170 : decode cX12_count 170 = .ok (.aload_n 0, 1) := by decide +kernel
theorem dX12_count_171 : decode cX12_count 171 = .ok (.getfield 7, 3) := by decide +kernel
theorem dX12_count_174 : decode cX12_count 174 = .ok (.ifCond .eq 7, 3) := by decide +kernel
theorem dX12_count_177 : decode cX12_count 177 = .ok (.iconst 1, 1) := by decide +kernel
theorem dX12_count_178 : decode cX12_count 178 = .ok (.goto 4, 3) := by decide +kernel
theorem dX12_count_181 : decode cX12_count 181 = .ok (.iconst 0, 1) := by decide +kernel
theorem dX12_count_182 : decode cX12_count 182 = .ok (.ireturn, 1) := by decide +kernel
theorem dJ9_abs_067f4_0 : decode cJ9_abs_067f4 0 = .ok (.lload_n 0, 1) := by decide +kernel
theorem dJ9_abs_067f4_1 : decode cJ9_abs_067f4 1 = .ok (.lconst 0, 1) := by decide +kernel
theorem dJ9_abs_067f4_2 : decode cJ9_abs_067f4 2 = .ok (.lcmp, 1) := by decide +kernel
theorem dJ9_abs_067f4_3 : decode cJ9_abs_067f4 3 = .ok (.ifCond .ge 8, 3) := by decide +kernel
theorem dJ9_abs_067f4_6 : decode cJ9_abs_067f4 6 = .ok (.lload_n 0, 1) := by decide +kernel
theorem dJ9_abs_067f4_7 : decode cJ9_abs_067f4 7 = .ok (.lneg, 1) := by decide +kernel
theorem dJ9_abs_067f4_8 : decode cJ9_abs_067f4 8 = .ok (.goto 4, 3) := by decide +kernel
theorem dJ9_abs_067f4_11 : decode cJ9_abs_067f4 11 = .ok (.lload_n 0, 1) := by decide +kernel
theorem dJ9_abs_067f4_12 : decode cJ9_abs_067f4 12 = .ok (.lreturn, 1) := by decide +kernel
theorem dJ9_max_7cf53_0 : decode cJ9_max_7cf53 0 = .ok (.iload_n 0, 1) := by decide +kernel
theorem dJ9_max_7cf53_1 : decode cJ9_max_7cf53 1 = .ok (.iload_n 1, 1) := by decide +kernel
theorem dJ9_max_7cf53_2 : decode cJ9_max_7cf53 2 = .ok (.if_icmp .lt 7, 3) := by decide +kernel
theorem dJ9_max_7cf53_5 : decode cJ9_max_7cf53 5 = .ok (.iload_n 0, 1) := by decide +kernel
theorem dJ9_max_7cf53_6 : decode cJ9_max_7cf53 6 = .ok (.goto 4, 3) := by decide +kernel
theorem dJ9_max_7cf53_9 : decode cJ9_max_7cf53 9 = .ok (.iload_n 1, 1) := by decide +kernel
theorem dJ9_max_7cf53_10 : decode cJ9_max_7cf53 10 = .ok (.ireturn, 1) := by decide +kernel
theorem dJ9_min_7cf53_0 : decode cJ9_min_7cf53 0 = .ok (.iload_n 0, 1) := by decide +kernel
theorem dJ9_min_7cf53_1 : decode cJ9_min_7cf53 1 = .ok (.iload_n 1, 1) := by decide +kernel
theorem dJ9_min_7cf53_2 : decode cJ9_min_7cf53 2 = .ok (.if_icmp .gt 7, 3) := by decide +kernel
theorem dJ9_min_7cf53_5 : decode cJ9_min_7cf53 5 = .ok (.iload_n 0, 1) := by decide +kernel
theorem dJ9_min_7cf53_6 : decode cJ9_min_7cf53 6 = .ok (.goto 4, 3) := by decide +kernel
theorem dJ9_min_7cf53_9 : decode cJ9_min_7cf53 9 = .ok (.iload_n 1, 1) := by decide +kernel
theorem dJ9_min_7cf53_10 : decode cJ9_min_7cf53 10 = .ok (.ireturn, 1) := by decide +kernel
theorem dJ7_fill_d0a16_0 : decode cJ7_fill_d0a16 0 = .ok (.iconst 0, 1) := by decide +kernel
theorem dJ7_fill_d0a16_1 : decode cJ7_fill_d0a16 1 = .ok (.istore_n 3, 1) := by decide +kernel
theorem dJ7_fill_d0a16_2 : decode cJ7_fill_d0a16 2 = .ok (.aload_n 0, 1) := by decide +kernel
theorem dJ7_fill_d0a16_3 : decode cJ7_fill_d0a16 3 = .ok (.arraylength, 1) := by decide +kernel
theorem dJ7_fill_d0a16_4 : decode cJ7_fill_d0a16 4 = .ok (.istore 4, 2) := by decide +kernel
theorem dJ7_fill_d0a16_6 : decode cJ7_fill_d0a16 6 = .ok (.iload_n 3, 1) := by decide +kernel
theorem dJ7_fill_d0a16_7 : decode cJ7_fill_d0a16 7 = .ok (.iload 4, 2) := by decide +kernel
theorem dJ7_fill_d0a16_9 : decode cJ7_fill_d0a16 9 = .ok (.if_icmp .ge 13, 3) := by decide +kernel
theorem dJ7_fill_d0a16_12 : decode cJ7_fill_d0a16 12 = .ok (.aload_n 0, 1) := by decide +kernel
theorem dJ7_fill_d0a16_13 : decode cJ7_fill_d0a16 13 = .ok (.iload_n 3, 1) := by decide +kernel
theorem dJ7_fill_d0a16_14 : decode cJ7_fill_d0a16 14 = .ok (.lload_n 1, 1) := by decide +kernel
theorem dJ7_fill_d0a16_15 : decode cJ7_fill_d0a16 15 = .ok (.lastore, 1) := by decide +kernel
theorem dJ7_fill_d0a16_16 : decode cJ7_fill_d0a16 16 = .ok (.iinc 3 1, 3) := by decide +kernel
theorem dJ7_fill_d0a16_19 : decode cJ7_fill_d0a16 19 = .ok (.goto (-13), 3) := by decide +kernel
theorem dJ7_fill_d0a16_22 : decode cJ7_fill_d0a16 22 = .ok (.return_, 1) := by decide +kernel
theorem dJ7_copyOf_59c91_0 : decode cJ7_copyOf_59c91 0 = .ok (.iload_n 1, 1) := by decide +kernel
theorem dJ7_copyOf_59c91_1 : decode cJ7_copyOf_59c91 1 = .ok (.aload_n 0, 1) := by decide +kernel
theorem dJ7_copyOf_59c91_2 : decode cJ7_copyOf_59c91 2 = .ok (.arraylength, 1) := by decide +kernel
theorem dJ7_copyOf_59c91_3 : decode cJ7_copyOf_59c91 3 = .ok (.if_icmp .ne 11, 3) := by decide +kernel
theorem dJ7_copyOf_59c91_6 : decode cJ7_copyOf_59c91 6 = .ok (.aload_n 0, 1) := by decide +kernel
theorem dJ7_copyOf_59c91_7 : decode cJ7_copyOf_59c91 7 = .ok (.invokevirtual 316, 3) := by decide +kernel
theorem dJ7_copyOf_59c91_10 : decode cJ7_copyOf_59c91 10 = .ok (.checkcast 317, 3) := by decide +kernel
theorem dJ7_copyOf_59c91_13 : decode cJ7_copyOf_59c91 13 = .ok (.areturn, 1) := by decide +kernel
theorem dJ7_copyOf_59c91_14 : decode cJ7_copyOf_59c91 14 = .ok (.iload_n 1, 1) := by decide +kernel
theorem dJ7_copyOf_59c91_15 : decode cJ7_copyOf_59c91 15 = .ok (.newarray .int, 2) := by decide +kernel
theorem dJ7_copyOf_59c91_17 : decode cJ7_copyOf_59c91 17 = .ok (.astore_n 2, 1) := by decide +kernel
theorem dJ7_copyOf_59c91_18 : decode cJ7_copyOf_59c91 18 = .ok (.aload_n 0, 1) := by decide +kernel
theorem dJ7_copyOf_59c91_19 : decode cJ7_copyOf_59c91 19 = .ok (.iconst 0, 1) := by decide +kernel
theorem dJ7_copyOf_59c91_20 : decode cJ7_copyOf_59c91 20 = .ok (.aload_n 2, 1) := by decide +kernel
theorem dJ7_copyOf_59c91_21 : decode cJ7_copyOf_59c91 21 = .ok (.iconst 0, 1) := by decide +kernel
theorem dJ7_copyOf_59c91_22 : decode cJ7_copyOf_59c91 22 = .ok (.aload_n 0, 1) := by decide +kernel
theorem dJ7_copyOf_59c91_23 : decode cJ7_copyOf_59c91 23 = .ok (.arraylength, 1) := by decide +kernel
theorem dJ7_copyOf_59c91_24 : decode cJ7_copyOf_59c91 24 = .ok (.iload_n 1, 1) := by decide +kernel
theorem dJ7_copyOf_59c91_25 : decode cJ7_copyOf_59c91 25 = .ok (.invokestatic 304, 3) := by decide +kernel
theorem dJ7_copyOf_59c91_28 : decode cJ7_copyOf_59c91 28 = .ok (.invokestatic 150, 3) := by decide +kernel
theorem dJ7_copyOf_59c91_31 : decode cJ7_copyOf_59c91 31 = .ok (.aload_n 2, 1) := by decide +kernel
theorem dJ7_copyOf_59c91_32 : decode cJ7_copyOf_59c91 32 = .ok (.areturn, 1) := by decide +kernel
theorem dJ7_copyOf_c38d5_0 : decode cJ7_copyOf_c38d5 0 = .ok (.iload_n 1, 1) := by decide +kernel
theorem dJ7_copyOf_c38d5_1 : decode cJ7_copyOf_c38d5 1 = .ok (.aload_n 0, 1) := by decide +kernel
theorem dJ7_copyOf_c38d5_2 : decode cJ7_copyOf_c38d5 2 = .ok (.arraylength, 1) := by decide +kernel
theorem dJ7_copyOf_c38d5_3 : decode cJ7_copyOf_c38d5 3 = .ok (.if_icmp .ne 11, 3) := by decide +kernel
theorem dJ7_copyOf_c38d5_6 : decode cJ7_copyOf_c38d5 6 = .ok (.aload_n 0, 1) := by decide +kernel
theorem dJ7_copyOf_c38d5_7 : decode cJ7_copyOf_c38d5 7 = .ok (.invokevirtual 319, 3) := by decide +kernel
theorem dJ7_copyOf_c38d5_10 : decode cJ7_copyOf_c38d5 10 = .ok (.checkcast 320, 3) := by decide +kernel
theorem dJ7_copyOf_c38d5_13 : decode cJ7_copyOf_c38d5 13 = .ok (.areturn, 1) := by decide +kernel
theorem dJ7_copyOf_c38d5_14 : decode cJ7_copyOf_c38d5 14 = .ok (.iload_n 1, 1) := by decide +kernel
theorem dJ7_copyOf_c38d5_15 : decode cJ7_copyOf_c38d5 15 = .ok (.newarray .long, 2) := by decide +kernel
theorem dJ7_copyOf_c38d5_17 : decode cJ7_copyOf_c38d5 17 = .ok (.astore_n 2, 1) := by decide +kernel
theorem dJ7_copyOf_c38d5_18 : decode cJ7_copyOf_c38d5 18 = .ok (.aload_n 0, 1) := by decide +kernel
theorem dJ7_copyOf_c38d5_19 : decode cJ7_copyOf_c38d5 19 = .ok (.iconst 0, 1) := by decide +kernel
theorem dJ7_copyOf_c38d5_20 : decode cJ7_copyOf_c38d5 20 = .ok (.aload_n 2, 1) := by decide +kernel
theorem dJ7_copyOf_c38d5_21 : decode cJ7_copyOf_c38d5 21 = .ok (.iconst 0, 1) := by decide +kernel
theorem dJ7_copyOf_c38d5_22 : decode cJ7_copyOf_c38d5 22 = .ok (.aload_n 0, 1) := by decide +kernel
theorem dJ7_copyOf_c38d5_23 : decode cJ7_copyOf_c38d5 23 = .ok (.arraylength, 1) := by decide +kernel
theorem dJ7_copyOf_c38d5_24 : decode cJ7_copyOf_c38d5 24 = .ok (.iload_n 1, 1) := by decide +kernel
theorem dJ7_copyOf_c38d5_25 : decode cJ7_copyOf_c38d5 25 = .ok (.invokestatic 304, 3) := by decide +kernel
theorem dJ7_copyOf_c38d5_28 : decode cJ7_copyOf_c38d5 28 = .ok (.invokestatic 150, 3) := by decide +kernel
theorem dJ7_copyOf_c38d5_31 : decode cJ7_copyOf_c38d5 31 = .ok (.aload_n 2, 1) := by decide +kernel
theorem dJ7_copyOf_c38d5_32 : decode cJ7_copyOf_c38d5 32 = .ok (.areturn, 1) := by decide +kernel
theorem dL_law_0 : decode cL_law 0 = .ok (.new 7, 3) := by decide +kernel
theorem dL_law_3 : decode cL_law 3 = .ok (.dup, 1) := by decide +kernel
theorem dL_law_4 : decode cL_law 4 = .ok (.invokespecial 9, 3) := by decide +kernel
theorem dL_law_7 : decode cL_law 7 = .ok (.astore_n 1, 1) := by decide +kernel
theorem dL_law_8 : decode cL_law 8 = .ok (.new 10, 3) := by decide +kernel
theorem dL_law_11 : decode cL_law 11 = .ok (.dup, 1) := by decide +kernel
theorem dL_law_12 : decode cL_law 12 = .ok (.invokespecial 12, 3) := by decide +kernel
theorem dL_law_15 : decode cL_law 15 = .ok (.astore_n 2, 1) := by decide +kernel
theorem dL_law_16 : decode cL_law 16 = .ok (.iconst 0, 1) := by decide +kernel
theorem dL_law_17 : decode cL_law 17 = .ok (.istore_n 3, 1) := by decide +kernel
theorem dL_law_18 : decode cL_law 18 = .ok (.iload_n 3, 1) := by decide +kernel
theorem dL_law_19 : decode cL_law 19 = .ok (.aload_n 0, 1) := by decide +kernel
theorem dL_law_20 : decode cL_law 20 = .ok (.arraylength, 1) := by decide +kernel
theorem dL_law_21 : decode cL_law 21 = .ok (.bipush 8, 2) := by decide +kernel
theorem dL_law_23 : decode cL_law 23 = .ok (.isub, 1) := by decide +kernel
theorem dL_law_24 : decode cL_law 24 = .ok (.if_icmp .gt 1063, 3) := by decide +kernel
theorem dL_law_27 : decode cL_law 27 = .ok (.aload_n 0, 1) := by decide +kernel
theorem dL_law_28 : decode cL_law 28 = .ok (.iload_n 3, 1) := by decide +kernel
theorem dL_law_29 : decode cL_law 29 = .ok (.iaload, 1) := by decide +kernel
theorem dL_law_30 : decode cL_law 30 = .ok (.bipush 31, 2) := by decide +kernel
theorem dL_law_32 : decode cL_law 32 = .ok (.iand, 1) := by decide +kernel
theorem dL_law_33 : decode cL_law 33 = .ok (.tableswitch 1048 0 25 #[119, 188, 237, 260, 283, 346, 359, 392, 425, 438, 451, 534, 547, 580, 593, 616, 649, 673, 717, 750, 794, 838, 871, 894, 917, 1025], 119) := by decide +kernel
theorem dL_law_152 : decode cL_law 152 = .ok (.aload_n 1, 1) := by decide +kernel
theorem dL_law_153 : decode cL_law 153 = .ok (.aload_n 0, 1) := by decide +kernel
theorem dL_law_154 : decode cL_law 154 = .ok (.iload_n 3, 1) := by decide +kernel
theorem dL_law_155 : decode cL_law 155 = .ok (.iconst 1, 1) := by decide +kernel
theorem dL_law_156 : decode cL_law 156 = .ok (.iadd, 1) := by decide +kernel
theorem dL_law_157 : decode cL_law 157 = .ok (.iaload, 1) := by decide +kernel
theorem dL_law_158 : decode cL_law 158 = .ok (.aload_n 0, 1) := by decide +kernel
theorem dL_law_159 : decode cL_law 159 = .ok (.iload_n 3, 1) := by decide +kernel
theorem dL_law_160 : decode cL_law 160 = .ok (.iconst 2, 1) := by decide +kernel
theorem dL_law_161 : decode cL_law 161 = .ok (.iadd, 1) := by decide +kernel
theorem dL_law_162 : decode cL_law 162 = .ok (.iaload, 1) := by decide +kernel
theorem dL_law_163 : decode cL_law 163 = .ok (.aload_n 0, 1) := by decide +kernel
theorem dL_law_164 : decode cL_law 164 = .ok (.iload_n 3, 1) := by decide +kernel
theorem dL_law_165 : decode cL_law 165 = .ok (.iconst 3, 1) := by decide +kernel
theorem dL_law_166 : decode cL_law 166 = .ok (.iadd, 1) := by decide +kernel
theorem dL_law_167 : decode cL_law 167 = .ok (.iaload, 1) := by decide +kernel
theorem dL_law_168 : decode cL_law 168 = .ok (.aload_n 0, 1) := by decide +kernel
theorem dL_law_169 : decode cL_law 169 = .ok (.iload_n 3, 1) := by decide +kernel
theorem dL_law_170 : decode cL_law 170 = .ok (.iconst 4, 1) := by decide +kernel
theorem dL_law_171 : decode cL_law 171 = .ok (.iadd, 1) := by decide +kernel
theorem dL_law_172 : decode cL_law 172 = .ok (.iaload, 1) := by decide +kernel
theorem dL_law_173 : decode cL_law 173 = .ok (.ifCond .eq 7, 3) := by decide +kernel
theorem dL_law_176 : decode cL_law 176 = .ok (.iconst 1, 1) := by decide +kernel
theorem dL_law_177 : decode cL_law 177 = .ok (.goto 4, 3) := by decide +kernel
theorem dL_law_180 : decode cL_law 180 = .ok (.iconst 0, 1) := by decide +kernel
theorem dL_law_181 : decode cL_law 181 = .ok (.invokevirtual 13, 3) := by decide +kernel
theorem dL_law_184 : decode cL_law 184 = .ok (.aload_n 2, 1) := by decide +kernel
theorem dL_law_185 : decode cL_law 185 = .ok (.aload_n 0, 1) := by decide +kernel
theorem dL_law_186 : decode cL_law 186 = .ok (.iload_n 3, 1) := by decide +kernel
theorem dL_law_187 : decode cL_law 187 = .ok (.iconst 1, 1) := by decide +kernel
theorem dL_law_188 : decode cL_law 188 = .ok (.iadd, 1) := by decide +kernel
theorem dL_law_189 : decode cL_law 189 = .ok (.iaload, 1) := by decide +kernel
theorem dL_law_190 : decode cL_law 190 = .ok (.aload_n 0, 1) := by decide +kernel
theorem dL_law_191 : decode cL_law 191 = .ok (.iload_n 3, 1) := by decide +kernel
theorem dL_law_192 : decode cL_law 192 = .ok (.iconst 2, 1) := by decide +kernel
theorem dL_law_193 : decode cL_law 193 = .ok (.iadd, 1) := by decide +kernel
theorem dL_law_194 : decode cL_law 194 = .ok (.iaload, 1) := by decide +kernel
theorem dL_law_195 : decode cL_law 195 = .ok (.aload_n 0, 1) := by decide +kernel
theorem dL_law_196 : decode cL_law 196 = .ok (.iload_n 3, 1) := by decide +kernel
theorem dL_law_197 : decode cL_law 197 = .ok (.iconst 3, 1) := by decide +kernel
theorem dL_law_198 : decode cL_law 198 = .ok (.iadd, 1) := by decide +kernel
theorem dL_law_199 : decode cL_law 199 = .ok (.iaload, 1) := by decide +kernel
theorem dL_law_200 : decode cL_law 200 = .ok (.aload_n 0, 1) := by decide +kernel
theorem dL_law_201 : decode cL_law 201 = .ok (.iload_n 3, 1) := by decide +kernel
theorem dL_law_202 : decode cL_law 202 = .ok (.iconst 4, 1) := by decide +kernel
theorem dL_law_203 : decode cL_law 203 = .ok (.iadd, 1) := by decide +kernel
theorem dL_law_204 : decode cL_law 204 = .ok (.iaload, 1) := by decide +kernel
theorem dL_law_205 : decode cL_law 205 = .ok (.ifCond .eq 7, 3) := by decide +kernel
theorem dL_law_208 : decode cL_law 208 = .ok (.iconst 1, 1) := by decide +kernel
theorem dL_law_209 : decode cL_law 209 = .ok (.goto 4, 3) := by decide +kernel
theorem dL_law_212 : decode cL_law 212 = .ok (.iconst 0, 1) := by decide +kernel
theorem dL_law_213 : decode cL_law 213 = .ok (.invokevirtual 17, 3) := by decide +kernel
theorem dL_law_216 : decode cL_law 216 = .ok (.if_icmp .eq 865, 3) := by decide +kernel
theorem dL_law_219 : decode cL_law 219 = .ok (.iconst 0, 1) := by decide +kernel
theorem dL_law_220 : decode cL_law 220 = .ok (.ireturn, 1) := by decide +kernel
theorem dL_law_221 : decode cL_law 221 = .ok (.aload_n 1, 1) := by decide +kernel
theorem dL_law_222 : decode cL_law 222 = .ok (.aload_n 0, 1) := by decide +kernel
theorem dL_law_223 : decode cL_law 223 = .ok (.iload_n 3, 1) := by decide +kernel
theorem dL_law_224 : decode cL_law 224 = .ok (.iconst 1, 1) := by decide +kernel
theorem dL_law_225 : decode cL_law 225 = .ok (.iadd, 1) := by decide +kernel
theorem dL_law_226 : decode cL_law 226 = .ok (.iaload, 1) := by decide +kernel
theorem dL_law_227 : decode cL_law 227 = .ok (.aload_n 0, 1) := by decide +kernel
theorem dL_law_228 : decode cL_law 228 = .ok (.iload_n 3, 1) := by decide +kernel
theorem dL_law_229 : decode cL_law 229 = .ok (.iconst 2, 1) := by decide +kernel
theorem dL_law_230 : decode cL_law 230 = .ok (.iadd, 1) := by decide +kernel
theorem dL_law_231 : decode cL_law 231 = .ok (.iaload, 1) := by decide +kernel
theorem dL_law_232 : decode cL_law 232 = .ok (.ifCond .eq 7, 3) := by decide +kernel
theorem dL_law_235 : decode cL_law 235 = .ok (.iconst 1, 1) := by decide +kernel
theorem dL_law_236 : decode cL_law 236 = .ok (.goto 4, 3) := by decide +kernel
theorem dL_law_239 : decode cL_law 239 = .ok (.iconst 0, 1) := by decide +kernel
theorem dL_law_240 : decode cL_law 240 = .ok (.invokevirtual 18, 3) := by decide +kernel
theorem dL_law_243 : decode cL_law 243 = .ok (.aload_n 2, 1) := by decide +kernel
theorem dL_law_244 : decode cL_law 244 = .ok (.aload_n 0, 1) := by decide +kernel
theorem dL_law_245 : decode cL_law 245 = .ok (.iload_n 3, 1) := by decide +kernel
theorem dL_law_246 : decode cL_law 246 = .ok (.iconst 1, 1) := by decide +kernel
theorem dL_law_247 : decode cL_law 247 = .ok (.iadd, 1) := by decide +kernel
theorem dL_law_248 : decode cL_law 248 = .ok (.iaload, 1) := by decide +kernel
theorem dL_law_249 : decode cL_law 249 = .ok (.aload_n 0, 1) := by decide +kernel
theorem dL_law_250 : decode cL_law 250 = .ok (.iload_n 3, 1) := by decide +kernel
theorem dL_law_251 : decode cL_law 251 = .ok (.iconst 2, 1) := by decide +kernel
theorem dL_law_252 : decode cL_law 252 = .ok (.iadd, 1) := by decide +kernel
theorem dL_law_253 : decode cL_law 253 = .ok (.iaload, 1) := by decide +kernel
theorem dL_law_254 : decode cL_law 254 = .ok (.ifCond .eq 7, 3) := by decide +kernel
theorem dL_law_257 : decode cL_law 257 = .ok (.iconst 1, 1) := by decide +kernel
theorem dL_law_258 : decode cL_law 258 = .ok (.goto 4, 3) := by decide +kernel
theorem dL_law_261 : decode cL_law 261 = .ok (.iconst 0, 1) := by decide +kernel
theorem dL_law_262 : decode cL_law 262 = .ok (.invokevirtual 22, 3) := by decide +kernel
theorem dL_law_265 : decode cL_law 265 = .ok (.if_icmp .eq 816, 3) := by decide +kernel
theorem dL_law_268 : decode cL_law 268 = .ok (.iconst 0, 1) := by decide +kernel
theorem dL_law_269 : decode cL_law 269 = .ok (.ireturn, 1) := by decide +kernel
theorem dL_law_270 : decode cL_law 270 = .ok (.aload_n 1, 1) := by decide +kernel
theorem dL_law_271 : decode cL_law 271 = .ok (.aload_n 0, 1) := by decide +kernel
theorem dL_law_272 : decode cL_law 272 = .ok (.iload_n 3, 1) := by decide +kernel
theorem dL_law_273 : decode cL_law 273 = .ok (.iconst 1, 1) := by decide +kernel
theorem dL_law_274 : decode cL_law 274 = .ok (.iadd, 1) := by decide +kernel
theorem dL_law_275 : decode cL_law 275 = .ok (.iaload, 1) := by decide +kernel
theorem dL_law_276 : decode cL_law 276 = .ok (.invokevirtual 23, 3) := by decide +kernel
theorem dL_law_279 : decode cL_law 279 = .ok (.aload_n 2, 1) := by decide +kernel
theorem dL_law_280 : decode cL_law 280 = .ok (.aload_n 0, 1) := by decide +kernel
theorem dL_law_281 : decode cL_law 281 = .ok (.iload_n 3, 1) := by decide +kernel
theorem dL_law_282 : decode cL_law 282 = .ok (.iconst 1, 1) := by decide +kernel
theorem dL_law_283 : decode cL_law 283 = .ok (.iadd, 1) := by decide +kernel
theorem dL_law_284 : decode cL_law 284 = .ok (.iaload, 1) := by decide +kernel
theorem dL_law_285 : decode cL_law 285 = .ok (.invokevirtual 27, 3) := by decide +kernel
theorem dL_law_288 : decode cL_law 288 = .ok (.if_icmp .eq 793, 3) := by decide +kernel
theorem dL_law_291 : decode cL_law 291 = .ok (.iconst 0, 1) := by decide +kernel
theorem dL_law_292 : decode cL_law 292 = .ok (.ireturn, 1) := by decide +kernel
theorem dL_law_293 : decode cL_law 293 = .ok (.aload_n 1, 1) := by decide +kernel
theorem dL_law_294 : decode cL_law 294 = .ok (.aload_n 0, 1) := by decide +kernel
theorem dL_law_295 : decode cL_law 295 = .ok (.iload_n 3, 1) := by decide +kernel
theorem dL_law_296 : decode cL_law 296 = .ok (.iconst 1, 1) := by decide +kernel
theorem dL_law_297 : decode cL_law 297 = .ok (.iadd, 1) := by decide +kernel
theorem dL_law_298 : decode cL_law 298 = .ok (.iaload, 1) := by decide +kernel
theorem dL_law_299 : decode cL_law 299 = .ok (.invokevirtual 28, 3) := by decide +kernel
theorem dL_law_302 : decode cL_law 302 = .ok (.aload_n 2, 1) := by decide +kernel
theorem dL_law_303 : decode cL_law 303 = .ok (.aload_n 0, 1) := by decide +kernel
theorem dL_law_304 : decode cL_law 304 = .ok (.iload_n 3, 1) := by decide +kernel
theorem dL_law_305 : decode cL_law 305 = .ok (.iconst 1, 1) := by decide +kernel
theorem dL_law_306 : decode cL_law 306 = .ok (.iadd, 1) := by decide +kernel
theorem dL_law_307 : decode cL_law 307 = .ok (.iaload, 1) := by decide +kernel
theorem dL_law_308 : decode cL_law 308 = .ok (.invokevirtual 31, 3) := by decide +kernel
theorem dL_law_311 : decode cL_law 311 = .ok (.if_icmp .eq 770, 3) := by decide +kernel
theorem dL_law_314 : decode cL_law 314 = .ok (.iconst 0, 1) := by decide +kernel
theorem dL_law_315 : decode cL_law 315 = .ok (.ireturn, 1) := by decide +kernel
theorem dL_law_316 : decode cL_law 316 = .ok (.aload_n 1, 1) := by decide +kernel
theorem dL_law_317 : decode cL_law 317 = .ok (.aload_n 0, 1) := by decide +kernel
theorem dL_law_318 : decode cL_law 318 = .ok (.iload_n 3, 1) := by decide +kernel
theorem dL_law_319 : decode cL_law 319 = .ok (.iconst 1, 1) := by decide +kernel
theorem dL_law_320 : decode cL_law 320 = .ok (.iadd, 1) := by decide +kernel
theorem dL_law_321 : decode cL_law 321 = .ok (.iaload, 1) := by decide +kernel
theorem dL_law_322 : decode cL_law 322 = .ok (.aload_n 0, 1) := by decide +kernel
theorem dL_law_323 : decode cL_law 323 = .ok (.iload_n 3, 1) := by decide +kernel
theorem dL_law_324 : decode cL_law 324 = .ok (.iconst 2, 1) := by decide +kernel
theorem dL_law_325 : decode cL_law 325 = .ok (.iadd, 1) := by decide +kernel
theorem dL_law_326 : decode cL_law 326 = .ok (.iaload, 1) := by decide +kernel
theorem dL_law_327 : decode cL_law 327 = .ok (.i2l, 1) := by decide +kernel
theorem dL_law_328 : decode cL_law 328 = .ok (.bipush 32, 2) := by decide +kernel
theorem dL_law_330 : decode cL_law 330 = .ok (.lshl, 1) := by decide +kernel
theorem dL_law_331 : decode cL_law 331 = .ok (.aload_n 0, 1) := by decide +kernel
theorem dL_law_332 : decode cL_law 332 = .ok (.iload_n 3, 1) := by decide +kernel
theorem dL_law_333 : decode cL_law 333 = .ok (.iconst 3, 1) := by decide +kernel
theorem dL_law_334 : decode cL_law 334 = .ok (.iadd, 1) := by decide +kernel
theorem dL_law_335 : decode cL_law 335 = .ok (.iaload, 1) := by decide +kernel
theorem dL_law_336 : decode cL_law 336 = .ok (.i2l, 1) := by decide +kernel
theorem dL_law_337 : decode cL_law 337 = .ok (.ldc2_w 32, 3) := by decide +kernel
theorem dL_law_340 : decode cL_law 340 = .ok (.land, 1) := by decide +kernel
theorem dL_law_341 : decode cL_law 341 = .ok (.lor, 1) := by decide +kernel
theorem dL_law_342 : decode cL_law 342 = .ok (.invokevirtual 34, 3) := by decide +kernel
theorem dL_law_345 : decode cL_law 345 = .ok (.aload_n 2, 1) := by decide +kernel
theorem dL_law_346 : decode cL_law 346 = .ok (.aload_n 0, 1) := by decide +kernel
theorem dL_law_347 : decode cL_law 347 = .ok (.iload_n 3, 1) := by decide +kernel
theorem dL_law_348 : decode cL_law 348 = .ok (.iconst 1, 1) := by decide +kernel
theorem dL_law_349 : decode cL_law 349 = .ok (.iadd, 1) := by decide +kernel
theorem dL_law_350 : decode cL_law 350 = .ok (.iaload, 1) := by decide +kernel
theorem dL_law_351 : decode cL_law 351 = .ok (.aload_n 0, 1) := by decide +kernel
theorem dL_law_352 : decode cL_law 352 = .ok (.iload_n 3, 1) := by decide +kernel
theorem dL_law_353 : decode cL_law 353 = .ok (.iconst 2, 1) := by decide +kernel
theorem dL_law_354 : decode cL_law 354 = .ok (.iadd, 1) := by decide +kernel
theorem dL_law_355 : decode cL_law 355 = .ok (.iaload, 1) := by decide +kernel
theorem dL_law_356 : decode cL_law 356 = .ok (.i2l, 1) := by decide +kernel
theorem dL_law_357 : decode cL_law 357 = .ok (.bipush 32, 2) := by decide +kernel
theorem dL_law_359 : decode cL_law 359 = .ok (.lshl, 1) := by decide +kernel
theorem dL_law_360 : decode cL_law 360 = .ok (.aload_n 0, 1) := by decide +kernel
theorem dL_law_361 : decode cL_law 361 = .ok (.iload_n 3, 1) := by decide +kernel
theorem dL_law_362 : decode cL_law 362 = .ok (.iconst 3, 1) := by decide +kernel
theorem dL_law_363 : decode cL_law 363 = .ok (.iadd, 1) := by decide +kernel
theorem dL_law_364 : decode cL_law 364 = .ok (.iaload, 1) := by decide +kernel
theorem dL_law_365 : decode cL_law 365 = .ok (.i2l, 1) := by decide +kernel
theorem dL_law_366 : decode cL_law 366 = .ok (.ldc2_w 32, 3) := by decide +kernel
theorem dL_law_369 : decode cL_law 369 = .ok (.land, 1) := by decide +kernel
theorem dL_law_370 : decode cL_law 370 = .ok (.lor, 1) := by decide +kernel
theorem dL_law_371 : decode cL_law 371 = .ok (.invokevirtual 38, 3) := by decide +kernel
theorem dL_law_374 : decode cL_law 374 = .ok (.if_icmp .eq 707, 3) := by decide +kernel
theorem dL_law_377 : decode cL_law 377 = .ok (.iconst 0, 1) := by decide +kernel
theorem dL_law_378 : decode cL_law 378 = .ok (.ireturn, 1) := by decide +kernel
theorem dL_law_379 : decode cL_law 379 = .ok (.aload_n 1, 1) := by decide +kernel
theorem dL_law_380 : decode cL_law 380 = .ok (.invokevirtual 39, 3) := by decide +kernel
theorem dL_law_383 : decode cL_law 383 = .ok (.aload_n 2, 1) := by decide +kernel
theorem dL_law_384 : decode cL_law 384 = .ok (.invokevirtual 43, 3) := by decide +kernel
theorem dL_law_387 : decode cL_law 387 = .ok (.if_icmp .eq 694, 3) := by decide +kernel
theorem dL_law_390 : decode cL_law 390 = .ok (.iconst 0, 1) := by decide +kernel
theorem dL_law_391 : decode cL_law 391 = .ok (.ireturn, 1) := by decide +kernel
theorem dL_law_392 : decode cL_law 392 = .ok (.aload_n 1, 1) := by decide +kernel
theorem dL_law_393 : decode cL_law 393 = .ok (.aload_n 0, 1) := by decide +kernel
theorem dL_law_394 : decode cL_law 394 = .ok (.iload_n 3, 1) := by decide +kernel
theorem dL_law_395 : decode cL_law 395 = .ok (.iconst 1, 1) := by decide +kernel
theorem dL_law_396 : decode cL_law 396 = .ok (.iadd, 1) := by decide +kernel
theorem dL_law_397 : decode cL_law 397 = .ok (.iaload, 1) := by decide +kernel
theorem dL_law_398 : decode cL_law 398 = .ok (.aload_n 0, 1) := by decide +kernel
theorem dL_law_399 : decode cL_law 399 = .ok (.iload_n 3, 1) := by decide +kernel
theorem dL_law_400 : decode cL_law 400 = .ok (.iconst 2, 1) := by decide +kernel
theorem dL_law_401 : decode cL_law 401 = .ok (.iadd, 1) := by decide +kernel
theorem dL_law_402 : decode cL_law 402 = .ok (.iaload, 1) := by decide +kernel
theorem dL_law_403 : decode cL_law 403 = .ok (.invokevirtual 44, 3) := by decide +kernel
theorem dL_law_406 : decode cL_law 406 = .ok (.aload_n 2, 1) := by decide +kernel
theorem dL_law_407 : decode cL_law 407 = .ok (.aload_n 0, 1) := by decide +kernel
theorem dL_law_408 : decode cL_law 408 = .ok (.iload_n 3, 1) := by decide +kernel
theorem dL_law_409 : decode cL_law 409 = .ok (.iconst 1, 1) := by decide +kernel
theorem dL_law_410 : decode cL_law 410 = .ok (.iadd, 1) := by decide +kernel
theorem dL_law_411 : decode cL_law 411 = .ok (.iaload, 1) := by decide +kernel
theorem dL_law_412 : decode cL_law 412 = .ok (.aload_n 0, 1) := by decide +kernel
theorem dL_law_413 : decode cL_law 413 = .ok (.iload_n 3, 1) := by decide +kernel
theorem dL_law_414 : decode cL_law 414 = .ok (.iconst 2, 1) := by decide +kernel
theorem dL_law_415 : decode cL_law 415 = .ok (.iadd, 1) := by decide +kernel
theorem dL_law_416 : decode cL_law 416 = .ok (.iaload, 1) := by decide +kernel
theorem dL_law_417 : decode cL_law 417 = .ok (.invokevirtual 48, 3) := by decide +kernel
theorem dL_law_420 : decode cL_law 420 = .ok (.if_icmp .eq 661, 3) := by decide +kernel
theorem dL_law_423 : decode cL_law 423 = .ok (.iconst 0, 1) := by decide +kernel
theorem dL_law_424 : decode cL_law 424 = .ok (.ireturn, 1) := by decide +kernel
theorem dL_law_425 : decode cL_law 425 = .ok (.aload_n 1, 1) := by decide +kernel
theorem dL_law_426 : decode cL_law 426 = .ok (.aload_n 0, 1) := by decide +kernel
theorem dL_law_427 : decode cL_law 427 = .ok (.iload_n 3, 1) := by decide +kernel
theorem dL_law_428 : decode cL_law 428 = .ok (.iconst 1, 1) := by decide +kernel
theorem dL_law_429 : decode cL_law 429 = .ok (.iadd, 1) := by decide +kernel
theorem dL_law_430 : decode cL_law 430 = .ok (.iaload, 1) := by decide +kernel
theorem dL_law_431 : decode cL_law 431 = .ok (.aload_n 0, 1) := by decide +kernel
theorem dL_law_432 : decode cL_law 432 = .ok (.iload_n 3, 1) := by decide +kernel
theorem dL_law_433 : decode cL_law 433 = .ok (.iconst 2, 1) := by decide +kernel
theorem dL_law_434 : decode cL_law 434 = .ok (.iadd, 1) := by decide +kernel
theorem dL_law_435 : decode cL_law 435 = .ok (.iaload, 1) := by decide +kernel
theorem dL_law_436 : decode cL_law 436 = .ok (.invokevirtual 49, 3) := by decide +kernel
theorem dL_law_439 : decode cL_law 439 = .ok (.aload_n 2, 1) := by decide +kernel
theorem dL_law_440 : decode cL_law 440 = .ok (.aload_n 0, 1) := by decide +kernel
theorem dL_law_441 : decode cL_law 441 = .ok (.iload_n 3, 1) := by decide +kernel
theorem dL_law_442 : decode cL_law 442 = .ok (.iconst 1, 1) := by decide +kernel
theorem dL_law_443 : decode cL_law 443 = .ok (.iadd, 1) := by decide +kernel
theorem dL_law_444 : decode cL_law 444 = .ok (.iaload, 1) := by decide +kernel
theorem dL_law_445 : decode cL_law 445 = .ok (.aload_n 0, 1) := by decide +kernel
theorem dL_law_446 : decode cL_law 446 = .ok (.iload_n 3, 1) := by decide +kernel
theorem dL_law_447 : decode cL_law 447 = .ok (.iconst 2, 1) := by decide +kernel
theorem dL_law_448 : decode cL_law 448 = .ok (.iadd, 1) := by decide +kernel
theorem dL_law_449 : decode cL_law 449 = .ok (.iaload, 1) := by decide +kernel
theorem dL_law_450 : decode cL_law 450 = .ok (.invokevirtual 52, 3) := by decide +kernel
theorem dL_law_453 : decode cL_law 453 = .ok (.if_icmp .eq 628, 3) := by decide +kernel
theorem dL_law_456 : decode cL_law 456 = .ok (.iconst 0, 1) := by decide +kernel
theorem dL_law_457 : decode cL_law 457 = .ok (.ireturn, 1) := by decide +kernel
theorem dL_law_458 : decode cL_law 458 = .ok (.aload_n 1, 1) := by decide +kernel
theorem dL_law_459 : decode cL_law 459 = .ok (.invokevirtual 53, 3) := by decide +kernel
theorem dL_law_462 : decode cL_law 462 = .ok (.aload_n 2, 1) := by decide +kernel
theorem dL_law_463 : decode cL_law 463 = .ok (.invokevirtual 56, 3) := by decide +kernel
theorem dL_law_466 : decode cL_law 466 = .ok (.if_icmp .eq 615, 3) := by decide +kernel
theorem dL_law_469 : decode cL_law 469 = .ok (.iconst 0, 1) := by decide +kernel
theorem dL_law_470 : decode cL_law 470 = .ok (.ireturn, 1) := by decide +kernel
theorem dL_law_471 : decode cL_law 471 = .ok (.aload_n 1, 1) := by decide +kernel
theorem dL_law_472 : decode cL_law 472 = .ok (.invokevirtual 57, 3) := by decide +kernel
theorem dL_law_475 : decode cL_law 475 = .ok (.aload_n 2, 1) := by decide +kernel
theorem dL_law_476 : decode cL_law 476 = .ok (.invokevirtual 60, 3) := by decide +kernel
theorem dL_law_479 : decode cL_law 479 = .ok (.if_icmp .eq 602, 3) := by decide +kernel
theorem dL_law_482 : decode cL_law 482 = .ok (.iconst 0, 1) := by decide +kernel
theorem dL_law_483 : decode cL_law 483 = .ok (.ireturn, 1) := by decide +kernel
theorem dL_law_484 : decode cL_law 484 = .ok (.aload_n 1, 1) := by decide +kernel
theorem dL_law_485 : decode cL_law 485 = .ok (.aload_n 0, 1) := by decide +kernel
theorem dL_law_486 : decode cL_law 486 = .ok (.iload_n 3, 1) := by decide +kernel
theorem dL_law_487 : decode cL_law 487 = .ok (.iconst 1, 1) := by decide +kernel
theorem dL_law_488 : decode cL_law 488 = .ok (.iadd, 1) := by decide +kernel
theorem dL_law_489 : decode cL_law 489 = .ok (.iaload, 1) := by decide +kernel
theorem dL_law_490 : decode cL_law 490 = .ok (.aload_n 0, 1) := by decide +kernel
theorem dL_law_491 : decode cL_law 491 = .ok (.iload_n 3, 1) := by decide +kernel
theorem dL_law_492 : decode cL_law 492 = .ok (.iconst 2, 1) := by decide +kernel
theorem dL_law_493 : decode cL_law 493 = .ok (.iadd, 1) := by decide +kernel
theorem dL_law_494 : decode cL_law 494 = .ok (.iaload, 1) := by decide +kernel
theorem dL_law_495 : decode cL_law 495 = .ok (.i2l, 1) := by decide +kernel
theorem dL_law_496 : decode cL_law 496 = .ok (.bipush 32, 2) := by decide +kernel
theorem dL_law_498 : decode cL_law 498 = .ok (.lshl, 1) := by decide +kernel
theorem dL_law_499 : decode cL_law 499 = .ok (.aload_n 0, 1) := by decide +kernel
theorem dL_law_500 : decode cL_law 500 = .ok (.iload_n 3, 1) := by decide +kernel
theorem dL_law_501 : decode cL_law 501 = .ok (.iconst 3, 1) := by decide +kernel
theorem dL_law_502 : decode cL_law 502 = .ok (.iadd, 1) := by decide +kernel
theorem dL_law_503 : decode cL_law 503 = .ok (.iaload, 1) := by decide +kernel
theorem dL_law_504 : decode cL_law 504 = .ok (.i2l, 1) := by decide +kernel
theorem dL_law_505 : decode cL_law 505 = .ok (.ldc2_w 32, 3) := by decide +kernel
theorem dL_law_508 : decode cL_law 508 = .ok (.land, 1) := by decide +kernel
theorem dL_law_509 : decode cL_law 509 = .ok (.lor, 1) := by decide +kernel
theorem dL_law_510 : decode cL_law 510 = .ok (.aload_n 0, 1) := by decide +kernel
theorem dL_law_511 : decode cL_law 511 = .ok (.iload_n 3, 1) := by decide +kernel
theorem dL_law_512 : decode cL_law 512 = .ok (.iconst 4, 1) := by decide +kernel
theorem dL_law_513 : decode cL_law 513 = .ok (.iadd, 1) := by decide +kernel
theorem dL_law_514 : decode cL_law 514 = .ok (.iaload, 1) := by decide +kernel
theorem dL_law_515 : decode cL_law 515 = .ok (.aload_n 0, 1) := by decide +kernel
theorem dL_law_516 : decode cL_law 516 = .ok (.iload_n 3, 1) := by decide +kernel
theorem dL_law_517 : decode cL_law 517 = .ok (.iconst 5, 1) := by decide +kernel
theorem dL_law_518 : decode cL_law 518 = .ok (.iadd, 1) := by decide +kernel
theorem dL_law_519 : decode cL_law 519 = .ok (.iaload, 1) := by decide +kernel
theorem dL_law_520 : decode cL_law 520 = .ok (.invokevirtual 61, 3) := by decide +kernel
theorem dL_law_523 : decode cL_law 523 = .ok (.aload_n 2, 1) := by decide +kernel
theorem dL_law_524 : decode cL_law 524 = .ok (.aload_n 0, 1) := by decide +kernel
theorem dL_law_525 : decode cL_law 525 = .ok (.iload_n 3, 1) := by decide +kernel
theorem dL_law_526 : decode cL_law 526 = .ok (.iconst 1, 1) := by decide +kernel
theorem dL_law_527 : decode cL_law 527 = .ok (.iadd, 1) := by decide +kernel
theorem dL_law_528 : decode cL_law 528 = .ok (.iaload, 1) := by decide +kernel
theorem dL_law_529 : decode cL_law 529 = .ok (.aload_n 0, 1) := by decide +kernel
theorem dL_law_530 : decode cL_law 530 = .ok (.iload_n 3, 1) := by decide +kernel
theorem dL_law_531 : decode cL_law 531 = .ok (.iconst 2, 1) := by decide +kernel
theorem dL_law_532 : decode cL_law 532 = .ok (.iadd, 1) := by decide +kernel
theorem dL_law_533 : decode cL_law 533 = .ok (.iaload, 1) := by decide +kernel
theorem dL_law_534 : decode cL_law 534 = .ok (.i2l, 1) := by decide +kernel
theorem dL_law_535 : decode cL_law 535 = .ok (.bipush 32, 2) := by decide +kernel
theorem dL_law_537 : decode cL_law 537 = .ok (.lshl, 1) := by decide +kernel
theorem dL_law_538 : decode cL_law 538 = .ok (.aload_n 0, 1) := by decide +kernel
theorem dL_law_539 : decode cL_law 539 = .ok (.iload_n 3, 1) := by decide +kernel
theorem dL_law_540 : decode cL_law 540 = .ok (.iconst 3, 1) := by decide +kernel
theorem dL_law_541 : decode cL_law 541 = .ok (.iadd, 1) := by decide +kernel
theorem dL_law_542 : decode cL_law 542 = .ok (.iaload, 1) := by decide +kernel
theorem dL_law_543 : decode cL_law 543 = .ok (.i2l, 1) := by decide +kernel
theorem dL_law_544 : decode cL_law 544 = .ok (.ldc2_w 32, 3) := by decide +kernel
theorem dL_law_547 : decode cL_law 547 = .ok (.land, 1) := by decide +kernel
theorem dL_law_548 : decode cL_law 548 = .ok (.lor, 1) := by decide +kernel
theorem dL_law_549 : decode cL_law 549 = .ok (.aload_n 0, 1) := by decide +kernel
theorem dL_law_550 : decode cL_law 550 = .ok (.iload_n 3, 1) := by decide +kernel
theorem dL_law_551 : decode cL_law 551 = .ok (.iconst 4, 1) := by decide +kernel
theorem dL_law_552 : decode cL_law 552 = .ok (.iadd, 1) := by decide +kernel
theorem dL_law_553 : decode cL_law 553 = .ok (.iaload, 1) := by decide +kernel
theorem dL_law_554 : decode cL_law 554 = .ok (.aload_n 0, 1) := by decide +kernel
theorem dL_law_555 : decode cL_law 555 = .ok (.iload_n 3, 1) := by decide +kernel
theorem dL_law_556 : decode cL_law 556 = .ok (.iconst 5, 1) := by decide +kernel
theorem dL_law_557 : decode cL_law 557 = .ok (.iadd, 1) := by decide +kernel
theorem dL_law_558 : decode cL_law 558 = .ok (.iaload, 1) := by decide +kernel
theorem dL_law_559 : decode cL_law 559 = .ok (.invokevirtual 65, 3) := by decide +kernel
theorem dL_law_562 : decode cL_law 562 = .ok (.if_icmp .eq 519, 3) := by decide +kernel
theorem dL_law_565 : decode cL_law 565 = .ok (.iconst 0, 1) := by decide +kernel
theorem dL_law_566 : decode cL_law 566 = .ok (.ireturn, 1) := by decide +kernel
theorem dL_law_567 : decode cL_law 567 = .ok (.aload_n 1, 1) := by decide +kernel
theorem dL_law_568 : decode cL_law 568 = .ok (.invokevirtual 66, 3) := by decide +kernel
theorem dL_law_571 : decode cL_law 571 = .ok (.aload_n 2, 1) := by decide +kernel
theorem dL_law_572 : decode cL_law 572 = .ok (.invokevirtual 69, 3) := by decide +kernel
theorem dL_law_575 : decode cL_law 575 = .ok (.if_icmp .eq 506, 3) := by decide +kernel
theorem dL_law_578 : decode cL_law 578 = .ok (.iconst 0, 1) := by decide +kernel
theorem dL_law_579 : decode cL_law 579 = .ok (.ireturn, 1) := by decide +kernel
theorem dL_law_580 : decode cL_law 580 = .ok (.aload_n 1, 1) := by decide +kernel
theorem dL_law_581 : decode cL_law 581 = .ok (.aload_n 0, 1) := by decide +kernel
theorem dL_law_582 : decode cL_law 582 = .ok (.iload_n 3, 1) := by decide +kernel
theorem dL_law_583 : decode cL_law 583 = .ok (.iconst 1, 1) := by decide +kernel
theorem dL_law_584 : decode cL_law 584 = .ok (.iadd, 1) := by decide +kernel
theorem dL_law_585 : decode cL_law 585 = .ok (.iaload, 1) := by decide +kernel
theorem dL_law_586 : decode cL_law 586 = .ok (.aload_n 0, 1) := by decide +kernel
theorem dL_law_587 : decode cL_law 587 = .ok (.iload_n 3, 1) := by decide +kernel
theorem dL_law_588 : decode cL_law 588 = .ok (.iconst 2, 1) := by decide +kernel
theorem dL_law_589 : decode cL_law 589 = .ok (.iadd, 1) := by decide +kernel
theorem dL_law_590 : decode cL_law 590 = .ok (.iaload, 1) := by decide +kernel
theorem dL_law_591 : decode cL_law 591 = .ok (.invokevirtual 70, 3) := by decide +kernel
theorem dL_law_594 : decode cL_law 594 = .ok (.aload_n 2, 1) := by decide +kernel
theorem dL_law_595 : decode cL_law 595 = .ok (.aload_n 0, 1) := by decide +kernel
theorem dL_law_596 : decode cL_law 596 = .ok (.iload_n 3, 1) := by decide +kernel
theorem dL_law_597 : decode cL_law 597 = .ok (.iconst 1, 1) := by decide +kernel
theorem dL_law_598 : decode cL_law 598 = .ok (.iadd, 1) := by decide +kernel
theorem dL_law_599 : decode cL_law 599 = .ok (.iaload, 1) := by decide +kernel
theorem dL_law_600 : decode cL_law 600 = .ok (.aload_n 0, 1) := by decide +kernel
theorem dL_law_601 : decode cL_law 601 = .ok (.iload_n 3, 1) := by decide +kernel
theorem dL_law_602 : decode cL_law 602 = .ok (.iconst 2, 1) := by decide +kernel
theorem dL_law_603 : decode cL_law 603 = .ok (.iadd, 1) := by decide +kernel
theorem dL_law_604 : decode cL_law 604 = .ok (.iaload, 1) := by decide +kernel
theorem dL_law_605 : decode cL_law 605 = .ok (.invokevirtual 73, 3) := by decide +kernel
theorem dL_law_608 : decode cL_law 608 = .ok (.if_icmp .eq 473, 3) := by decide +kernel
theorem dL_law_611 : decode cL_law 611 = .ok (.iconst 0, 1) := by decide +kernel
theorem dL_law_612 : decode cL_law 612 = .ok (.ireturn, 1) := by decide +kernel
theorem dL_law_613 : decode cL_law 613 = .ok (.aload_n 1, 1) := by decide +kernel
theorem dL_law_614 : decode cL_law 614 = .ok (.invokevirtual 74, 3) := by decide +kernel
theorem dL_law_617 : decode cL_law 617 = .ok (.aload_n 2, 1) := by decide +kernel
theorem dL_law_618 : decode cL_law 618 = .ok (.invokevirtual 77, 3) := by decide +kernel
theorem dL_law_621 : decode cL_law 621 = .ok (.if_icmp .eq 460, 3) := by decide +kernel
theorem dL_law_624 : decode cL_law 624 = .ok (.iconst 0, 1) := by decide +kernel
theorem dL_law_625 : decode cL_law 625 = .ok (.ireturn, 1) := by decide +kernel
theorem dL_law_626 : decode cL_law 626 = .ok (.aload_n 1, 1) := by decide +kernel
theorem dL_law_627 : decode cL_law 627 = .ok (.aload_n 0, 1) := by decide +kernel
theorem dL_law_628 : decode cL_law 628 = .ok (.iload_n 3, 1) := by decide +kernel
theorem dL_law_629 : decode cL_law 629 = .ok (.iconst 1, 1) := by decide +kernel
theorem dL_law_630 : decode cL_law 630 = .ok (.iadd, 1) := by decide +kernel
theorem dL_law_631 : decode cL_law 631 = .ok (.iaload, 1) := by decide +kernel
theorem dL_law_632 : decode cL_law 632 = .ok (.invokevirtual 78, 3) := by decide +kernel
theorem dL_law_635 : decode cL_law 635 = .ok (.aload_n 2, 1) := by decide +kernel
theorem dL_law_636 : decode cL_law 636 = .ok (.aload_n 0, 1) := by decide +kernel
theorem dL_law_637 : decode cL_law 637 = .ok (.iload_n 3, 1) := by decide +kernel
theorem dL_law_638 : decode cL_law 638 = .ok (.iconst 1, 1) := by decide +kernel
theorem dL_law_639 : decode cL_law 639 = .ok (.iadd, 1) := by decide +kernel
theorem dL_law_640 : decode cL_law 640 = .ok (.iaload, 1) := by decide +kernel
theorem dL_law_641 : decode cL_law 641 = .ok (.invokevirtual 81, 3) := by decide +kernel
theorem dL_law_644 : decode cL_law 644 = .ok (.if_icmp .eq 437, 3) := by decide +kernel
theorem dL_law_647 : decode cL_law 647 = .ok (.iconst 0, 1) := by decide +kernel
theorem dL_law_648 : decode cL_law 648 = .ok (.ireturn, 1) := by decide +kernel
theorem dL_law_649 : decode cL_law 649 = .ok (.aload_n 1, 1) := by decide +kernel
theorem dL_law_650 : decode cL_law 650 = .ok (.aload_n 0, 1) := by decide +kernel
theorem dL_law_651 : decode cL_law 651 = .ok (.iload_n 3, 1) := by decide +kernel
theorem dL_law_652 : decode cL_law 652 = .ok (.iconst 1, 1) := by decide +kernel
theorem dL_law_653 : decode cL_law 653 = .ok (.iadd, 1) := by decide +kernel
theorem dL_law_654 : decode cL_law 654 = .ok (.iaload, 1) := by decide +kernel
theorem dL_law_655 : decode cL_law 655 = .ok (.aload_n 0, 1) := by decide +kernel
theorem dL_law_656 : decode cL_law 656 = .ok (.iload_n 3, 1) := by decide +kernel
theorem dL_law_657 : decode cL_law 657 = .ok (.iconst 2, 1) := by decide +kernel
theorem dL_law_658 : decode cL_law 658 = .ok (.iadd, 1) := by decide +kernel
theorem dL_law_659 : decode cL_law 659 = .ok (.iaload, 1) := by decide +kernel
theorem dL_law_660 : decode cL_law 660 = .ok (.invokevirtual 82, 3) := by decide +kernel
theorem dL_law_663 : decode cL_law 663 = .ok (.aload_n 2, 1) := by decide +kernel
theorem dL_law_664 : decode cL_law 664 = .ok (.aload_n 0, 1) := by decide +kernel
theorem dL_law_665 : decode cL_law 665 = .ok (.iload_n 3, 1) := by decide +kernel
theorem dL_law_666 : decode cL_law 666 = .ok (.iconst 1, 1) := by decide +kernel
theorem dL_law_667 : decode cL_law 667 = .ok (.iadd, 1) := by decide +kernel
theorem dL_law_668 : decode cL_law 668 = .ok (.iaload, 1) := by decide +kernel
theorem dL_law_669 : decode cL_law 669 = .ok (.aload_n 0, 1) := by decide +kernel
theorem dL_law_670 : decode cL_law 670 = .ok (.iload_n 3, 1) := by decide +kernel
theorem dL_law_671 : decode cL_law 671 = .ok (.iconst 2, 1) := by decide +kernel
theorem dL_law_672 : decode cL_law 672 = .ok (.iadd, 1) := by decide +kernel
theorem dL_law_673 : decode cL_law 673 = .ok (.iaload, 1) := by decide +kernel
theorem dL_law_674 : decode cL_law 674 = .ok (.invokevirtual 85, 3) := by decide +kernel
theorem dL_law_677 : decode cL_law 677 = .ok (.if_icmp .eq 404, 3) := by decide +kernel
theorem dL_law_680 : decode cL_law 680 = .ok (.iconst 0, 1) := by decide +kernel
theorem dL_law_681 : decode cL_law 681 = .ok (.ireturn, 1) := by decide +kernel
theorem dL_law_682 : decode cL_law 682 = .ok (.aload_n 1, 1) := by decide +kernel
theorem dL_law_683 : decode cL_law 683 = .ok (.aload_n 0, 1) := by decide +kernel
theorem dL_law_684 : decode cL_law 684 = .ok (.iload_n 3, 1) := by decide +kernel
theorem dL_law_685 : decode cL_law 685 = .ok (.iconst 1, 1) := by decide +kernel
theorem dL_law_686 : decode cL_law 686 = .ok (.iadd, 1) := by decide +kernel
theorem dL_law_687 : decode cL_law 687 = .ok (.iaload, 1) := by decide +kernel
theorem dL_law_688 : decode cL_law 688 = .ok (.invokevirtual 86, 3) := by decide +kernel
theorem dL_law_691 : decode cL_law 691 = .ok (.aload_n 2, 1) := by decide +kernel
theorem dL_law_692 : decode cL_law 692 = .ok (.aload_n 0, 1) := by decide +kernel
theorem dL_law_693 : decode cL_law 693 = .ok (.iload_n 3, 1) := by decide +kernel
theorem dL_law_694 : decode cL_law 694 = .ok (.iconst 1, 1) := by decide +kernel
theorem dL_law_695 : decode cL_law 695 = .ok (.iadd, 1) := by decide +kernel
theorem dL_law_696 : decode cL_law 696 = .ok (.iaload, 1) := by decide +kernel
theorem dL_law_697 : decode cL_law 697 = .ok (.invokevirtual 90, 3) := by decide +kernel
theorem dL_law_700 : decode cL_law 700 = .ok (.lcmp, 1) := by decide +kernel
theorem dL_law_701 : decode cL_law 701 = .ok (.ifCond .eq 380, 3) := by decide +kernel
theorem dL_law_704 : decode cL_law 704 = .ok (.iconst 0, 1) := by decide +kernel
theorem dL_law_705 : decode cL_law 705 = .ok (.ireturn, 1) := by decide +kernel
theorem dL_law_706 : decode cL_law 706 = .ok (.aload_n 1, 1) := by decide +kernel
theorem dL_law_707 : decode cL_law 707 = .ok (.aload_n 0, 1) := by decide +kernel
theorem dL_law_708 : decode cL_law 708 = .ok (.iload_n 3, 1) := by decide +kernel
theorem dL_law_709 : decode cL_law 709 = .ok (.iconst 1, 1) := by decide +kernel
theorem dL_law_710 : decode cL_law 710 = .ok (.iadd, 1) := by decide +kernel
theorem dL_law_711 : decode cL_law 711 = .ok (.iaload, 1) := by decide +kernel
theorem dL_law_712 : decode cL_law 712 = .ok (.aload_n 0, 1) := by decide +kernel
theorem dL_law_713 : decode cL_law 713 = .ok (.iload_n 3, 1) := by decide +kernel
theorem dL_law_714 : decode cL_law 714 = .ok (.iconst 2, 1) := by decide +kernel
theorem dL_law_715 : decode cL_law 715 = .ok (.iadd, 1) := by decide +kernel
theorem dL_law_716 : decode cL_law 716 = .ok (.iaload, 1) := by decide +kernel
theorem dL_law_717 : decode cL_law 717 = .ok (.aload_n 0, 1) := by decide +kernel
theorem dL_law_718 : decode cL_law 718 = .ok (.iload_n 3, 1) := by decide +kernel
theorem dL_law_719 : decode cL_law 719 = .ok (.iconst 3, 1) := by decide +kernel
theorem dL_law_720 : decode cL_law 720 = .ok (.iadd, 1) := by decide +kernel
theorem dL_law_721 : decode cL_law 721 = .ok (.iaload, 1) := by decide +kernel
theorem dL_law_722 : decode cL_law 722 = .ok (.invokevirtual 91, 3) := by decide +kernel
theorem dL_law_725 : decode cL_law 725 = .ok (.aload_n 2, 1) := by decide +kernel
theorem dL_law_726 : decode cL_law 726 = .ok (.aload_n 0, 1) := by decide +kernel
theorem dL_law_727 : decode cL_law 727 = .ok (.iload_n 3, 1) := by decide +kernel
theorem dL_law_728 : decode cL_law 728 = .ok (.iconst 1, 1) := by decide +kernel
theorem dL_law_729 : decode cL_law 729 = .ok (.iadd, 1) := by decide +kernel
theorem dL_law_730 : decode cL_law 730 = .ok (.iaload, 1) := by decide +kernel
theorem dL_law_731 : decode cL_law 731 = .ok (.aload_n 0, 1) := by decide +kernel
theorem dL_law_732 : decode cL_law 732 = .ok (.iload_n 3, 1) := by decide +kernel
theorem dL_law_733 : decode cL_law 733 = .ok (.iconst 2, 1) := by decide +kernel
theorem dL_law_734 : decode cL_law 734 = .ok (.iadd, 1) := by decide +kernel
theorem dL_law_735 : decode cL_law 735 = .ok (.iaload, 1) := by decide +kernel
theorem dL_law_736 : decode cL_law 736 = .ok (.aload_n 0, 1) := by decide +kernel
theorem dL_law_737 : decode cL_law 737 = .ok (.iload_n 3, 1) := by decide +kernel
theorem dL_law_738 : decode cL_law 738 = .ok (.iconst 3, 1) := by decide +kernel
theorem dL_law_739 : decode cL_law 739 = .ok (.iadd, 1) := by decide +kernel
theorem dL_law_740 : decode cL_law 740 = .ok (.iaload, 1) := by decide +kernel
theorem dL_law_741 : decode cL_law 741 = .ok (.invokevirtual 95, 3) := by decide +kernel
theorem dL_law_744 : decode cL_law 744 = .ok (.lcmp, 1) := by decide +kernel
theorem dL_law_745 : decode cL_law 745 = .ok (.ifCond .eq 336, 3) := by decide +kernel
theorem dL_law_748 : decode cL_law 748 = .ok (.iconst 0, 1) := by decide +kernel
theorem dL_law_749 : decode cL_law 749 = .ok (.ireturn, 1) := by decide +kernel
theorem dL_law_750 : decode cL_law 750 = .ok (.aload_n 1, 1) := by decide +kernel
theorem dL_law_751 : decode cL_law 751 = .ok (.aload_n 0, 1) := by decide +kernel
theorem dL_law_752 : decode cL_law 752 = .ok (.iload_n 3, 1) := by decide +kernel
theorem dL_law_753 : decode cL_law 753 = .ok (.iconst 1, 1) := by decide +kernel
theorem dL_law_754 : decode cL_law 754 = .ok (.iadd, 1) := by decide +kernel
theorem dL_law_755 : decode cL_law 755 = .ok (.iaload, 1) := by decide +kernel
theorem dL_law_756 : decode cL_law 756 = .ok (.aload_n 0, 1) := by decide +kernel
theorem dL_law_757 : decode cL_law 757 = .ok (.iload_n 3, 1) := by decide +kernel
theorem dL_law_758 : decode cL_law 758 = .ok (.iconst 2, 1) := by decide +kernel
theorem dL_law_759 : decode cL_law 759 = .ok (.iadd, 1) := by decide +kernel
theorem dL_law_760 : decode cL_law 760 = .ok (.iaload, 1) := by decide +kernel
theorem dL_law_761 : decode cL_law 761 = .ok (.invokevirtual 96, 3) := by decide +kernel
theorem dL_law_764 : decode cL_law 764 = .ok (.aload_n 2, 1) := by decide +kernel
theorem dL_law_765 : decode cL_law 765 = .ok (.aload_n 0, 1) := by decide +kernel
theorem dL_law_766 : decode cL_law 766 = .ok (.iload_n 3, 1) := by decide +kernel
theorem dL_law_767 : decode cL_law 767 = .ok (.iconst 1, 1) := by decide +kernel
theorem dL_law_768 : decode cL_law 768 = .ok (.iadd, 1) := by decide +kernel
theorem dL_law_769 : decode cL_law 769 = .ok (.iaload, 1) := by decide +kernel
theorem dL_law_770 : decode cL_law 770 = .ok (.aload_n 0, 1) := by decide +kernel
theorem dL_law_771 : decode cL_law 771 = .ok (.iload_n 3, 1) := by decide +kernel
theorem dL_law_772 : decode cL_law 772 = .ok (.iconst 2, 1) := by decide +kernel
theorem dL_law_773 : decode cL_law 773 = .ok (.iadd, 1) := by decide +kernel
theorem dL_law_774 : decode cL_law 774 = .ok (.iaload, 1) := by decide +kernel
theorem dL_law_775 : decode cL_law 775 = .ok (.invokevirtual 99, 3) := by decide +kernel
theorem dL_law_778 : decode cL_law 778 = .ok (.if_icmp .eq 303, 3) := by decide +kernel
theorem dL_law_781 : decode cL_law 781 = .ok (.iconst 0, 1) := by decide +kernel
theorem dL_law_782 : decode cL_law 782 = .ok (.ireturn, 1) := by decide +kernel
theorem dL_law_783 : decode cL_law 783 = .ok (.aload_n 1, 1) := by decide +kernel
theorem dL_law_784 : decode cL_law 784 = .ok (.aload_n 0, 1) := by decide +kernel
theorem dL_law_785 : decode cL_law 785 = .ok (.iload_n 3, 1) := by decide +kernel
theorem dL_law_786 : decode cL_law 786 = .ok (.iconst 1, 1) := by decide +kernel
theorem dL_law_787 : decode cL_law 787 = .ok (.iadd, 1) := by decide +kernel
theorem dL_law_788 : decode cL_law 788 = .ok (.iaload, 1) := by decide +kernel
theorem dL_law_789 : decode cL_law 789 = .ok (.aload_n 0, 1) := by decide +kernel
theorem dL_law_790 : decode cL_law 790 = .ok (.iload_n 3, 1) := by decide +kernel
theorem dL_law_791 : decode cL_law 791 = .ok (.iconst 2, 1) := by decide +kernel
theorem dL_law_792 : decode cL_law 792 = .ok (.iadd, 1) := by decide +kernel
theorem dL_law_793 : decode cL_law 793 = .ok (.iaload, 1) := by decide +kernel
theorem dL_law_794 : decode cL_law 794 = .ok (.aload_n 0, 1) := by decide +kernel
theorem dL_law_795 : decode cL_law 795 = .ok (.iload_n 3, 1) := by decide +kernel
theorem dL_law_796 : decode cL_law 796 = .ok (.iconst 3, 1) := by decide +kernel
theorem dL_law_797 : decode cL_law 797 = .ok (.iadd, 1) := by decide +kernel
theorem dL_law_798 : decode cL_law 798 = .ok (.iaload, 1) := by decide +kernel
theorem dL_law_799 : decode cL_law 799 = .ok (.invokevirtual 100, 3) := by decide +kernel
theorem dL_law_802 : decode cL_law 802 = .ok (.aload_n 2, 1) := by decide +kernel
theorem dL_law_803 : decode cL_law 803 = .ok (.aload_n 0, 1) := by decide +kernel
theorem dL_law_804 : decode cL_law 804 = .ok (.iload_n 3, 1) := by decide +kernel
theorem dL_law_805 : decode cL_law 805 = .ok (.iconst 1, 1) := by decide +kernel
theorem dL_law_806 : decode cL_law 806 = .ok (.iadd, 1) := by decide +kernel
theorem dL_law_807 : decode cL_law 807 = .ok (.iaload, 1) := by decide +kernel
theorem dL_law_808 : decode cL_law 808 = .ok (.aload_n 0, 1) := by decide +kernel
theorem dL_law_809 : decode cL_law 809 = .ok (.iload_n 3, 1) := by decide +kernel
theorem dL_law_810 : decode cL_law 810 = .ok (.iconst 2, 1) := by decide +kernel
theorem dL_law_811 : decode cL_law 811 = .ok (.iadd, 1) := by decide +kernel
theorem dL_law_812 : decode cL_law 812 = .ok (.iaload, 1) := by decide +kernel
theorem dL_law_813 : decode cL_law 813 = .ok (.aload_n 0, 1) := by decide +kernel
theorem dL_law_814 : decode cL_law 814 = .ok (.iload_n 3, 1) := by decide +kernel
theorem dL_law_815 : decode cL_law 815 = .ok (.iconst 3, 1) := by decide +kernel
theorem dL_law_816 : decode cL_law 816 = .ok (.iadd, 1) := by decide +kernel
theorem dL_law_817 : decode cL_law 817 = .ok (.iaload, 1) := by decide +kernel
theorem dL_law_818 : decode cL_law 818 = .ok (.invokevirtual 103, 3) := by decide +kernel
theorem dL_law_821 : decode cL_law 821 = .ok (.lcmp, 1) := by decide +kernel
theorem dL_law_822 : decode cL_law 822 = .ok (.ifCond .eq 259, 3) := by decide +kernel
theorem dL_law_825 : decode cL_law 825 = .ok (.iconst 0, 1) := by decide +kernel
theorem dL_law_826 : decode cL_law 826 = .ok (.ireturn, 1) := by decide +kernel
theorem dL_law_827 : decode cL_law 827 = .ok (.aload_n 1, 1) := by decide +kernel
theorem dL_law_828 : decode cL_law 828 = .ok (.aload_n 0, 1) := by decide +kernel
theorem dL_law_829 : decode cL_law 829 = .ok (.iload_n 3, 1) := by decide +kernel
theorem dL_law_830 : decode cL_law 830 = .ok (.iconst 1, 1) := by decide +kernel
theorem dL_law_831 : decode cL_law 831 = .ok (.iadd, 1) := by decide +kernel
theorem dL_law_832 : decode cL_law 832 = .ok (.iaload, 1) := by decide +kernel
theorem dL_law_833 : decode cL_law 833 = .ok (.aload_n 0, 1) := by decide +kernel
theorem dL_law_834 : decode cL_law 834 = .ok (.iload_n 3, 1) := by decide +kernel
theorem dL_law_835 : decode cL_law 835 = .ok (.iconst 2, 1) := by decide +kernel
theorem dL_law_836 : decode cL_law 836 = .ok (.iadd, 1) := by decide +kernel
theorem dL_law_837 : decode cL_law 837 = .ok (.iaload, 1) := by decide +kernel
theorem dL_law_838 : decode cL_law 838 = .ok (.aload_n 0, 1) := by decide +kernel
theorem dL_law_839 : decode cL_law 839 = .ok (.iload_n 3, 1) := by decide +kernel
theorem dL_law_840 : decode cL_law 840 = .ok (.iconst 3, 1) := by decide +kernel
theorem dL_law_841 : decode cL_law 841 = .ok (.iadd, 1) := by decide +kernel
theorem dL_law_842 : decode cL_law 842 = .ok (.iaload, 1) := by decide +kernel
theorem dL_law_843 : decode cL_law 843 = .ok (.invokevirtual 104, 3) := by decide +kernel
theorem dL_law_846 : decode cL_law 846 = .ok (.aload_n 2, 1) := by decide +kernel
theorem dL_law_847 : decode cL_law 847 = .ok (.aload_n 0, 1) := by decide +kernel
theorem dL_law_848 : decode cL_law 848 = .ok (.iload_n 3, 1) := by decide +kernel
theorem dL_law_849 : decode cL_law 849 = .ok (.iconst 1, 1) := by decide +kernel
theorem dL_law_850 : decode cL_law 850 = .ok (.iadd, 1) := by decide +kernel
theorem dL_law_851 : decode cL_law 851 = .ok (.iaload, 1) := by decide +kernel
theorem dL_law_852 : decode cL_law 852 = .ok (.aload_n 0, 1) := by decide +kernel
theorem dL_law_853 : decode cL_law 853 = .ok (.iload_n 3, 1) := by decide +kernel
theorem dL_law_854 : decode cL_law 854 = .ok (.iconst 2, 1) := by decide +kernel
theorem dL_law_855 : decode cL_law 855 = .ok (.iadd, 1) := by decide +kernel
theorem dL_law_856 : decode cL_law 856 = .ok (.iaload, 1) := by decide +kernel
theorem dL_law_857 : decode cL_law 857 = .ok (.aload_n 0, 1) := by decide +kernel
theorem dL_law_858 : decode cL_law 858 = .ok (.iload_n 3, 1) := by decide +kernel
theorem dL_law_859 : decode cL_law 859 = .ok (.iconst 3, 1) := by decide +kernel
theorem dL_law_860 : decode cL_law 860 = .ok (.iadd, 1) := by decide +kernel
theorem dL_law_861 : decode cL_law 861 = .ok (.iaload, 1) := by decide +kernel
theorem dL_law_862 : decode cL_law 862 = .ok (.invokevirtual 107, 3) := by decide +kernel
theorem dL_law_865 : decode cL_law 865 = .ok (.lcmp, 1) := by decide +kernel
theorem dL_law_866 : decode cL_law 866 = .ok (.ifCond .eq 215, 3) := by decide +kernel
theorem dL_law_869 : decode cL_law 869 = .ok (.iconst 0, 1) := by decide +kernel
theorem dL_law_870 : decode cL_law 870 = .ok (.ireturn, 1) := by decide +kernel
theorem dL_law_871 : decode cL_law 871 = .ok (.aload_n 1, 1) := by decide +kernel
theorem dL_law_872 : decode cL_law 872 = .ok (.aload_n 0, 1) := by decide +kernel
theorem dL_law_873 : decode cL_law 873 = .ok (.iload_n 3, 1) := by decide +kernel
theorem dL_law_874 : decode cL_law 874 = .ok (.iconst 1, 1) := by decide +kernel
theorem dL_law_875 : decode cL_law 875 = .ok (.iadd, 1) := by decide +kernel
theorem dL_law_876 : decode cL_law 876 = .ok (.iaload, 1) := by decide +kernel
theorem dL_law_877 : decode cL_law 877 = .ok (.aload_n 0, 1) := by decide +kernel
theorem dL_law_878 : decode cL_law 878 = .ok (.iload_n 3, 1) := by decide +kernel
theorem dL_law_879 : decode cL_law 879 = .ok (.iconst 2, 1) := by decide +kernel
theorem dL_law_880 : decode cL_law 880 = .ok (.iadd, 1) := by decide +kernel
theorem dL_law_881 : decode cL_law 881 = .ok (.iaload, 1) := by decide +kernel
theorem dL_law_882 : decode cL_law 882 = .ok (.invokevirtual 108, 3) := by decide +kernel
theorem dL_law_885 : decode cL_law 885 = .ok (.aload_n 2, 1) := by decide +kernel
theorem dL_law_886 : decode cL_law 886 = .ok (.aload_n 0, 1) := by decide +kernel
theorem dL_law_887 : decode cL_law 887 = .ok (.iload_n 3, 1) := by decide +kernel
theorem dL_law_888 : decode cL_law 888 = .ok (.iconst 1, 1) := by decide +kernel
theorem dL_law_889 : decode cL_law 889 = .ok (.iadd, 1) := by decide +kernel
theorem dL_law_890 : decode cL_law 890 = .ok (.iaload, 1) := by decide +kernel
theorem dL_law_891 : decode cL_law 891 = .ok (.aload_n 0, 1) := by decide +kernel
theorem dL_law_892 : decode cL_law 892 = .ok (.iload_n 3, 1) := by decide +kernel
theorem dL_law_893 : decode cL_law 893 = .ok (.iconst 2, 1) := by decide +kernel
theorem dL_law_894 : decode cL_law 894 = .ok (.iadd, 1) := by decide +kernel
theorem dL_law_895 : decode cL_law 895 = .ok (.iaload, 1) := by decide +kernel
theorem dL_law_896 : decode cL_law 896 = .ok (.invokevirtual 111, 3) := by decide +kernel
theorem dL_law_899 : decode cL_law 899 = .ok (.if_icmp .eq 182, 3) := by decide +kernel
theorem dL_law_902 : decode cL_law 902 = .ok (.iconst 0, 1) := by decide +kernel
theorem dL_law_903 : decode cL_law 903 = .ok (.ireturn, 1) := by decide +kernel
theorem dL_law_904 : decode cL_law 904 = .ok (.aload_n 1, 1) := by decide +kernel
theorem dL_law_905 : decode cL_law 905 = .ok (.aload_n 0, 1) := by decide +kernel
theorem dL_law_906 : decode cL_law 906 = .ok (.iload_n 3, 1) := by decide +kernel
theorem dL_law_907 : decode cL_law 907 = .ok (.iconst 1, 1) := by decide +kernel
theorem dL_law_908 : decode cL_law 908 = .ok (.iadd, 1) := by decide +kernel
theorem dL_law_909 : decode cL_law 909 = .ok (.iaload, 1) := by decide +kernel
theorem dL_law_910 : decode cL_law 910 = .ok (.invokevirtual 112, 3) := by decide +kernel
theorem dL_law_913 : decode cL_law 913 = .ok (.aload_n 2, 1) := by decide +kernel
theorem dL_law_914 : decode cL_law 914 = .ok (.aload_n 0, 1) := by decide +kernel
theorem dL_law_915 : decode cL_law 915 = .ok (.iload_n 3, 1) := by decide +kernel
theorem dL_law_916 : decode cL_law 916 = .ok (.iconst 1, 1) := by decide +kernel
theorem dL_law_917 : decode cL_law 917 = .ok (.iadd, 1) := by decide +kernel
theorem dL_law_918 : decode cL_law 918 = .ok (.iaload, 1) := by decide +kernel
theorem dL_law_919 : decode cL_law 919 = .ok (.invokevirtual 115, 3) := by decide +kernel
theorem dL_law_922 : decode cL_law 922 = .ok (.if_icmp .eq 159, 3) := by decide +kernel
theorem dL_law_925 : decode cL_law 925 = .ok (.iconst 0, 1) := by decide +kernel
theorem dL_law_926 : decode cL_law 926 = .ok (.ireturn, 1) := by decide +kernel
theorem dL_law_927 : decode cL_law 927 = .ok (.aload_n 1, 1) := by decide +kernel
theorem dL_law_928 : decode cL_law 928 = .ok (.aload_n 0, 1) := by decide +kernel
theorem dL_law_929 : decode cL_law 929 = .ok (.iload_n 3, 1) := by decide +kernel
theorem dL_law_930 : decode cL_law 930 = .ok (.iconst 1, 1) := by decide +kernel
theorem dL_law_931 : decode cL_law 931 = .ok (.iadd, 1) := by decide +kernel
theorem dL_law_932 : decode cL_law 932 = .ok (.iaload, 1) := by decide +kernel
theorem dL_law_933 : decode cL_law 933 = .ok (.invokevirtual 116, 3) := by decide +kernel
theorem dL_law_936 : decode cL_law 936 = .ok (.aload_n 2, 1) := by decide +kernel
theorem dL_law_937 : decode cL_law 937 = .ok (.aload_n 0, 1) := by decide +kernel
theorem dL_law_938 : decode cL_law 938 = .ok (.iload_n 3, 1) := by decide +kernel
theorem dL_law_939 : decode cL_law 939 = .ok (.iconst 1, 1) := by decide +kernel
theorem dL_law_940 : decode cL_law 940 = .ok (.iadd, 1) := by decide +kernel
theorem dL_law_941 : decode cL_law 941 = .ok (.iaload, 1) := by decide +kernel
theorem dL_law_942 : decode cL_law 942 = .ok (.invokevirtual 119, 3) := by decide +kernel
theorem dL_law_945 : decode cL_law 945 = .ok (.if_icmp .eq 136, 3) := by decide +kernel
theorem dL_law_948 : decode cL_law 948 = .ok (.iconst 0, 1) := by decide +kernel
theorem dL_law_949 : decode cL_law 949 = .ok (.ireturn, 1) := by decide +kernel
theorem dL_law_950 : decode cL_law 950 = .ok (.aload_n 1, 1) := by decide +kernel
theorem dL_law_951 : decode cL_law 951 = .ok (.aload_n 0, 1) := by decide +kernel
theorem dL_law_952 : decode cL_law 952 = .ok (.iload_n 3, 1) := by decide +kernel
theorem dL_law_953 : decode cL_law 953 = .ok (.iconst 1, 1) := by decide +kernel
theorem dL_law_954 : decode cL_law 954 = .ok (.iadd, 1) := by decide +kernel
theorem dL_law_955 : decode cL_law 955 = .ok (.iaload, 1) := by decide +kernel
theorem dL_law_956 : decode cL_law 956 = .ok (.i2l, 1) := by decide +kernel
theorem dL_law_957 : decode cL_law 957 = .ok (.bipush 32, 2) := by decide +kernel
theorem dL_law_959 : decode cL_law 959 = .ok (.lshl, 1) := by decide +kernel
theorem dL_law_960 : decode cL_law 960 = .ok (.aload_n 0, 1) := by decide +kernel
theorem dL_law_961 : decode cL_law 961 = .ok (.iload_n 3, 1) := by decide +kernel
theorem dL_law_962 : decode cL_law 962 = .ok (.iconst 2, 1) := by decide +kernel
theorem dL_law_963 : decode cL_law 963 = .ok (.iadd, 1) := by decide +kernel
theorem dL_law_964 : decode cL_law 964 = .ok (.iaload, 1) := by decide +kernel
theorem dL_law_965 : decode cL_law 965 = .ok (.i2l, 1) := by decide +kernel
theorem dL_law_966 : decode cL_law 966 = .ok (.ldc2_w 32, 3) := by decide +kernel
theorem dL_law_969 : decode cL_law 969 = .ok (.land, 1) := by decide +kernel
theorem dL_law_970 : decode cL_law 970 = .ok (.lor, 1) := by decide +kernel
theorem dL_law_971 : decode cL_law 971 = .ok (.aload_n 0, 1) := by decide +kernel
theorem dL_law_972 : decode cL_law 972 = .ok (.iload_n 3, 1) := by decide +kernel
theorem dL_law_973 : decode cL_law 973 = .ok (.iconst 3, 1) := by decide +kernel
theorem dL_law_974 : decode cL_law 974 = .ok (.iadd, 1) := by decide +kernel
theorem dL_law_975 : decode cL_law 975 = .ok (.iaload, 1) := by decide +kernel
theorem dL_law_976 : decode cL_law 976 = .ok (.aload_n 0, 1) := by decide +kernel
theorem dL_law_977 : decode cL_law 977 = .ok (.iload_n 3, 1) := by decide +kernel
theorem dL_law_978 : decode cL_law 978 = .ok (.iconst 4, 1) := by decide +kernel
theorem dL_law_979 : decode cL_law 979 = .ok (.iadd, 1) := by decide +kernel
theorem dL_law_980 : decode cL_law 980 = .ok (.iaload, 1) := by decide +kernel
theorem dL_law_981 : decode cL_law 981 = .ok (.aload_n 0, 1) := by decide +kernel
theorem dL_law_982 : decode cL_law 982 = .ok (.iload_n 3, 1) := by decide +kernel
theorem dL_law_983 : decode cL_law 983 = .ok (.iconst 5, 1) := by decide +kernel
theorem dL_law_984 : decode cL_law 984 = .ok (.iadd, 1) := by decide +kernel
theorem dL_law_985 : decode cL_law 985 = .ok (.iaload, 1) := by decide +kernel
theorem dL_law_986 : decode cL_law 986 = .ok (.aload_n 0, 1) := by decide +kernel
theorem dL_law_987 : decode cL_law 987 = .ok (.iload_n 3, 1) := by decide +kernel
theorem dL_law_988 : decode cL_law 988 = .ok (.bipush 6, 2) := by decide +kernel
theorem dL_law_990 : decode cL_law 990 = .ok (.iadd, 1) := by decide +kernel
theorem dL_law_991 : decode cL_law 991 = .ok (.iaload, 1) := by decide +kernel
theorem dL_law_992 : decode cL_law 992 = .ok (.aload_n 0, 1) := by decide +kernel
theorem dL_law_993 : decode cL_law 993 = .ok (.iload_n 3, 1) := by decide +kernel
theorem dL_law_994 : decode cL_law 994 = .ok (.bipush 7, 2) := by decide +kernel
theorem dL_law_996 : decode cL_law 996 = .ok (.iadd, 1) := by decide +kernel
theorem dL_law_997 : decode cL_law 997 = .ok (.iaload, 1) := by decide +kernel
theorem dL_law_998 : decode cL_law 998 = .ok (.invokevirtual 120, 3) := by decide +kernel
theorem dL_law_1001 : decode cL_law 1001 = .ok (.aload_n 2, 1) := by decide +kernel
theorem dL_law_1002 : decode cL_law 1002 = .ok (.aload_n 0, 1) := by decide +kernel
theorem dL_law_1003 : decode cL_law 1003 = .ok (.iload_n 3, 1) := by decide +kernel
theorem dL_law_1004 : decode cL_law 1004 = .ok (.iconst 1, 1) := by decide +kernel
theorem dL_law_1005 : decode cL_law 1005 = .ok (.iadd, 1) := by decide +kernel
theorem dL_law_1006 : decode cL_law 1006 = .ok (.iaload, 1) := by decide +kernel
theorem dL_law_1007 : decode cL_law 1007 = .ok (.i2l, 1) := by decide +kernel
theorem dL_law_1008 : decode cL_law 1008 = .ok (.bipush 32, 2) := by decide +kernel
theorem dL_law_1010 : decode cL_law 1010 = .ok (.lshl, 1) := by decide +kernel
theorem dL_law_1011 : decode cL_law 1011 = .ok (.aload_n 0, 1) := by decide +kernel
theorem dL_law_1012 : decode cL_law 1012 = .ok (.iload_n 3, 1) := by decide +kernel
theorem dL_law_1013 : decode cL_law 1013 = .ok (.iconst 2, 1) := by decide +kernel
theorem dL_law_1014 : decode cL_law 1014 = .ok (.iadd, 1) := by decide +kernel
theorem dL_law_1015 : decode cL_law 1015 = .ok (.iaload, 1) := by decide +kernel
theorem dL_law_1016 : decode cL_law 1016 = .ok (.i2l, 1) := by decide +kernel
theorem dL_law_1017 : decode cL_law 1017 = .ok (.ldc2_w 32, 3) := by decide +kernel
theorem dL_law_1020 : decode cL_law 1020 = .ok (.land, 1) := by decide +kernel
theorem dL_law_1021 : decode cL_law 1021 = .ok (.lor, 1) := by decide +kernel
theorem dL_law_1022 : decode cL_law 1022 = .ok (.aload_n 0, 1) := by decide +kernel
theorem dL_law_1023 : decode cL_law 1023 = .ok (.iload_n 3, 1) := by decide +kernel
theorem dL_law_1024 : decode cL_law 1024 = .ok (.iconst 3, 1) := by decide +kernel
theorem dL_law_1025 : decode cL_law 1025 = .ok (.iadd, 1) := by decide +kernel
theorem dL_law_1026 : decode cL_law 1026 = .ok (.iaload, 1) := by decide +kernel
theorem dL_law_1027 : decode cL_law 1027 = .ok (.aload_n 0, 1) := by decide +kernel
theorem dL_law_1028 : decode cL_law 1028 = .ok (.iload_n 3, 1) := by decide +kernel
theorem dL_law_1029 : decode cL_law 1029 = .ok (.iconst 4, 1) := by decide +kernel
theorem dL_law_1030 : decode cL_law 1030 = .ok (.iadd, 1) := by decide +kernel
theorem dL_law_1031 : decode cL_law 1031 = .ok (.iaload, 1) := by decide +kernel
theorem dL_law_1032 : decode cL_law 1032 = .ok (.aload_n 0, 1) := by decide +kernel
theorem dL_law_1033 : decode cL_law 1033 = .ok (.iload_n 3, 1) := by decide +kernel
theorem dL_law_1034 : decode cL_law 1034 = .ok (.iconst 5, 1) := by decide +kernel
theorem dL_law_1035 : decode cL_law 1035 = .ok (.iadd, 1) := by decide +kernel
theorem dL_law_1036 : decode cL_law 1036 = .ok (.iaload, 1) := by decide +kernel
theorem dL_law_1037 : decode cL_law 1037 = .ok (.aload_n 0, 1) := by decide +kernel
theorem dL_law_1038 : decode cL_law 1038 = .ok (.iload_n 3, 1) := by decide +kernel
theorem dL_law_1039 : decode cL_law 1039 = .ok (.bipush 6, 2) := by decide +kernel
theorem dL_law_1041 : decode cL_law 1041 = .ok (.iadd, 1) := by decide +kernel
theorem dL_law_1042 : decode cL_law 1042 = .ok (.iaload, 1) := by decide +kernel
theorem dL_law_1043 : decode cL_law 1043 = .ok (.aload_n 0, 1) := by decide +kernel
theorem dL_law_1044 : decode cL_law 1044 = .ok (.iload_n 3, 1) := by decide +kernel
theorem dL_law_1045 : decode cL_law 1045 = .ok (.bipush 7, 2) := by decide +kernel
theorem dL_law_1047 : decode cL_law 1047 = .ok (.iadd, 1) := by decide +kernel
theorem dL_law_1048 : decode cL_law 1048 = .ok (.iaload, 1) := by decide +kernel
theorem dL_law_1049 : decode cL_law 1049 = .ok (.invokevirtual 124, 3) := by decide +kernel
theorem dL_law_1052 : decode cL_law 1052 = .ok (.lcmp, 1) := by decide +kernel
theorem dL_law_1053 : decode cL_law 1053 = .ok (.ifCond .eq 28, 3) := by decide +kernel
theorem dL_law_1056 : decode cL_law 1056 = .ok (.iconst 0, 1) := by decide +kernel
theorem dL_law_1057 : decode cL_law 1057 = .ok (.ireturn, 1) := by decide +kernel
theorem dL_law_1058 : decode cL_law 1058 = .ok (.aload_n 1, 1) := by decide +kernel
theorem dL_law_1059 : decode cL_law 1059 = .ok (.aload_n 0, 1) := by decide +kernel
theorem dL_law_1060 : decode cL_law 1060 = .ok (.iload_n 3, 1) := by decide +kernel
theorem dL_law_1061 : decode cL_law 1061 = .ok (.iconst 1, 1) := by decide +kernel
theorem dL_law_1062 : decode cL_law 1062 = .ok (.iadd, 1) := by decide +kernel
theorem dL_law_1063 : decode cL_law 1063 = .ok (.iaload, 1) := by decide +kernel
theorem dL_law_1064 : decode cL_law 1064 = .ok (.invokevirtual 125, 3) := by decide +kernel
theorem dL_law_1067 : decode cL_law 1067 = .ok (.aload_n 2, 1) := by decide +kernel
theorem dL_law_1068 : decode cL_law 1068 = .ok (.aload_n 0, 1) := by decide +kernel
theorem dL_law_1069 : decode cL_law 1069 = .ok (.iload_n 3, 1) := by decide +kernel
theorem dL_law_1070 : decode cL_law 1070 = .ok (.iconst 1, 1) := by decide +kernel
theorem dL_law_1071 : decode cL_law 1071 = .ok (.iadd, 1) := by decide +kernel
theorem dL_law_1072 : decode cL_law 1072 = .ok (.iaload, 1) := by decide +kernel
theorem dL_law_1073 : decode cL_law 1073 = .ok (.invokevirtual 128, 3) := by decide +kernel
theorem dL_law_1076 : decode cL_law 1076 = .ok (.if_icmp .eq 5, 3) := by decide +kernel
theorem dL_law_1079 : decode cL_law 1079 = .ok (.iconst 0, 1) := by decide +kernel
theorem dL_law_1080 : decode cL_law 1080 = .ok (.ireturn, 1) := by decide +kernel
theorem dL_law_1081 : decode cL_law 1081 = .ok (.iinc 3 8, 3) := by decide +kernel
theorem dL_law_1084 : decode cL_law 1084 = .ok (.goto (-1066), 3) := by decide +kernel
theorem dL_law_1087 : decode cL_law 1087 = .ok (.iconst 1, 1) := by decide +kernel
theorem dL_law_1088 : decode cL_law 1088 = .ok (.ireturn, 1) := by decide +kernel
