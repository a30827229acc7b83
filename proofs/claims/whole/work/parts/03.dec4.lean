theorem dX7_feed_44 : decode cX7_feed 44 = .ok (.putfield 81, 3) := by decide +kernel
theorem dX7_feed_47 : decode cX7_feed 47 = .ok (.aload_n 0, 1) := by decide +kernel
theorem dX7_feed_48 : decode cX7_feed 48 = .ok (.getfield 81, 3) := by decide +kernel
theorem dX7_feed_51 : decode cX7_feed 51 = .ok (.ireturn, 1) := by decide +kernel
theorem dX7_nextToken_0 : decode cX7_nextToken 0 = .ok (.aload_n 0, 1) := by decide +kernel
theorem dX7_nextToken_1 : decode cX7_nextToken 1 = .ok (.aload_n 0, 1) := by decide +kernel
theorem dX7_nextToken_2 : decode cX7_nextToken 2 = .ok (.getfield 85, 3) := by decide +kernel
theorem dX7_nextToken_5 : decode cX7_nextToken 5 = .ok (.putfield 88, 3) := by decide +kernel
theorem dX7_nextToken_8 : decode cX7_nextToken 8 = .ok (.aload_n 0, 1) := by decide +kernel
theorem dX7_nextToken_9 : decode cX7_nextToken 9 = .ok (.aload_n 0, 1) := by decide +kernel
theorem dX7_nextToken_10 : decode cX7_nextToken 10 = .ok (.getfield 85, 3) := by decide +kernel
theorem dX7_nextToken_13 : decode cX7_nextToken 13 = .ok (.aload_n 0, 1) := by decide +kernel
theorem dX7_nextToken_14 : decode cX7_nextToken 14 = .ok (.getfield 81, 3) := by decide +kernel
theorem dX7_nextToken_17 : decode cX7_nextToken 17 = .ok (.if_icmp .ne 7, 3) := by decide +kernel
theorem dX7_nextToken_20 : decode cX7_nextToken 20 = .ok (.iconst 3, 1) := by decide +kernel
theorem dX7_nextToken_21 : decode cX7_nextToken 21 = .ok (.goto 4, 3) := by decide +kernel
theorem dX7_nextToken_24 : decode cX7_nextToken 24 = .ok (.iconst 0, 1) := by decide +kernel
theorem dX7_nextToken_25 : decode cX7_nextToken 25 = .ok (.putfield 91, 3) := by decide +kernel
theorem dX7_nextToken_28 : decode cX7_nextToken 28 = .ok (.aload_n 0, 1) := by decide +kernel
theorem dX7_nextToken_29 : decode cX7_nextToken 29 = .ok (.iconst 0, 1) := by decide +kernel
theorem dX7_nextToken_30 : decode cX7_nextToken 30 = .ok (.putfield 94, 3) := by decide +kernel
theorem dX7_nextToken_33 : decode cX7_nextToken 33 = .ok (.aload_n 0, 1) := by decide +kernel
theorem dX7_nextToken_34 : decode cX7_nextToken 34 = .ok (.getfield 85, 3) := by decide +kernel
theorem dX7_nextToken_37 : decode cX7_nextToken 37 = .ok (.aload_n 0, 1) := by decide +kernel
theorem dX7_nextToken_38 : decode cX7_nextToken 38 = .ok (.getfield 81, 3) := by decide +kernel
theorem dX7_nextToken_41 : decode cX7_nextToken 41 = .ok (.if_icmp .ge 78, 3) := by decide +kernel
theorem dX7_nextToken_44 : decode cX7_nextToken 44 = .ok (.aload_n 0, 1) := by decide +kernel
theorem dX7_nextToken_45 : decode cX7_nextToken 45 = .ok (.getfield 25, 3) := by decide +kernel
theorem dX7_nextToken_48 : decode cX7_nextToken 48 = .ok (.aload_n 0, 1) := by decide +kernel
theorem dX7_nextToken_49 : decode cX7_nextToken 49 = .ok (.getfield 85, 3) := by decide +kernel
theorem dX7_nextToken_52 : decode cX7_nextToken 52 = .ok (.iaload, 1) := by decide +kernel
theorem dX7_nextToken_53 : decode cX7_nextToken 53 = .ok (.i2l, 1) := by decide +kernel
theorem dX7_nextToken_54 : decode cX7_nextToken 54 = .ok (.ldc2_w 97, 3) := by decide +kernel
theorem dX7_nextToken_57 : decode cX7_nextToken 57 = .ok (.ldc2_w 99, 3) := by decide +kernel
theorem dX7_nextToken_60 : decode cX7_nextToken 60 = .ok (.invokestatic 57, 3) := by decide +kernel
theorem dX7_nextToken_63 : decode cX7_nextToken 63 = .ok (.ifCond .eq 56, 3) := by decide +kernel
theorem dX7_nextToken_66 : decode cX7_nextToken 66 = .ok (.aload_n 0, 1) := by decide +kernel
theorem dX7_nextToken_67 : decode cX7_nextToken 67 = .ok (.aload_n 0, 1) := by decide +kernel
theorem dX7_nextToken_68 : decode cX7_nextToken 68 = .ok (.getfield 94, 3) := by decide +kernel
theorem dX7_nextToken_71 : decode cX7_nextToken 71 = .ok (.bipush 99, 2) := by decide +kernel
theorem dX7_nextToken_73 : decode cX7_nextToken 73 = .ok (.if_icmp .le 10, 3) := by decide +kernel
theorem dX7_nextToken_76 : decode cX7_nextToken 76 = .ok (.aload_n 0, 1) := by decide +kernel
theorem dX7_nextToken_77 : decode cX7_nextToken 77 = .ok (.getfield 94, 3) := by decide +kernel
theorem dX7_nextToken_80 : decode cX7_nextToken 80 = .ok (.goto 23, 3) := by decide +kernel
theorem dX7_nextToken_83 : decode cX7_nextToken 83 = .ok (.bipush 10, 2) := by decide +kernel
theorem dX7_nextToken_85 : decode cX7_nextToken 85 = .ok (.aload_n 0, 1) := by decide +kernel
theorem dX7_nextToken_86 : decode cX7_nextToken 86 = .ok (.getfield 94, 3) := by decide +kernel
theorem dX7_nextToken_89 : decode cX7_nextToken 89 = .ok (.imul, 1) := by decide +kernel
theorem dX7_nextToken_90 : decode cX7_nextToken 90 = .ok (.aload_n 0, 1) := by decide +kernel
theorem dX7_nextToken_91 : decode cX7_nextToken 91 = .ok (.getfield 25, 3) := by decide +kernel
theorem dX7_nextToken_94 : decode cX7_nextToken 94 = .ok (.aload_n 0, 1) := by decide +kernel
theorem dX7_nextToken_95 : decode cX7_nextToken 95 = .ok (.getfield 85, 3) := by decide +kernel
theorem dX7_nextToken_98 : decode cX7_nextToken 98 = .ok (.iaload, 1) := by decide +kernel
theorem dX7_nextToken_99 : decode cX7_nextToken 99 = .ok (.iadd, 1) := by decide +kernel
theorem dX7_nextToken_100 : decode cX7_nextToken 100 = .ok (.bipush 48, 2) := by decide +kernel
theorem dX7_nextToken_102 : decode cX7_nextToken 102 = .ok (.isub, 1) := by decide +kernel
theorem dX7_nextToken_103 : decode cX7_nextToken 103 = .ok (.putfield 94, 3) := by decide +kernel
theorem dX7_nextToken_106 : decode cX7_nextToken 106 = .ok (.aload_n 0, 1) := by decide +kernel
theorem dX7_nextToken_107 : decode cX7_nextToken 107 = .ok (.dup, 1) := by decide +kernel
theorem dX7_nextToken_108 : decode cX7_nextToken 108 = .ok (.getfield 85, 3) := by decide +kernel
theorem dX7_nextToken_111 : decode cX7_nextToken 111 = .ok (.iconst 1, 1) := by decide +kernel
theorem dX7_nextToken_112 : decode cX7_nextToken 112 = .ok (.iadd, 1) := by decide +kernel
theorem dX7_nextToken_113 : decode cX7_nextToken 113 = .ok (.putfield 85, 3) := by decide +kernel
theorem dX7_nextToken_116 : decode cX7_nextToken 116 = .ok (.goto (-83), 3) := by decide +kernel
theorem dX7_nextToken_119 : decode cX7_nextToken 119 = .ok (.aload_n 0, 1) := by decide +kernel
theorem dX7_nextToken_120 : decode cX7_nextToken 120 = .ok (.getfield 85, 3) := by decide +kernel
theorem dX7_nextToken_123 : decode cX7_nextToken 123 = .ok (.aload_n 0, 1) := by decide +kernel
theorem dX7_nextToken_124 : decode cX7_nextToken 124 = .ok (.getfield 88, 3) := by decide +kernel
theorem dX7_nextToken_127 : decode cX7_nextToken 127 = .ok (.if_icmp .le 28, 3) := by decide +kernel
theorem dX7_nextToken_130 : decode cX7_nextToken 130 = .ok (.aload_n 0, 1) := by decide +kernel
theorem dX7_nextToken_131 : decode cX7_nextToken 131 = .ok (.aload_n 0, 1) := by decide +kernel
theorem dX7_nextToken_132 : decode cX7_nextToken 132 = .ok (.getfield 85, 3) := by decide +kernel
theorem dX7_nextToken_135 : decode cX7_nextToken 135 = .ok (.aload_n 0, 1) := by decide +kernel
theorem dX7_nextToken_136 : decode cX7_nextToken 136 = .ok (.getfield 88, 3) := by decide +kernel
theorem dX7_nextToken_139 : decode cX7_nextToken 139 = .ok (.isub, 1) := by decide +kernel
theorem dX7_nextToken_140 : decode cX7_nextToken 140 = .ok (.iconst 2, 1) := by decide +kernel
theorem dX7_nextToken_141 : decode cX7_nextToken 141 = .ok (.if_icmp .le 7, 3) := by decide +kernel
theorem dX7_nextToken_144 : decode cX7_nextToken 144 = .ok (.iconst 0, 1) := by decide +kernel
theorem dX7_nextToken_145 : decode cX7_nextToken 145 = .ok (.goto 4, 3) := by decide +kernel
theorem dX7_nextToken_148 : decode cX7_nextToken 148 = .ok (.iconst 2, 1) := by decide +kernel
theorem dX7_nextToken_149 : decode cX7_nextToken 149 = .ok (.putfield 91, 3) := by decide +kernel
theorem dX7_nextToken_152 : decode cX7_nextToken 152 = .ok (.goto 77, 3) := by decide +kernel
theorem dX7_nextToken_155 : decode cX7_nextToken 155 = .ok (.aload_n 0, 1) := by decide +kernel
theorem dX7_nextToken_156 : decode cX7_nextToken 156 = .ok (.getfield 91, 3) := by decide +kernel
theorem dX7_nextToken_159 : decode cX7_nextToken 159 = .ok (.ifCond .ne 70, 3) := by decide +kernel
theorem dX7_nextToken_162 : decode cX7_nextToken 162 = .ok (.aload_n 0, 1) := by decide +kernel
theorem dX7_nextToken_163 : decode cX7_nextToken 163 = .ok (.aload_n 0, 1) := by decide +kernel
theorem dX7_nextToken_164 : decode cX7_nextToken 164 = .ok (.getfield 25, 3) := by decide +kernel
theorem dX7_nextToken_167 : decode cX7_nextToken 167 = .ok (.aload_n 0, 1) := by decide +kernel
theorem dX7_nextToken_168 : decode cX7_nextToken 168 = .ok (.getfield 85, 3) := by decide +kernel
theorem dX7_nextToken_171 : decode cX7_nextToken 171 = .ok (.iaload, 1) := by decide +kernel
theorem dX7_nextToken_172 : decode cX7_nextToken 172 = .ok (.putfield 94, 3) := by decide +kernel
theorem dX7_nextToken_175 : decode cX7_nextToken 175 = .ok (.aload_n 0, 1) := by decide +kernel
theorem dX7_nextToken_176 : decode cX7_nextToken 176 = .ok (.aload_n 0, 1) := by decide +kernel
theorem dX7_nextToken_177 : decode cX7_nextToken 177 = .ok (.getfield 94, 3) := by decide +kernel
theorem dX7_nextToken_180 : decode cX7_nextToken 180 = .ok (.i2l, 1) := by decide +kernel
theorem dX7_nextToken_181 : decode cX7_nextToken 181 = .ok (.ldc2_w 101, 3) := by decide +kernel
theorem dX7_nextToken_184 : decode cX7_nextToken 184 = .ok (.ldc2_w 103, 3) := by decide +kernel
theorem dX7_nextToken_187 : decode cX7_nextToken 187 = .ok (.invokestatic 57, 3) := by decide +kernel
theorem dX7_nextToken_190 : decode cX7_nextToken 190 = .ok (.ifCond .ne 21, 3) := by decide +kernel
theorem dX7_nextToken_193 : decode cX7_nextToken 193 = .ok (.aload_n 0, 1) := by decide +kernel
theorem dX7_nextToken_194 : decode cX7_nextToken 194 = .ok (.getfield 94, 3) := by decide +kernel
theorem dX7_nextToken_197 : decode cX7_nextToken 197 = .ok (.bipush 44, 2) := by decide +kernel
theorem dX7_nextToken_199 : decode cX7_nextToken 199 = .ok (.if_icmp .eq 12, 3) := by decide +kernel
theorem dX7_nextToken_202 : decode cX7_nextToken 202 = .ok (.aload_n 0, 1) := by decide +kernel
theorem dX7_nextToken_203 : decode cX7_nextToken 203 = .ok (.getfield 94, 3) := by decide +kernel
theorem dX7_nextToken_206 : decode cX7_nextToken 206 = .ok (.bipush 59, 2) := by decide +kernel
theorem dX7_nextToken_208 : decode cX7_nextToken 208 = .ok (.if_icmp .ne 7, 3) := by decide +kernel
theorem dX7_nextToken_211 : decode cX7_nextToken 211 = .ok (.iconst 1, 1) := by decide +kernel
theorem dX7_nextToken_212 : decode cX7_nextToken 212 = .ok (.goto 4, 3) := by decide +kernel
theorem dX7_nextToken_215 : decode cX7_nextToken 215 = .ok (.iconst 0, 1) := by decide +kernel
theorem dX7_nextToken_216 : decode cX7_nextToken 216 = .ok (.putfield 91, 3) := by decide +kernel
theorem dX7_nextToken_219 : decode cX7_nextToken 219 = .ok (.aload_n 0, 1) := by decide +kernel
theorem dX7_nextToken_220 : decode cX7_nextToken 220 = .ok (.dup, 1) := by decide +kernel
theorem dX7_nextToken_221 : decode cX7_nextToken 221 = .ok (.getfield 85, 3) := by decide +kernel
theorem dX7_nextToken_224 : decode cX7_nextToken 224 = .ok (.iconst 1, 1) := by decide +kernel
theorem dX7_nextToken_225 : decode cX7_nextToken 225 = .ok (.iadd, 1) := by decide +kernel
theorem dX7_nextToken_226 : decode cX7_nextToken 226 = .ok (.putfield 85, 3) := by decide +kernel
theorem dX7_nextToken_229 : decode cX7_nextToken 229 = .ok (.return_, 1) := by decide +kernel
theorem dX7_faults_0 : decode cX7_faults 0 = .ok (.aload_n 0, 1) := by decide +kernel
theorem dX7_faults_1 : decode cX7_faults 1 = .ok (.iload_n 1, 1) := by decide +kernel
theorem dX7_faults_2 : decode cX7_faults 2 = .ok (.putfield 105, 3) := by decide +kernel
theorem dX7_faults_5 : decode cX7_faults 5 = .ok (.iconst 0, 1) := by decide +kernel
theorem dX7_faults_6 : decode cX7_faults 6 = .ok (.ireturn, 1) := by decide +kernel
theorem dX7_isLetter_0 : decode cX7_isLetter 0 = .ok (.aload_n 0, 1) := by decide +kernel
theorem dX7_isLetter_1 : decode cX7_isLetter 1 = .ok (.getfield 91, 3) := by decide +kernel
theorem dX7_isLetter_4 : decode cX7_isLetter 4 = .ok (.iconst 1, 1) := by decide +kernel
theorem dX7_isLetter_5 : decode cX7_isLetter 5 = .ok (.if_icmp .ne 15, 3) := by decide +kernel
theorem dX7_isLetter_8 : decode cX7_isLetter 8 = .ok (.aload_n 0, 1) := by decide +kernel
theorem dX7_isLetter_9 : decode cX7_isLetter 9 = .ok (.getfield 94, 3) := by decide +kernel
theorem dX7_isLetter_12 : decode cX7_isLetter 12 = .ok (.iload_n 1, 1) := by decide +kernel
theorem dX7_isLetter_13 : decode cX7_isLetter 13 = .ok (.if_icmp .ne 7, 3) := by decide +kernel
theorem dX7_isLetter_16 : decode cX7_isLetter 16 = .ok (.iconst 1, 1) := by decide +kernel
theorem dX7_isLetter_17 : decode cX7_isLetter 17 = .ok (.goto 4, 3) := by decide +kernel
theorem dX7_isLetter_20 : decode cX7_isLetter 20 = .ok (.iconst 0, 1) := by decide +kernel
theorem dX7_isLetter_21 : decode cX7_isLetter 21 = .ok (.ireturn, 1) := by decide +kernel
theorem dX7_takes_0 : decode cX7_takes 0 = .ok (.aload_n 0, 1) := by decide +kernel
theorem dX7_takes_1 : decode cX7_takes 1 = .ok (.iload_n 1, 1) := by decide +kernel
theorem dX7_takes_2 : decode cX7_takes 2 = .ok (.invokevirtual 108, 3) := by decide +kernel
theorem dX7_takes_5 : decode cX7_takes 5 = .ok (.ifCond .ne 9, 3) := by decide +kernel
theorem dX7_takes_8 : decode cX7_takes 8 = .ok (.aload_n 0, 1) := by decide +kernel
theorem dX7_takes_9 : decode cX7_takes 9 = .ok (.iconst 1, 1) := by decide +kernel
theorem dX7_takes_10 : decode cX7_takes 10 = .ok (.invokevirtual 111, 3) := by decide +kernel
theorem dX7_takes_13 : decode cX7_takes 13 = .ok (.ireturn, 1) := by decide +kernel
theorem dX7_takes_14 : decode cX7_takes 14 = .ok (.aload_n 0, 1) := by decide +kernel
theorem dX7_takes_15 : decode cX7_takes 15 = .ok (.invokevirtual 114, 3) := by decide +kernel
theorem dX7_takes_18 : decode cX7_takes 18 = .ok (.iconst 1, 1) := by decide +kernel
theorem dX7_takes_19 : decode cX7_takes 19 = .ok (.ireturn, 1) := by decide +kernel
theorem dX7_takesNumber_0 : decode cX7_takesNumber 0 = .ok (.aload_n 0, 1) := by decide +kernel
theorem dX7_takesNumber_1 : decode cX7_takesNumber 1 = .ok (.getfield 91, 3) := by decide +kernel
theorem dX7_takesNumber_4 : decode cX7_takesNumber 4 = .ok (.iconst 2, 1) := by decide +kernel
theorem dX7_takesNumber_5 : decode cX7_takesNumber 5 = .ok (.if_icmp .ne 18, 3) := by decide +kernel
theorem dX7_takesNumber_8 : decode cX7_takesNumber 8 = .ok (.aload_n 0, 1) := by decide +kernel
theorem dX7_takesNumber_9 : decode cX7_takesNumber 9 = .ok (.getfield 94, 3) := by decide +kernel
theorem dX7_takesNumber_12 : decode cX7_takesNumber 12 = .ok (.i2l, 1) := by decide +kernel
theorem dX7_takesNumber_13 : decode cX7_takesNumber 13 = .ok (.iload_n 1, 1) := by decide +kernel
theorem dX7_takesNumber_14 : decode cX7_takesNumber 14 = .ok (.i2l, 1) := by decide +kernel
theorem dX7_takesNumber_15 : decode cX7_takesNumber 15 = .ok (.iload_n 2, 1) := by decide +kernel
theorem dX7_takesNumber_16 : decode cX7_takesNumber 16 = .ok (.i2l, 1) := by decide +kernel
theorem dX7_takesNumber_17 : decode cX7_takesNumber 17 = .ok (.invokestatic 57, 3) := by decide +kernel
theorem dX7_takesNumber_20 : decode cX7_takesNumber 20 = .ok (.ifCond .ne 21, 3) := by decide +kernel
theorem dX7_takesNumber_23 : decode cX7_takesNumber 23 = .ok (.aload_n 0, 1) := by decide +kernel
theorem dX7_takesNumber_24 : decode cX7_takesNumber 24 = .ok (.aload_n 0, 1) := by decide +kernel
theorem dX7_takesNumber_25 : decode cX7_takesNumber 25 = .ok (.getfield 91, 3) := by decide +kernel
theorem dX7_takesNumber_28 : decode cX7_takesNumber 28 = .ok (.iconst 2, 1) := by decide +kernel
theorem dX7_takesNumber_29 : decode cX7_takesNumber 29 = .ok (.if_icmp .ne 7, 3) := by decide +kernel
theorem dX7_takesNumber_32 : decode cX7_takesNumber 32 = .ok (.iconst 2, 1) := by decide +kernel
theorem dX7_takesNumber_33 : decode cX7_takesNumber 33 = .ok (.goto 4, 3) := by decide +kernel
theorem dX7_takesNumber_36 : decode cX7_takesNumber 36 = .ok (.iconst 1, 1) := by decide +kernel
theorem dX7_takesNumber_37 : decode cX7_takesNumber 37 = .ok (.invokevirtual 111, 3) := by decide +kernel
theorem dX7_takesNumber_40 : decode cX7_takesNumber 40 = .ok (.ireturn, 1) := by decide +kernel
theorem dX7_takesNumber_41 : decode cX7_takesNumber 41 = .ok (.aload_n 0, 1) := by decide +kernel
theorem dX7_takesNumber_42 : decode cX7_takesNumber 42 = .ok (.getfield 28, 3) := by decide +kernel
theorem dX7_takesNumber_45 : decode cX7_takesNumber 45 = .ok (.iload_n 3, 1) := by decide +kernel
theorem dX7_takesNumber_46 : decode cX7_takesNumber 46 = .ok (.aload_n 0, 1) := by decide +kernel
theorem dX7_takesNumber_47 : decode cX7_takesNumber 47 = .ok (.getfield 94, 3) := by decide +kernel
theorem dX7_takesNumber_50 : decode cX7_takesNumber 50 = .ok (.iastore, 1) := by decide +kernel
theorem dX7_takesNumber_51 : decode cX7_takesNumber 51 = .ok (.aload_n 0, 1) := by decide +kernel
theorem dX7_takesNumber_52 : decode cX7_takesNumber 52 = .ok (.invokevirtual 114, 3) := by decide +kernel
theorem dX7_takesNumber_55 : decode cX7_takesNumber 55 = .ok (.aload_n 0, 1) := by decide +kernel
theorem dX7_takesNumber_56 : decode cX7_takesNumber 56 = .ok (.iload 4, 2) := by decide +kernel
theorem dX7_takesNumber_58 : decode cX7_takesNumber 58 = .ok (.invokevirtual 117, 3) := by decide +kernel
theorem dX7_takesNumber_61 : decode cX7_takesNumber 61 = .ok (.ireturn, 1) := by decide +kernel
theorem dX7_readPiece_0 : decode cX7_readPiece 0 = .ok (.aload_n 0, 1) := by decide +kernel
theorem dX7_readPiece_1 : decode cX7_readPiece 1 = .ok (.getfield 28, 3) := by decide +kernel
theorem dX7_readPiece_4 : decode cX7_readPiece 4 = .ok (.iconst 3, 1) := by decide +kernel
theorem dX7_readPiece_5 : decode cX7_readPiece 5 = .ok (.iaload, 1) := by decide +kernel
theorem dX7_readPiece_6 : decode cX7_readPiece 6 = .ok (.istore_n 1, 1) := by decide +kernel
theorem dX7_readPiece_7 : decode cX7_readPiece 7 = .ok (.iload_n 1, 1) := by decide +kernel
theorem dX7_readPiece_8 : decode cX7_readPiece 8 = .ok (.iconst 4, 1) := by decide +kernel
theorem dX7_readPiece_9 : decode cX7_readPiece 9 = .ok (.if_icmp .eq 12, 3) := by decide +kernel
theorem dX7_readPiece_12 : decode cX7_readPiece 12 = .ok (.aload_n 0, 1) := by decide +kernel
theorem dX7_readPiece_13 : decode cX7_readPiece 13 = .ok (.getfield 28, 3) := by decide +kernel
theorem dX7_readPiece_16 : decode cX7_readPiece 16 = .ok (.iconst 4, 1) := by decide +kernel
theorem dX7_readPiece_17 : decode cX7_readPiece 17 = .ok (.iaload, 1) := by decide +kernel
theorem dX7_readPiece_18 : decode cX7_readPiece 18 = .ok (.ifCond .le 22, 3) := by decide +kernel
theorem dX7_readPiece_21 : decode cX7_readPiece 21 = .ok (.aload_n 0, 1) := by decide +kernel
theorem dX7_readPiece_22 : decode cX7_readPiece 22 = .ok (.aload_n 0, 1) := by decide +kernel
theorem dX7_readPiece_23 : decode cX7_readPiece 23 = .ok (.getfield 28, 3) := by decide +kernel
theorem dX7_readPiece_26 : decode cX7_readPiece 26 = .ok (.iconst 4, 1) := by decide +kernel
theorem dX7_readPiece_27 : decode cX7_readPiece 27 = .ok (.iaload, 1) := by decide +kernel
theorem dX7_readPiece_28 : decode cX7_readPiece 28 = .ok (.ifCond .le 7, 3) := by decide +kernel
theorem dX7_readPiece_31 : decode cX7_readPiece 31 = .ok (.iconst 1, 1) := by decide +kernel
theorem dX7_readPiece_32 : decode cX7_readPiece 32 = .ok (.goto 4, 3) := by decide +kernel
theorem dX7_readPiece_35 : decode cX7_readPiece 35 = .ok (.iconst 3, 1) := by decide +kernel
theorem dX7_readPiece_36 : decode cX7_readPiece 36 = .ok (.invokevirtual 111, 3) := by decide +kernel
theorem dX7_readPiece_39 : decode cX7_readPiece 39 = .ok (.ireturn, 1) := by decide +kernel
theorem dX7_readPiece_40 : decode cX7_readPiece 40 = .ok (.aload_n 0, 1) := by decide +kernel
theorem dX7_readPiece_41 : decode cX7_readPiece 41 = .ok (.invokevirtual 114, 3) := by decide +kernel
theorem dX7_readPiece_44 : decode cX7_readPiece 44 = .ok (.aload_n 0, 1) := by decide +kernel
theorem dX7_readPiece_45 : decode cX7_readPiece 45 = .ok (.getfield 28, 3) := by decide +kernel
theorem dX7_readPiece_48 : decode cX7_readPiece 48 = .ok (.iconst 3, 1) := by decide +kernel
theorem dX7_readPiece_49 : decode cX7_readPiece 49 = .ok (.dup2, 1) := by decide +kernel
theorem dX7_readPiece_50 : decode cX7_readPiece 50 = .ok (.iaload, 1) := by decide +kernel
theorem dX7_readPiece_51 : decode cX7_readPiece 51 = .ok (.iconst 1, 1) := by decide +kernel
theorem dX7_readPiece_52 : decode cX7_readPiece 52 = .ok (.iadd, 1) := by decide +kernel
theorem dX7_readPiece_53 : decode cX7_readPiece 53 = .ok (.iastore, 1) := by decide +kernel
theorem dX7_readPiece_54 : decode cX7_readPiece 54 = .ok (.aload_n 0, 1) := by decide +kernel
theorem dX7_readPiece_55 : decode cX7_readPiece 55 = .ok (.getfield 91, 3) := by decide +kernel
theorem dX7_readPiece_58 : decode cX7_readPiece 58 = .ok (.iconst 1, 1) := by decide +kernel
theorem dX7_readPiece_59 : decode cX7_readPiece 59 = .ok (.if_icmp .ne 92, 3) := by decide +kernel
theorem dX7_readPiece_62 : decode cX7_readPiece 62 = .ok (.aload_n 0, 1) := by decide +kernel
theorem dX7_readPiece_63 : decode cX7_readPiece 63 = .ok (.getfield 94, 3) := by decide +kernel
theorem dX7_readPiece_66 : decode cX7_readPiece 66 = .ok (.i2l, 1) := by decide +kernel
theorem dX7_readPiece_67 : decode cX7_readPiece 67 = .ok (.ldc2_w 101, 3) := by decide +kernel
theorem dX7_readPiece_70 : decode cX7_readPiece 70 = .ok (.bipush 97, 2) := by decide +kernel
theorem dX7_readPiece_72 : decode cX7_readPiece 72 = .ok (.aload_n 0, 1) := by decide +kernel
theorem dX7_readPiece_73 : decode cX7_readPiece 73 = .ok (.getfield 28, 3) := by decide +kernel
theorem dX7_readPiece_76 : decode cX7_readPiece 76 = .ok (.iconst 0, 1) := by decide +kernel
theorem dX7_readPiece_77 : decode cX7_readPiece 77 = .ok (.iaload, 1) := by decide +kernel
theorem dX7_readPiece_78 : decode cX7_readPiece 78 = .ok (.iadd, 1) := by decide +kernel
theorem dX7_readPiece_79 : decode cX7_readPiece 79 = .ok (.iconst 1, 1) := by decide +kernel
theorem dX7_readPiece_80 : decode cX7_readPiece 80 = .ok (.isub, 1) := by decide +kernel
theorem dX7_readPiece_81 : decode cX7_readPiece 81 = .ok (.i2l, 1) := by decide +kernel
theorem dX7_readPiece_82 : decode cX7_readPiece 82 = .ok (.invokestatic 57, 3) := by decide +kernel
theorem dX7_readPiece_85 : decode cX7_readPiece 85 = .ok (.ifCond .eq 66, 3) := by decide +kernel
theorem dX7_readPiece_88 : decode cX7_readPiece 88 = .ok (.aload_n 0, 1) := by decide +kernel
theorem dX7_readPiece_89 : decode cX7_readPiece 89 = .ok (.getfield 28, 3) := by decide +kernel
theorem dX7_readPiece_92 : decode cX7_readPiece 92 = .ok (.bipush 6, 2) := by decide +kernel
theorem dX7_readPiece_94 : decode cX7_readPiece 94 = .ok (.iload_n 1, 1) := by decide +kernel
theorem dX7_readPiece_95 : decode cX7_readPiece 95 = .ok (.iadd, 1) := by decide +kernel
theorem dX7_readPiece_96 : decode cX7_readPiece 96 = .ok (.iaload, 1) := by decide +kernel
theorem dX7_readPiece_97 : decode cX7_readPiece 97 = .ok (.bipush 8, 2) := by decide +kernel
theorem dX7_readPiece_99 : decode cX7_readPiece 99 = .ok (.if_icmp .ge 52, 3) := by decide +kernel
theorem dX7_readPiece_102 : decode cX7_readPiece 102 = .ok (.aload_n 0, 1) := by decide +kernel
theorem dX7_readPiece_103 : decode cX7_readPiece 103 = .ok (.getfield 28, 3) := by decide +kernel
theorem dX7_readPiece_106 : decode cX7_readPiece 106 = .ok (.bipush 10, 2) := by decide +kernel
theorem dX7_readPiece_108 : decode cX7_readPiece 108 = .ok (.bipush 8, 2) := by decide +kernel
theorem dX7_readPiece_110 : decode cX7_readPiece 110 = .ok (.iload_n 1, 1) := by decide +kernel
theorem dX7_readPiece_111 : decode cX7_readPiece 111 = .ok (.imul, 1) := by decide +kernel
theorem dX7_readPiece_112 : decode cX7_readPiece 112 = .ok (.iadd, 1) := by decide +kernel
theorem dX7_readPiece_113 : decode cX7_readPiece 113 = .ok (.aload_n 0, 1) := by decide +kernel
theorem dX7_readPiece_114 : decode cX7_readPiece 114 = .ok (.getfield 28, 3) := by decide +kernel
theorem dX7_readPiece_117 : decode cX7_readPiece 117 = .ok (.bipush 6, 2) := by decide +kernel
theorem dX7_readPiece_119 : decode cX7_readPiece 119 = .ok (.iload_n 1, 1) := by decide +kernel
theorem dX7_readPiece_120 : decode cX7_readPiece 120 = .ok (.iadd, 1) := by decide +kernel
theorem dX7_readPiece_121 : decode cX7_readPiece 121 = .ok (.iaload, 1) := by decide +kernel
theorem dX7_readPiece_122 : decode cX7_readPiece 122 = .ok (.iadd, 1) := by decide +kernel
theorem dX7_readPiece_123 : decode cX7_readPiece 123 = .ok (.aload_n 0, 1) := by decide +kernel
theorem dX7_readPiece_124 : decode cX7_readPiece 124 = .ok (.getfield 94, 3) := by decide +kernel
theorem dX7_readPiece_127 : decode cX7_readPiece 127 = .ok (.bipush 97, 2) := by decide +kernel
theorem dX7_readPiece_129 : decode cX7_readPiece 129 = .ok (.isub, 1) := by decide +kernel
theorem dX7_readPiece_130 : decode cX7_readPiece 130 = .ok (.iastore, 1) := by decide +kernel
theorem dX7_readPiece_131 : decode cX7_readPiece 131 = .ok (.aload_n 0, 1) := by decide +kernel
theorem dX7_readPiece_132 : decode cX7_readPiece 132 = .ok (.getfield 28, 3) := by decide +kernel
theorem dX7_readPiece_135 : decode cX7_readPiece 135 = .ok (.bipush 6, 2) := by decide +kernel
theorem dX7_readPiece_137 : decode cX7_readPiece 137 = .ok (.iload_n 1, 1) := by decide +kernel
theorem dX7_readPiece_138 : decode cX7_readPiece 138 = .ok (.iadd, 1) := by decide +kernel
theorem dX7_readPiece_139 : decode cX7_readPiece 139 = .ok (.dup2, 1) := by decide +kernel
theorem dX7_readPiece_140 : decode cX7_readPiece 140 = .ok (.iaload, 1) := by decide +kernel
theorem dX7_readPiece_141 : decode cX7_readPiece 141 = .ok (.iconst 1, 1) := by decide +kernel
theorem dX7_readPiece_142 : decode cX7_readPiece 142 = .ok (.iadd, 1) := by decide +kernel
theorem dX7_readPiece_143 : decode cX7_readPiece 143 = .ok (.iastore, 1) := by decide +kernel
theorem dX7_readPiece_144 : decode cX7_readPiece 144 = .ok (.aload_n 0, 1) := by decide +kernel
theorem dX7_readPiece_145 : decode cX7_readPiece 145 = .ok (.invokevirtual 114, 3) := by decide +kernel
theorem dX7_readPiece_148 : decode cX7_readPiece 148 = .ok (.goto (-94), 3) := by decide +kernel
theorem dX7_readPiece_151 : decode cX7_readPiece 151 = .ok (.aload_n 0, 1) := by decide +kernel
theorem dX7_readPiece_152 : decode cX7_readPiece 152 = .ok (.getfield 28, 3) := by decide +kernel
theorem dX7_readPiece_155 : decode cX7_readPiece 155 = .ok (.bipush 6, 2) := by decide +kernel
theorem dX7_readPiece_157 : decode cX7_readPiece 157 = .ok (.iload_n 1, 1) := by decide +kernel
theorem dX7_readPiece_158 : decode cX7_readPiece 158 = .ok (.iadd, 1) := by decide +kernel
theorem dX7_readPiece_159 : decode cX7_readPiece 159 = .ok (.iaload, 1) := by decide +kernel
theorem dX7_readPiece_160 : decode cX7_readPiece 160 = .ok (.ifCond .le 12, 3) := by decide +kernel
theorem dX7_readPiece_163 : decode cX7_readPiece 163 = .ok (.aload_n 0, 1) := by decide +kernel
theorem dX7_readPiece_164 : decode cX7_readPiece 164 = .ok (.bipush 59, 2) := by decide +kernel
theorem dX7_readPiece_166 : decode cX7_readPiece 166 = .ok (.invokevirtual 117, 3) := by decide +kernel
theorem dX7_readPiece_169 : decode cX7_readPiece 169 = .ok (.goto 8, 3) := by decide +kernel
theorem dX7_readPiece_172 : decode cX7_readPiece 172 = .ok (.aload_n 0, 1) := by decide +kernel
theorem dX7_readPiece_173 : decode cX7_readPiece 173 = .ok (.iconst 1, 1) := by decide +kernel
theorem dX7_readPiece_174 : decode cX7_readPiece 174 = .ok (.invokevirtual 111, 3) := by decide +kernel
theorem dX7_readPiece_177 : decode cX7_readPiece 177 = .ok (.ireturn, 1) := by decide +kernel
theorem dX7_readPupil_0 : decode cX7_readPupil 0 = .ok (.aload_n 0, 1) := by decide +kernel
theorem dX7_readPupil_1 : decode cX7_readPupil 1 = .ok (.getfield 28, 3) := by decide +kernel
theorem dX7_readPupil_4 : decode cX7_readPupil 4 = .ok (.iconst 4, 1) := by decide +kernel
theorem dX7_readPupil_5 : decode cX7_readPupil 5 = .ok (.iaload, 1) := by decide +kernel
theorem dX7_readPupil_6 : decode cX7_readPupil 6 = .ok (.istore_n 2, 1) := by decide +kernel
theorem dX7_readPupil_7 : decode cX7_readPupil 7 = .ok (.iload_n 2, 1) := by decide +kernel
theorem dX7_readPupil_8 : decode cX7_readPupil 8 = .ok (.iconst 5, 1) := by decide +kernel
theorem dX7_readPupil_9 : decode cX7_readPupil 9 = .ok (.if_icmp .ne 9, 3) := by decide +kernel
theorem dX7_readPupil_12 : decode cX7_readPupil 12 = .ok (.aload_n 0, 1) := by decide +kernel
theorem dX7_readPupil_13 : decode cX7_readPupil 13 = .ok (.iconst 3, 1) := by decide +kernel
theorem dX7_readPupil_14 : decode cX7_readPupil 14 = .ok (.invokevirtual 111, 3) := by decide +kernel
theorem dX7_readPupil_17 : decode cX7_readPupil 17 = .ok (.ireturn, 1) := by decide +kernel
theorem dX7_readPupil_18 : decode cX7_readPupil 18 = .ok (.aload_n 0, 1) := by decide +kernel
theorem dX7_readPupil_19 : decode cX7_readPupil 19 = .ok (.invokevirtual 114, 3) := by decide +kernel
theorem dX7_readPupil_22 : decode cX7_readPupil 22 = .ok (.aload_n 0, 1) := by decide +kernel
theorem dX7_readPupil_23 : decode cX7_readPupil 23 = .ok (.getfield 28, 3) := by decide +kernel
theorem dX7_readPupil_26 : decode cX7_readPupil 26 = .ok (.bipush 42, 2) := by decide +kernel
theorem dX7_readPupil_28 : decode cX7_readPupil 28 = .ok (.iload_n 2, 1) := by decide +kernel
theorem dX7_readPupil_29 : decode cX7_readPupil 29 = .ok (.iadd, 1) := by decide +kernel
theorem dX7_readPupil_30 : decode cX7_readPupil 30 = .ok (.iload_n 1, 1) := by decide +kernel
theorem dX7_readPupil_31 : decode cX7_readPupil 31 = .ok (.iastore, 1) := by decide +kernel
theorem dX7_readPupil_32 : decode cX7_readPupil 32 = .ok (.aload_n 0, 1) := by decide +kernel
theorem dX7_readPupil_33 : decode cX7_readPupil 33 = .ok (.getfield 28, 3) := by decide +kernel
theorem dX7_readPupil_36 : decode cX7_readPupil 36 = .ok (.iconst 4, 1) := by decide +kernel
theorem dX7_readPupil_37 : decode cX7_readPupil 37 = .ok (.dup2, 1) := by decide +kernel
theorem dX7_readPupil_38 : decode cX7_readPupil 38 = .ok (.iaload, 1) := by decide +kernel
theorem dX7_readPupil_39 : decode cX7_readPupil 39 = .ok (.iconst 1, 1) := by decide +kernel
theorem dX7_readPupil_40 : decode cX7_readPupil 40 = .ok (.iadd, 1) := by decide +kernel
theorem dX7_readPupil_41 : decode cX7_readPupil 41 = .ok (.iastore, 1) := by decide +kernel
theorem dX7_readPupil_42 : decode cX7_readPupil 42 = .ok (.aload_n 0, 1) := by decide +kernel
theorem dX7_readPupil_43 : decode cX7_readPupil 43 = .ok (.iconst 0, 1) := by decide +kernel
theorem dX7_readPupil_44 : decode cX7_readPupil 44 = .ok (.aload_n 0, 1) := by decide +kernel
theorem dX7_readPupil_45 : decode cX7_readPupil 45 = .ok (.getfield 28, 3) := by decide +kernel
theorem dX7_readPupil_48 : decode cX7_readPupil 48 = .ok (.iconst 0, 1) := by decide +kernel
theorem dX7_readPupil_49 : decode cX7_readPupil 49 = .ok (.iaload, 1) := by decide +kernel
theorem dX7_readPupil_50 : decode cX7_readPupil 50 = .ok (.iconst 1, 1) := by decide +kernel
theorem dX7_readPupil_51 : decode cX7_readPupil 51 = .ok (.isub, 1) := by decide +kernel
theorem dX7_readPupil_52 : decode cX7_readPupil 52 = .ok (.bipush 47, 2) := by decide +kernel
theorem dX7_readPupil_54 : decode cX7_readPupil 54 = .ok (.iload_n 2, 1) := by decide +kernel
theorem dX7_readPupil_55 : decode cX7_readPupil 55 = .ok (.iadd, 1) := by decide +kernel
theorem dX7_readPupil_56 : decode cX7_readPupil 56 = .ok (.bipush 44, 2) := by decide +kernel
theorem dX7_readPupil_58 : decode cX7_readPupil 58 = .ok (.invokevirtual 120, 3) := by decide +kernel
theorem dX7_readPupil_61 : decode cX7_readPupil 61 = .ok (.ifCond .eq 23, 3) := by decide +kernel
theorem dX7_readPupil_64 : decode cX7_readPupil 64 = .ok (.aload_n 0, 1) := by decide +kernel
theorem dX7_readPupil_65 : decode cX7_readPupil 65 = .ok (.iconst 1, 1) := by decide +kernel
theorem dX7_readPupil_66 : decode cX7_readPupil 66 = .ok (.bipush 12, 2) := by decide +kernel
theorem dX7_readPupil_68 : decode cX7_readPupil 68 = .ok (.bipush 52, 2) := by decide +kernel
theorem dX7_readPupil_70 : decode cX7_readPupil 70 = .ok (.iload_n 2, 1) := by decide +kernel
theorem dX7_readPupil_71 : decode cX7_readPupil 71 = .ok (.iadd, 1) := by decide +kernel
theorem dX7_readPupil_72 : decode cX7_readPupil 72 = .ok (.bipush 59, 2) := by decide +kernel
theorem dX7_readPupil_74 : decode cX7_readPupil 74 = .ok (.invokevirtual 120, 3) := by decide +kernel
theorem dX7_readPupil_77 : decode cX7_readPupil 77 = .ok (.ifCond .eq 7, 3) := by decide +kernel
theorem dX7_readPupil_80 : decode cX7_readPupil 80 = .ok (.iconst 1, 1) := by decide +kernel
theorem dX7_readPupil_81 : decode cX7_readPupil 81 = .ok (.goto 4, 3) := by decide +kernel
theorem dX7_readPupil_84 : decode cX7_readPupil 84 = .ok (.iconst 0, 1) := by decide +kernel
theorem dX7_readPupil_85 : decode cX7_readPupil 85 = .ok (.ireturn, 1) := by decide +kernel
theorem dX7_readHall_0 : decode cX7_readHall 0 = .ok (.aload_n 0, 1) := by decide +kernel
theorem dX7_readHall_1 : decode cX7_readHall 1 = .ok (.iconst 0, 1) := by decide +kernel
theorem dX7_readHall_2 : decode cX7_readHall 2 = .ok (.putfield 85, 3) := by decide +kernel
theorem dX7_readHall_5 : decode cX7_readHall 5 = .ok (.iconst 0, 1) := by decide +kernel
theorem dX7_readHall_6 : decode cX7_readHall 6 = .ok (.istore_n 1, 1) := by decide +kernel
theorem dX7_readHall_7 : decode cX7_readHall 7 = .ok (.iload_n 1, 1) := by decide +kernel
theorem dX7_readHall_8 : decode cX7_readHall 8 = .ok (.bipush 57, 2) := by decide +kernel
theorem dX7_readHall_10 : decode cX7_readHall 10 = .ok (.if_icmp .ge 16, 3) := by decide +kernel
theorem dX7_readHall_13 : decode cX7_readHall 13 = .ok (.aload_n 0, 1) := by decide +kernel
theorem dX7_readHall_14 : decode cX7_readHall 14 = .ok (.getfield 28, 3) := by decide +kernel
theorem dX7_readHall_17 : decode cX7_readHall 17 = .ok (.iload_n 1, 1) := by decide +kernel
theorem dX7_readHall_18 : decode cX7_readHall 18 = .ok (.iconst 0, 1) := by decide +kernel
theorem dX7_readHall_19 : decode cX7_readHall 19 = .ok (.iastore, 1) := by decide +kernel
theorem dX7_readHall_20 : decode cX7_readHall 20 = .ok (.iinc 1 1, 3) := by decide +kernel
theorem dX7_readHall_23 : decode cX7_readHall 23 = .ok (.goto (-16), 3) := by decide +kernel
theorem dX7_readHall_26 : decode cX7_readHall 26 = .ok (.aload_n 0, 1) := by decide +kernel
theorem dX7_readHall_27 : decode cX7_readHall 27 = .ok (.invokevirtual 114, 3) := by decide +kernel
theorem dX7_readHall_30 : decode cX7_readHall 30 = .ok (.aload_n 0, 1) := by decide +kernel
theorem dX7_readHall_31 : decode cX7_readHall 31 = .ok (.bipush 107, 2) := by decide +kernel
theorem dX7_readHall_33 : decode cX7_readHall 33 = .ok (.invokevirtual 117, 3) := by decide +kernel
theorem dX7_readHall_36 : decode cX7_readHall 36 = .ok (.ifCond .eq 54, 3) := by decide +kernel
theorem dX7_readHall_39 : decode cX7_readHall 39 = .ok (.aload_n 0, 1) := by decide +kernel
theorem dX7_readHall_40 : decode cX7_readHall 40 = .ok (.iconst 2, 1) := by decide +kernel
theorem dX7_readHall_41 : decode cX7_readHall 41 = .ok (.bipush 12, 2) := by decide +kernel
theorem dX7_readHall_43 : decode cX7_readHall 43 = .ok (.iconst 0, 1) := by decide +kernel
theorem dX7_readHall_44 : decode cX7_readHall 44 = .ok (.bipush 44, 2) := by decide +kernel
theorem dX7_readHall_46 : decode cX7_readHall 46 = .ok (.invokevirtual 120, 3) := by decide +kernel
theorem dX7_readHall_49 : decode cX7_readHall 49 = .ok (.ifCond .eq 41, 3) := by decide +kernel
theorem dX7_readHall_52 : decode cX7_readHall 52 = .ok (.aload_n 0, 1) := by decide +kernel
theorem dX7_readHall_53 : decode cX7_readHall 53 = .ok (.iconst 0, 1) := by decide +kernel
theorem dX7_readHall_54 : decode cX7_readHall 54 = .ok (.aload_n 0, 1) := by decide +kernel
theorem dX7_readHall_55 : decode cX7_readHall 55 = .ok (.getfield 28, 3) := by decide +kernel
theorem dX7_readHall_58 : decode cX7_readHall 58 = .ok (.iconst 0, 1) := by decide +kernel
theorem dX7_readHall_59 : decode cX7_readHall 59 = .ok (.iaload, 1) := by decide +kernel
theorem dX7_readHall_60 : decode cX7_readHall 60 = .ok (.iconst 1, 1) := by decide +kernel
theorem dX7_readHall_61 : decode cX7_readHall 61 = .ok (.isub, 1) := by decide +kernel
theorem dX7_readHall_62 : decode cX7_readHall 62 = .ok (.iconst 1, 1) := by decide +kernel
theorem dX7_readHall_63 : decode cX7_readHall 63 = .ok (.bipush 44, 2) := by decide +kernel
theorem dX7_readHall_65 : decode cX7_readHall 65 = .ok (.invokevirtual 120, 3) := by decide +kernel
theorem dX7_readHall_68 : decode cX7_readHall 68 = .ok (.ifCond .eq 22, 3) := by decide +kernel
theorem dX7_readHall_71 : decode cX7_readHall 71 = .ok (.aload_n 0, 1) := by decide +kernel
theorem dX7_readHall_72 : decode cX7_readHall 72 = .ok (.iconst 0, 1) := by decide +kernel
theorem dX7_readHall_73 : decode cX7_readHall 73 = .ok (.aload_n 0, 1) := by decide +kernel
theorem dX7_readHall_74 : decode cX7_readHall 74 = .ok (.getfield 28, 3) := by decide +kernel
theorem dX7_readHall_77 : decode cX7_readHall 77 = .ok (.iconst 0, 1) := by decide +kernel
theorem dX7_readHall_78 : decode cX7_readHall 78 = .ok (.iaload, 1) := by decide +kernel
theorem dX7_readHall_79 : decode cX7_readHall 79 = .ok (.iconst 1, 1) := by decide +kernel
theorem dX7_readHall_80 : decode cX7_readHall 80 = .ok (.isub, 1) := by decide +kernel
theorem dX7_readHall_81 : decode cX7_readHall 81 = .ok (.iconst 2, 1) := by decide +kernel
theorem dX7_readHall_82 : decode cX7_readHall 82 = .ok (.bipush 59, 2) := by decide +kernel
theorem dX7_readHall_84 : decode cX7_readHall 84 = .ok (.invokevirtual 120, 3) := by decide +kernel
theorem dX7_readHall_87 : decode cX7_readHall 87 = .ok (.ifCond .ne 5, 3) := by decide +kernel
theorem dX7_readHall_90 : decode cX7_readHall 90 = .ok (.iconst 0, 1) := by decide +kernel
theorem dX7_readHall_91 : decode cX7_readHall 91 = .ok (.ireturn, 1) := by decide +kernel
theorem dX7_readHall_92 : decode cX7_readHall 92 = .ok (.iconst 1, 1) := by decide +kernel
theorem dX7_readHall_93 : decode cX7_readHall 93 = .ok (.istore_n 1, 1) := by decide +kernel
theorem dX7_readHall_94 : decode cX7_readHall 94 = .ok (.iload_n 1, 1) := by decide +kernel
theorem dX7_readHall_95 : decode cX7_readHall 95 = .ok (.ifCond .eq 115, 3) := by decide +kernel
theorem dX7_readHall_98 : decode cX7_readHall 98 = .ok (.aload_n 0, 1) := by decide +kernel
theorem dX7_readHall_99 : decode cX7_readHall 99 = .ok (.getfield 91, 3) := by decide +kernel
theorem dX7_readHall_102 : decode cX7_readHall 102 = .ok (.iconst 3, 1) := by decide +kernel
theorem dX7_readHall_103 : decode cX7_readHall 103 = .ok (.if_icmp .eq 107, 3) := by decide +kernel
theorem dX7_readHall_106 : decode cX7_readHall 106 = .ok (.aload_n 0, 1) := by decide +kernel
theorem dX7_readHall_107 : decode cX7_readHall 107 = .ok (.bipush 112, 2) := by decide +kernel
theorem dX7_readHall_109 : decode cX7_readHall 109 = .ok (.invokevirtual 108, 3) := by decide +kernel
theorem dX7_readHall_112 : decode cX7_readHall 112 = .ok (.ifCond .eq 7, 3) := by decide +kernel
theorem dX7_readHall_115 : decode cX7_readHall 115 = .ok (.iconst 1, 1) := by decide +kernel
theorem dX7_readHall_116 : decode cX7_readHall 116 = .ok (.goto 56, 3) := by decide +kernel
theorem dX7_readHall_119 : decode cX7_readHall 119 = .ok (.aload_n 0, 1) := by decide +kernel
theorem dX7_readHall_120 : decode cX7_readHall 120 = .ok (.bipush 118, 2) := by decide +kernel
theorem dX7_readHall_122 : decode cX7_readHall 122 = .ok (.invokevirtual 108, 3) := by decide +kernel
theorem dX7_readHall_125 : decode cX7_readHall 125 = .ok (.ifCond .eq 7, 3) := by decide +kernel
theorem dX7_readHall_128 : decode cX7_readHall 128 = .ok (.iconst 2, 1) := by decide +kernel
theorem dX7_readHall_129 : decode cX7_readHall 129 = .ok (.goto 43, 3) := by decide +kernel
theorem dX7_readHall_132 : decode cX7_readHall 132 = .ok (.aload_n 0, 1) := by decide +kernel
theorem dX7_readHall_133 : decode cX7_readHall 133 = .ok (.bipush 115, 2) := by decide +kernel
theorem dX7_readHall_135 : decode cX7_readHall 135 = .ok (.invokevirtual 108, 3) := by decide +kernel
theorem dX7_readHall_138 : decode cX7_readHall 138 = .ok (.ifCond .eq 7, 3) := by decide +kernel
theorem dX7_readHall_141 : decode cX7_readHall 141 = .ok (.iconst 3, 1) := by decide +kernel
theorem dX7_readHall_142 : decode cX7_readHall 142 = .ok (.goto 30, 3) := by decide +kernel
theorem dX7_readHall_145 : decode cX7_readHall 145 = .ok (.aload_n 0, 1) := by decide +kernel
theorem dX7_readHall_146 : decode cX7_readHall 146 = .ok (.bipush 99, 2) := by decide +kernel
theorem dX7_readHall_148 : decode cX7_readHall 148 = .ok (.invokevirtual 108, 3) := by decide +kernel
theorem dX7_readHall_151 : decode cX7_readHall 151 = .ok (.ifCond .eq 7, 3) := by decide +kernel
theorem dX7_readHall_154 : decode cX7_readHall 154 = .ok (.iconst 4, 1) := by decide +kernel
theorem dX7_readHall_155 : decode cX7_readHall 155 = .ok (.goto 17, 3) := by decide +kernel
theorem dX7_readHall_158 : decode cX7_readHall 158 = .ok (.aload_n 0, 1) := by decide +kernel
theorem dX7_readHall_159 : decode cX7_readHall 159 = .ok (.bipush 109, 2) := by decide +kernel
theorem dX7_readHall_161 : decode cX7_readHall 161 = .ok (.invokevirtual 108, 3) := by decide +kernel
theorem dX7_readHall_164 : decode cX7_readHall 164 = .ok (.ifCond .eq 7, 3) := by decide +kernel
theorem dX7_readHall_167 : decode cX7_readHall 167 = .ok (.iconst 5, 1) := by decide +kernel
theorem dX7_readHall_168 : decode cX7_readHall 168 = .ok (.goto 4, 3) := by decide +kernel
theorem dX7_readHall_171 : decode cX7_readHall 171 = .ok (.iconst 0, 1) := by decide +kernel
theorem dX7_readHall_172 : decode cX7_readHall 172 = .ok (.istore_n 2, 1) := by decide +kernel
theorem dX7_readHall_173 : decode cX7_readHall 173 = .ok (.iload_n 2, 1) := by decide +kernel
theorem dX7_readHall_174 : decode cX7_readHall 174 = .ok (.ifCond .le 11, 3) := by decide +kernel
theorem dX7_readHall_177 : decode cX7_readHall 177 = .ok (.aload_n 0, 1) := by decide +kernel
theorem dX7_readHall_178 : decode cX7_readHall 178 = .ok (.iload_n 2, 1) := by decide +kernel
theorem dX7_readHall_179 : decode cX7_readHall 179 = .ok (.invokevirtual 124, 3) := by decide +kernel
theorem dX7_readHall_182 : decode cX7_readHall 182 = .ok (.goto 24, 3) := by decide +kernel
theorem dX7_readHall_185 : decode cX7_readHall 185 = .ok (.aload_n 0, 1) := by decide +kernel
theorem dX7_readHall_186 : decode cX7_readHall 186 = .ok (.bipush 116, 2) := by decide +kernel
theorem dX7_readHall_188 : decode cX7_readHall 188 = .ok (.invokevirtual 108, 3) := by decide +kernel
theorem dX7_readHall_191 : decode cX7_readHall 191 = .ok (.ifCond .eq 10, 3) := by decide +kernel
theorem dX7_readHall_194 : decode cX7_readHall 194 = .ok (.aload_n 0, 1) := by decide +kernel
theorem dX7_readHall_195 : decode cX7_readHall 195 = .ok (.invokevirtual 127, 3) := by decide +kernel
theorem dX7_readHall_198 : decode cX7_readHall 198 = .ok (.goto 8, 3) := by decide +kernel
theorem dX7_readHall_201 : decode cX7_readHall 201 = .ok (.aload_n 0, 1) := by decide +kernel
theorem dX7_readHall_202 : decode cX7_readHall 202 = .ok (.iconst 1, 1) := by decide +kernel
theorem dX7_readHall_203 : decode cX7_readHall 203 = .ok (.invokevirtual 111, 3) := by decide +kernel
theorem dX7_readHall_206 : decode cX7_readHall 206 = .ok (.istore_n 1, 1) := by decide +kernel
theorem dX7_readHall_207 : decode cX7_readHall 207 = .ok (.goto (-113), 3) := by decide +kernel
theorem dX7_readHall_210 : decode cX7_readHall 210 = .ok (.iload_n 1, 1) := by decide +kernel
theorem dX7_readHall_211 : decode cX7_readHall 211 = .ok (.ireturn, 1) := by decide +kernel
theorem dX7_hall_0 : decode cX7_hall 0 = .ok (.aload_n 0, 1) := by decide +kernel
theorem dX7_hall_1 : decode cX7_hall 1 = .ok (.invokevirtual 131, 3) := by decide +kernel
theorem dX7_hall_4 : decode cX7_hall 4 = .ok (.istore_n 1, 1) := by decide +kernel
theorem dX7_hall_5 : decode cX7_hall 5 = .ok (.aload_n 0, 1) := by decide +kernel
theorem dX7_hall_6 : decode cX7_hall 6 = .ok (.iconst 0, 1) := by decide +kernel
theorem dX7_hall_7 : decode cX7_hall 7 = .ok (.putfield 81, 3) := by decide +kernel
theorem dX7_hall_10 : decode cX7_hall 10 = .ok (.iload_n 1, 1) := by decide +kernel
theorem dX7_hall_11 : decode cX7_hall 11 = .ok (.ifCond .ne 19, 3) := by decide +kernel
theorem dX7_hall_14 : decode cX7_hall 14 = .ok (.aload_n 0, 1) := by decide +kernel
theorem dX7_hall_15 : decode cX7_hall 15 = .ok (.aload_n 0, 1) := by decide +kernel
theorem dX7_hall_16 : decode cX7_hall 16 = .ok (.getfield 105, 3) := by decide +kernel
theorem dX7_hall_19 : decode cX7_hall 19 = .ok (.putfield 134, 3) := by decide +kernel
theorem dX7_hall_22 : decode cX7_hall 22 = .ok (.ldc 137, 2) := by decide +kernel
theorem dX7_hall_24 : decode cX7_hall 24 = .ok (.aload_n 0, 1) := by decide +kernel
theorem dX7_hall_25 : decode cX7_hall 25 = .ok (.getfield 88, 3) := by decide +kernel
theorem dX7_hall_28 : decode cX7_hall 28 = .ok (.isub, 1) := by decide +kernel
theorem dX7_hall_29 : decode cX7_hall 29 = .ok (.ireturn, 1) := by decide +kernel
theorem dX7_hall_30 : decode cX7_hall 30 = .ok (.iconst 0, 1) := by decide +kernel
theorem dX7_hall_31 : decode cX7_hall 31 = .ok (.istore_n 2, 1) := by decide +kernel
theorem dX7_hall_32 : decode cX7_hall 32 = .ok (.iload_n 2, 1) := by decide +kernel
theorem dX7_hall_33 : decode cX7_hall 33 = .ok (.bipush 57, 2) := by decide +kernel
theorem dX7_hall_35 : decode cX7_hall 35 = .ok (.if_icmp .ge 21, 3) := by decide +kernel
theorem dX7_hall_38 : decode cX7_hall 38 = .ok (.aload_n 0, 1) := by decide +kernel
theorem dX7_hall_39 : decode cX7_hall 39 = .ok (.getfield 19, 3) := by decide +kernel
theorem dX7_hall_42 : decode cX7_hall 42 = .ok (.iload_n 2, 1) := by decide +kernel
theorem dX7_hall_43 : decode cX7_hall 43 = .ok (.aload_n 0, 1) := by decide +kernel
theorem dX7_hall_44 : decode cX7_hall 44 = .ok (.getfield 28, 3) := by decide +kernel
theorem dX7_hall_47 : decode cX7_hall 47 = .ok (.iload_n 2, 1) := by decide +kernel
theorem dX7_hall_48 : decode cX7_hall 48 = .ok (.iaload, 1) := by decide +kernel
theorem dX7_hall_49 : decode cX7_hall 49 = .ok (.iastore, 1) := by decide +kernel
theorem dX7_hall_50 : decode cX7_hall 50 = .ok (.iinc 2 1, 3) := by decide +kernel
theorem dX7_hall_53 : decode cX7_hall 53 = .ok (.goto (-21), 3) := by decide +kernel
theorem dX7_hall_56 : decode cX7_hall 56 = .ok (.aload_n 0, 1) := by decide +kernel
theorem dX7_hall_57 : decode cX7_hall 57 = .ok (.iconst 1, 1) := by decide +kernel
theorem dX7_hall_58 : decode cX7_hall 58 = .ok (.putfield 138, 3) := by decide +kernel
theorem dX7_hall_61 : decode cX7_hall 61 = .ok (.aload_n 0, 1) := by decide +kernel
theorem dX7_hall_62 : decode cX7_hall 62 = .ok (.iconst 0, 1) := by decide +kernel
theorem dX7_hall_63 : decode cX7_hall 63 = .ok (.putfield 142, 3) := by decide +kernel
theorem dX7_hall_66 : decode cX7_hall 66 = .ok (.aload_n 0, 1) := by decide +kernel
theorem dX7_hall_67 : decode cX7_hall 67 = .ok (.getfield 19, 3) := by decide +kernel
theorem dX7_hall_70 : decode cX7_hall 70 = .ok (.iconst 4, 1) := by decide +kernel
theorem dX7_hall_71 : decode cX7_hall 71 = .ok (.iaload, 1) := by decide +kernel
theorem dX7_hall_72 : decode cX7_hall 72 = .ok (.ireturn, 1) := by decide +kernel
theorem dX7_fault_0 : decode cX7_fault 0 = .ok (.aload_n 0, 1) := by decide +kernel
theorem dX7_fault_1 : decode cX7_fault 1 = .ok (.getfield 134, 3) := by decide +kernel
theorem dX7_fault_4 : decode cX7_fault 4 = .ok (.ireturn, 1) := by decide +kernel
theorem dX7_note_0 : decode cX7_note 0 = .ok (.aload_n 0, 1) := by decide +kernel
theorem dX7_note_1 : decode cX7_note 1 = .ok (.getfield 142, 3) := by decide +kernel
theorem dX7_note_4 : decode cX7_note 4 = .ok (.bipush 24, 2) := by decide +kernel
theorem dX7_note_6 : decode cX7_note 6 = .ok (.if_icmp .ne 43, 3) := by decide +kernel
theorem dX7_note_9 : decode cX7_note 9 = .ok (.iconst 0, 1) := by decide +kernel
theorem dX7_note_10 : decode cX7_note 10 = .ok (.istore_n 1, 1) := by decide +kernel
theorem dX7_note_11 : decode cX7_note 11 = .ok (.iload_n 1, 1) := by decide +kernel
theorem dX7_note_12 : decode cX7_note 12 = .ok (.sipush 1311, 3) := by decide +kernel
theorem dX7_note_15 : decode cX7_note 15 = .ok (.if_icmp .ge 24, 3) := by decide +kernel
theorem dX7_note_18 : decode cX7_note 18 = .ok (.aload_n 0, 1) := by decide +kernel
theorem dX7_note_19 : decode cX7_note 19 = .ok (.getfield 31, 3) := by decide +kernel
theorem dX7_note_22 : decode cX7_note 22 = .ok (.iload_n 1, 1) := by decide +kernel
theorem dX7_note_23 : decode cX7_note 23 = .ok (.aload_n 0, 1) := by decide +kernel
theorem dX7_note_24 : decode cX7_note 24 = .ok (.getfield 31, 3) := by decide +kernel
theorem dX7_note_27 : decode cX7_note 27 = .ok (.iload_n 1, 1) := by decide +kernel
theorem dX7_note_28 : decode cX7_note 28 = .ok (.bipush 57, 2) := by decide +kernel
theorem dX7_note_30 : decode cX7_note 30 = .ok (.iadd, 1) := by decide +kernel
theorem dX7_note_31 : decode cX7_note 31 = .ok (.iaload, 1) := by decide +kernel
theorem dX7_note_32 : decode cX7_note 32 = .ok (.iastore, 1) := by decide +kernel
theorem dX7_note_33 : decode cX7_note 33 = .ok (.iinc 1 1, 3) := by decide +kernel
theorem dX7_note_36 : decode cX7_note 36 = .ok (.goto (-25), 3) := by decide +kernel
theorem dX7_note_39 : decode cX7_note 39 = .ok (.aload_n 0, 1) := by decide +kernel
theorem dX7_note_40 : decode cX7_note 40 = .ok (.dup, 1) := by decide +kernel
theorem dX7_note_41 : decode cX7_note 41 = .ok (.getfield 142, 3) := by decide +kernel
theorem dX7_note_44 : decode cX7_note 44 = .ok (.iconst 1, 1) := by decide +kernel
theorem dX7_note_45 : decode cX7_note 45 = .ok (.isub, 1) := by decide +kernel
theorem dX7_note_46 : decode cX7_note 46 = .ok (.putfield 142, 3) := by decide +kernel
theorem dX7_note_49 : decode cX7_note 49 = .ok (.iconst 0, 1) := by decide +kernel
theorem dX7_note_50 : decode cX7_note 50 = .ok (.istore_n 1, 1) := by decide +kernel
theorem dX7_note_51 : decode cX7_note 51 = .ok (.iload_n 1, 1) := by decide +kernel
theorem dX7_note_52 : decode cX7_note 52 = .ok (.bipush 57, 2) := by decide +kernel
theorem dX7_note_54 : decode cX7_note 54 = .ok (.if_icmp .ge 29, 3) := by decide +kernel
theorem dX7_note_57 : decode cX7_note 57 = .ok (.aload_n 0, 1) := by decide +kernel
theorem dX7_note_58 : decode cX7_note 58 = .ok (.getfield 31, 3) := by decide +kernel
theorem dX7_note_61 : decode cX7_note 61 = .ok (.bipush 57, 2) := by decide +kernel
theorem dX7_note_63 : decode cX7_note 63 = .ok (.aload_n 0, 1) := by decide +kernel
theorem dX7_note_64 : decode cX7_note 64 = .ok (.getfield 142, 3) := by decide +kernel
theorem dX7_note_67 : decode cX7_note 67 = .ok (.imul, 1) := by decide +kernel
theorem dX7_note_68 : decode cX7_note 68 = .ok (.iload_n 1, 1) := by decide +kernel
theorem dX7_note_69 : decode cX7_note 69 = .ok (.iadd, 1) := by decide +kernel
theorem dX7_note_70 : decode cX7_note 70 = .ok (.aload_n 0, 1) := by decide +kernel
theorem dX7_note_71 : decode cX7_note 71 = .ok (.getfield 19, 3) := by decide +kernel
theorem dX7_note_74 : decode cX7_note 74 = .ok (.iload_n 1, 1) := by decide +kernel
theorem dX7_note_75 : decode cX7_note 75 = .ok (.iaload, 1) := by decide +kernel
theorem dX7_note_76 : decode cX7_note 76 = .ok (.iastore, 1) := by decide +kernel
theorem dX7_note_77 : decode cX7_note 77 = .ok (.iinc 1 1, 3) := by decide +kernel
theorem dX7_note_80 : decode cX7_note 80 = .ok (.goto (-29), 3) := by decide +kernel
theorem dX7_note_83 : decode cX7_note 83 = .ok (.aload_n 0, 1) := by decide +kernel
theorem dX7_note_84 : decode cX7_note 84 = .ok (.dup, 1) := by decide +kernel
theorem dX7_note_85 : decode cX7_note 85 = .ok (.getfield 142, 3) := by decide +kernel
theorem dX7_note_88 : decode cX7_note 88 = .ok (.iconst 1, 1) := by decide +kernel
theorem dX7_note_89 : decode cX7_note 89 = .ok (.iadd, 1) := by decide +kernel
theorem dX7_note_90 : decode cX7_note 90 = .ok (.putfield 142, 3) := by decide +kernel
theorem dX7_note_93 : decode cX7_note 93 = .ok (.return_, 1) := by decide +kernel
theorem dX7_undo_0 : decode cX7_undo 0 = .ok (.aload_n 0, 1) := by decide +kernel
theorem dX7_undo_1 : decode cX7_undo 1 = .ok (.getfield 142, 3) := by decide +kernel
theorem dX7_undo_4 : decode cX7_undo 4 = .ok (.ifCond .ne 6, 3) := by decide +kernel
theorem dX7_undo_7 : decode cX7_undo 7 = .ok (.ldc 145, 2) := by decide +kernel
theorem dX7_undo_9 : decode cX7_undo 9 = .ok (.ireturn, 1) := by decide +kernel
theorem dX7_undo_10 : decode cX7_undo 10 = .ok (.aload_n 0, 1) := by decide +kernel
theorem dX7_undo_11 : decode cX7_undo 11 = .ok (.dup, 1) := by decide +kernel
theorem dX7_undo_12 : decode cX7_undo 12 = .ok (.getfield 142, 3) := by decide +kernel
theorem dX7_undo_15 : decode cX7_undo 15 = .ok (.iconst 1, 1) := by decide +kernel
theorem dX7_undo_16 : decode cX7_undo 16 = .ok (.isub, 1) := by decide +kernel
theorem dX7_undo_17 : decode cX7_undo 17 = .ok (.putfield 142, 3) := by decide +kernel
theorem dX7_undo_20 : decode cX7_undo 20 = .ok (.iconst 0, 1) := by decide +kernel
theorem dX7_undo_21 : decode cX7_undo 21 = .ok (.istore_n 1, 1) := by decide +kernel
theorem dX7_undo_22 : decode cX7_undo 22 = .ok (.iload_n 1, 1) := by decide +kernel
theorem dX7_undo_23 : decode cX7_undo 23 = .ok (.bipush 57, 2) := by decide +kernel
theorem dX7_undo_25 : decode cX7_undo 25 = .ok (.if_icmp .ge 29, 3) := by decide +kernel
theorem dX7_undo_28 : decode cX7_undo 28 = .ok (.aload_n 0, 1) := by decide +kernel
theorem dX7_undo_29 : decode cX7_undo 29 = .ok (.getfield 19, 3) := by decide +kernel
theorem dX7_undo_32 : decode cX7_undo 32 = .ok (.iload_n 1, 1) := by decide +kernel
theorem dX7_undo_33 : decode cX7_undo 33 = .ok (.aload_n 0, 1) := by decide +kernel
theorem dX7_undo_34 : decode cX7_undo 34 = .ok (.getfield 31, 3) := by decide +kernel
theorem dX7_undo_37 : decode cX7_undo 37 = .ok (.bipush 57, 2) := by decide +kernel
theorem dX7_undo_39 : decode cX7_undo 39 = .ok (.aload_n 0, 1) := by decide +kernel
theorem dX7_undo_40 : decode cX7_undo 40 = .ok (.getfield 142, 3) := by decide +kernel
theorem dX7_undo_43 : decode cX7_undo 43 = .ok (.imul, 1) := by decide +kernel
theorem dX7_undo_44 : decode cX7_undo 44 = .ok (.iload_n 1, 1) := by decide +kernel
theorem dX7_undo_45 : decode cX7_undo 45 = .ok (.iadd, 1) := by decide +kernel
theorem dX7_undo_46 : decode cX7_undo 46 = .ok (.iaload, 1) := by decide +kernel
theorem dX7_undo_47 : decode cX7_undo 47 = .ok (.iastore, 1) := by decide +kernel
theorem dX7_undo_48 : decode cX7_undo 48 = .ok (.iinc 1 1, 3) := by decide +kernel
theorem dX7_undo_51 : decode cX7_undo 51 = .ok (.goto (-29), 3) := by decide +kernel
theorem dX7_undo_54 : decode cX7_undo 54 = .ok (.aload_n 0, 1) := by decide +kernel
theorem dX7_undo_55 : decode cX7_undo 55 = .ok (.getfield 142, 3) := by decide +kernel
theorem dX7_undo_58 : decode cX7_undo 58 = .ok (.ireturn, 1) := by decide +kernel
theorem dX7_over_0 : decode cX7_over 0 = .ok (.iload_n 1, 1) := by decide +kernel
theorem dX7_over_1 : decode cX7_over 1 = .ok (.aload_n 0, 1) := by decide +kernel
theorem dX7_over_2 : decode cX7_over 2 = .ok (.getfield 19, 3) := by decide +kernel
theorem dX7_over_5 : decode cX7_over 5 = .ok (.iconst 0, 1) := by decide +kernel
theorem dX7_over_6 : decode cX7_over 6 = .ok (.iaload, 1) := by decide +kernel
theorem dX7_over_7 : decode cX7_over 7 = .ok (.irem, 1) := by decide +kernel
theorem dX7_over_8 : decode cX7_over 8 = .ok (.istore_n 2, 1) := by decide +kernel
theorem dX7_over_9 : decode cX7_over 9 = .ok (.iload_n 2, 1) := by decide +kernel
theorem dX7_over_10 : decode cX7_over 10 = .ok (.ifCond .ge 14, 3) := by decide +kernel
theorem dX7_over_13 : decode cX7_over 13 = .ok (.iload_n 2, 1) := by decide +kernel
theorem dX7_over_14 : decode cX7_over 14 = .ok (.aload_n 0, 1) := by decide +kernel
theorem dX7_over_15 : decode cX7_over 15 = .ok (.getfield 19, 3) := by decide +kernel
theorem dX7_over_18 : decode cX7_over 18 = .ok (.iconst 0, 1) := by decide +kernel
theorem dX7_over_19 : decode cX7_over 19 = .ok (.iaload, 1) := by decide +kernel
theorem dX7_over_20 : decode cX7_over 20 = .ok (.iadd, 1) := by decide +kernel
theorem dX7_over_21 : decode cX7_over 21 = .ok (.goto 4, 3) := by decide +kernel
theorem dX7_over_24 : decode cX7_over 24 = .ok (.iload_n 2, 1) := by decide +kernel
theorem dX7_over_25 : decode cX7_over 25 = .ok (.ireturn, 1) := by decide +kernel
theorem dX7_shiftIn_0 : decode cX7_shiftIn 0 = .ok (.aload_n 0, 1) := by decide +kernel
theorem dX7_shiftIn_1 : decode cX7_shiftIn 1 = .ok (.aload_n 0, 1) := by decide +kernel
theorem dX7_shiftIn_2 : decode cX7_shiftIn 2 = .ok (.getfield 19, 3) := by decide +kernel
theorem dX7_shiftIn_5 : decode cX7_shiftIn 5 = .ok (.iconst 2, 1) := by decide +kernel
theorem dX7_shiftIn_6 : decode cX7_shiftIn 6 = .ok (.iaload, 1) := by decide +kernel
theorem dX7_shiftIn_7 : decode cX7_shiftIn 7 = .ok (.iload_n 1, 1) := by decide +kernel
theorem dX7_shiftIn_8 : decode cX7_shiftIn 8 = .ok (.aload_n 0, 1) := by decide +kernel
theorem dX7_shiftIn_9 : decode cX7_shiftIn 9 = .ok (.getfield 19, 3) := by decide +kernel
theorem dX7_shiftIn_12 : decode cX7_shiftIn 12 = .ok (.iconst 1, 1) := by decide +kernel
theorem dX7_shiftIn_13 : decode cX7_shiftIn 13 = .ok (.iaload, 1) := by decide +kernel
theorem dX7_shiftIn_14 : decode cX7_shiftIn 14 = .ok (.imul, 1) := by decide +kernel
theorem dX7_shiftIn_15 : decode cX7_shiftIn 15 = .ok (.iadd, 1) := by decide +kernel
theorem dX7_shiftIn_16 : decode cX7_shiftIn 16 = .ok (.invokevirtual 146, 3) := by decide +kernel
theorem dX7_shiftIn_19 : decode cX7_shiftIn 19 = .ok (.ireturn, 1) := by decide +kernel
theorem dX7_nights_0 : decode cX7_nights 0 = .ok (.aload_n 0, 1) := by decide +kernel
theorem dX7_nights_1 : decode cX7_nights 1 = .ok (.getfield 138, 3) := by decide +kernel
theorem dX7_nights_4 : decode cX7_nights 4 = .ok (.ifCond .ne 6, 3) := by decide +kernel
theorem dX7_nights_7 : decode cX7_nights 7 = .ok (.ldc 145, 2) := by decide +kernel
theorem dX7_nights_9 : decode cX7_nights 9 = .ok (.ireturn, 1) := by decide +kernel
theorem dX7_nights_10 : decode cX7_nights 10 = .ok (.iload_n 1, 1) := by decide +kernel
theorem dX7_nights_11 : decode cX7_nights 11 = .ok (.i2l, 1) := by decide +kernel
theorem dX7_nights_12 : decode cX7_nights 12 = .ok (.lconst 1, 1) := by decide +kernel
theorem dX7_nights_13 : decode cX7_nights 13 = .ok (.ldc2_w 149, 3) := by decide +kernel
theorem dX7_nights_16 : decode cX7_nights 16 = .ok (.invokestatic 57, 3) := by decide +kernel
theorem dX7_nights_19 : decode cX7_nights 19 = .ok (.ifCond .ne 6, 3) := by decide +kernel
theorem dX7_nights_22 : decode cX7_nights 22 = .ok (.ldc 67, 2) := by decide +kernel
theorem dX7_nights_24 : decode cX7_nights 24 = .ok (.ireturn, 1) := by decide +kernel
theorem dX7_nights_25 : decode cX7_nights 25 = .ok (.aload_n 0, 1) := by decide +kernel
theorem dX7_nights_26 : decode cX7_nights 26 = .ok (.getfield 19, 3) := by decide +kernel
theorem dX7_nights_29 : decode cX7_nights 29 = .ok (.iconst 5, 1) := by decide +kernel
theorem dX7_nights_30 : decode cX7_nights 30 = .ok (.iaload, 1) := by decide +kernel
theorem dX7_nights_31 : decode cX7_nights 31 = .ok (.iload_n 1, 1) := by decide +kernel
theorem dX7_nights_32 : decode cX7_nights 32 = .ok (.iadd, 1) := by decide +kernel
theorem dX7_nights_33 : decode cX7_nights 33 = .ok (.sipush 999, 3) := by decide +kernel
theorem dX7_nights_36 : decode cX7_nights 36 = .ok (.if_icmp .le 6, 3) := by decide +kernel
theorem dX7_nights_39 : decode cX7_nights 39 = .ok (.ldc 84, 2) := by decide +kernel
theorem dX7_nights_41 : decode cX7_nights 41 = .ok (.ireturn, 1) := by decide +kernel
theorem dX7_nights_42 : decode cX7_nights 42 = .ok (.iconst 0, 1) := by decide +kernel
theorem dX7_nights_43 : decode cX7_nights 43 = .ok (.istore_n 2, 1) := by decide +kernel
theorem dX7_nights_44 : decode cX7_nights 44 = .ok (.iload_n 2, 1) := by decide +kernel
theorem dX7_nights_45 : decode cX7_nights 45 = .ok (.iload_n 1, 1) := by decide +kernel
theorem dX7_nights_46 : decode cX7_nights 46 = .ok (.if_icmp .ge 34, 3) := by decide +kernel
theorem dX7_nights_49 : decode cX7_nights 49 = .ok (.aload_n 0, 1) := by decide +kernel
theorem dX7_nights_50 : decode cX7_nights 50 = .ok (.invokevirtual 151, 3) := by decide +kernel
theorem dX7_nights_53 : decode cX7_nights 53 = .ok (.aload_n 0, 1) := by decide +kernel
theorem dX7_nights_54 : decode cX7_nights 54 = .ok (.getfield 19, 3) := by decide +kernel
theorem dX7_nights_57 : decode cX7_nights 57 = .ok (.iconst 2, 1) := by decide +kernel
theorem dX7_nights_58 : decode cX7_nights 58 = .ok (.aload_n 0, 1) := by decide +kernel
theorem dX7_nights_59 : decode cX7_nights 59 = .ok (.iconst 1, 1) := by decide +kernel
theorem dX7_nights_60 : decode cX7_nights 60 = .ok (.invokevirtual 154, 3) := by decide +kernel
theorem dX7_nights_63 : decode cX7_nights 63 = .ok (.iastore, 1) := by decide +kernel
theorem dX7_nights_64 : decode cX7_nights 64 = .ok (.aload_n 0, 1) := by decide +kernel
theorem dX7_nights_65 : decode cX7_nights 65 = .ok (.getfield 19, 3) := by decide +kernel
theorem dX7_nights_68 : decode cX7_nights 68 = .ok (.iconst 5, 1) := by decide +kernel
theorem dX7_nights_69 : decode cX7_nights 69 = .ok (.dup2, 1) := by decide +kernel
theorem dX7_nights_70 : decode cX7_nights 70 = .ok (.iaload, 1) := by decide +kernel
theorem dX7_nights_71 : decode cX7_nights 71 = .ok (.iconst 1, 1) := by decide +kernel
theorem dX7_nights_72 : decode cX7_nights 72 = .ok (.iadd, 1) := by decide +kernel
theorem dX7_nights_73 : decode cX7_nights 73 = .ok (.iastore, 1) := by decide +kernel
theorem dX7_nights_74 : decode cX7_nights 74 = .ok (.iinc 2 1, 3) := by decide +kernel
theorem dX7_nights_77 : decode cX7_nights 77 = .ok (.goto (-33), 3) := by decide +kernel
theorem dX7_nights_80 : decode cX7_nights 80 = .ok (.aload_n 0, 1) := by decide +kernel
theorem dX7_nights_81 : decode cX7_nights 81 = .ok (.getfield 19, 3) := by decide +kernel
theorem dX7_nights_84 : decode cX7_nights 84 = .ok (.iconst 2, 1) := by decide +kernel
theorem dX7_nights_85 : decode cX7_nights 85 = .ok (.iaload, 1) := by decide +kernel
theorem dX7_nights_86 : decode cX7_nights 86 = .ok (.ireturn, 1) := by decide +kernel
theorem dX7_thunder_0 : decode cX7_thunder 0 = .ok (.aload_n 0, 1) := by decide +kernel
theorem dX7_thunder_1 : decode cX7_thunder 1 = .ok (.getfield 138, 3) := by decide +kernel
theorem dX7_thunder_4 : decode cX7_thunder 4 = .ok (.ifCond .ne 6, 3) := by decide +kernel
theorem dX7_thunder_7 : decode cX7_thunder 7 = .ok (.ldc 145, 2) := by decide +kernel
theorem dX7_thunder_9 : decode cX7_thunder 9 = .ok (.ireturn, 1) := by decide +kernel
theorem dX7_thunder_10 : decode cX7_thunder 10 = .ok (.iload_n 1, 1) := by decide +kernel
theorem dX7_thunder_11 : decode cX7_thunder 11 = .ok (.i2l, 1) := by decide +kernel
theorem dX7_thunder_12 : decode cX7_thunder 12 = .ok (.lconst 1, 1) := by decide +kernel
theorem dX7_thunder_13 : decode cX7_thunder 13 = .ok (.ldc2_w 157, 3) := by decide +kernel
theorem dX7_thunder_16 : decode cX7_thunder 16 = .ok (.invokestatic 57, 3) := by decide +kernel
theorem dX7_thunder_19 : decode cX7_thunder 19 = .ok (.ifCond .ne 6, 3) := by decide +kernel
theorem dX7_thunder_22 : decode cX7_thunder 22 = .ok (.ldc 67, 2) := by decide +kernel
theorem dX7_thunder_24 : decode cX7_thunder 24 = .ok (.ireturn, 1) := by decide +kernel
theorem dX7_thunder_25 : decode cX7_thunder 25 = .ok (.aload_n 0, 1) := by decide +kernel
theorem dX7_thunder_26 : decode cX7_thunder 26 = .ok (.invokevirtual 151, 3) := by decide +kernel
theorem dX7_thunder_29 : decode cX7_thunder 29 = .ok (.aload_n 0, 1) := by decide +kernel
theorem dX7_thunder_30 : decode cX7_thunder 30 = .ok (.getfield 19, 3) := by decide +kernel
theorem dX7_thunder_33 : decode cX7_thunder 33 = .ok (.iconst 2, 1) := by decide +kernel
theorem dX7_thunder_34 : decode cX7_thunder 34 = .ok (.aload_n 0, 1) := by decide +kernel
theorem dX7_thunder_35 : decode cX7_thunder 35 = .ok (.aload_n 0, 1) := by decide +kernel
theorem dX7_thunder_36 : decode cX7_thunder 36 = .ok (.getfield 19, 3) := by decide +kernel
theorem dX7_thunder_39 : decode cX7_thunder 39 = .ok (.iconst 2, 1) := by decide +kernel
theorem dX7_thunder_40 : decode cX7_thunder 40 = .ok (.iaload, 1) := by decide +kernel
theorem dX7_thunder_41 : decode cX7_thunder 41 = .ok (.iload_n 1, 1) := by decide +kernel
theorem dX7_thunder_42 : decode cX7_thunder 42 = .ok (.iadd, 1) := by decide +kernel
theorem dX7_thunder_43 : decode cX7_thunder 43 = .ok (.invokevirtual 146, 3) := by decide +kernel
theorem dX7_thunder_46 : decode cX7_thunder 46 = .ok (.iastore, 1) := by decide +kernel
theorem dX7_thunder_47 : decode cX7_thunder 47 = .ok (.aload_n 0, 1) := by decide +kernel
theorem dX7_thunder_48 : decode cX7_thunder 48 = .ok (.getfield 19, 3) := by decide +kernel
theorem dX7_thunder_51 : decode cX7_thunder 51 = .ok (.iconst 2, 1) := by decide +kernel
theorem dX7_thunder_52 : decode cX7_thunder 52 = .ok (.iaload, 1) := by decide +kernel
theorem dX7_thunder_53 : decode cX7_thunder 53 = .ok (.ireturn, 1) := by decide +kernel
theorem dX7_tune_0 : decode cX7_tune 0 = .ok (.aload_n 0, 1) := by decide +kernel
theorem dX7_tune_1 : decode cX7_tune 1 = .ok (.getfield 138, 3) := by decide +kernel
theorem dX7_tune_4 : decode cX7_tune 4 = .ok (.ifCond .ne 6, 3) := by decide +kernel
theorem dX7_tune_7 : decode cX7_tune 7 = .ok (.ldc 145, 2) := by decide +kernel
theorem dX7_tune_9 : decode cX7_tune 9 = .ok (.ireturn, 1) := by decide +kernel
theorem dX7_tune_10 : decode cX7_tune 10 = .ok (.aload_n 0, 1) := by decide +kernel
theorem dX7_tune_11 : decode cX7_tune 11 = .ok (.invokevirtual 151, 3) := by decide +kernel
theorem dX7_tune_14 : decode cX7_tune 14 = .ok (.aload_n 0, 1) := by decide +kernel
theorem dX7_tune_15 : decode cX7_tune 15 = .ok (.getfield 19, 3) := by decide +kernel
theorem dX7_tune_18 : decode cX7_tune 18 = .ok (.iconst 2, 1) := by decide +kernel
theorem dX7_tune_19 : decode cX7_tune 19 = .ok (.iaload, 1) := by decide +kernel
theorem dX7_tune_20 : decode cX7_tune 20 = .ok (.istore_n 1, 1) := by decide +kernel
theorem dX7_tune_21 : decode cX7_tune 21 = .ok (.aload_n 0, 1) := by decide +kernel
theorem dX7_tune_22 : decode cX7_tune 22 = .ok (.getfield 19, 3) := by decide +kernel
theorem dX7_tune_25 : decode cX7_tune 25 = .ok (.iconst 2, 1) := by decide +kernel
theorem dX7_tune_26 : decode cX7_tune 26 = .ok (.iconst 0, 1) := by decide +kernel
theorem dX7_tune_27 : decode cX7_tune 27 = .ok (.iastore, 1) := by decide +kernel
theorem dX7_tune_28 : decode cX7_tune 28 = .ok (.iload_n 1, 1) := by decide +kernel
theorem dX7_tune_29 : decode cX7_tune 29 = .ok (.ireturn, 1) := by decide +kernel
theorem dX7_isPupil_0 : decode cX7_isPupil 0 = .ok (.iload_n 1, 1) := by decide +kernel
theorem dX7_isPupil_1 : decode cX7_isPupil 1 = .ok (.i2l, 1) := by decide +kernel
theorem dX7_isPupil_2 : decode cX7_isPupil 2 = .ok (.lconst 0, 1) := by decide +kernel
theorem dX7_isPupil_3 : decode cX7_isPupil 3 = .ok (.aload_n 0, 1) := by decide +kernel
theorem dX7_isPupil_4 : decode cX7_isPupil 4 = .ok (.getfield 19, 3) := by decide +kernel
theorem dX7_isPupil_7 : decode cX7_isPupil 7 = .ok (.iconst 4, 1) := by decide +kernel
theorem dX7_isPupil_8 : decode cX7_isPupil 8 = .ok (.iaload, 1) := by decide +kernel
theorem dX7_isPupil_9 : decode cX7_isPupil 9 = .ok (.iconst 1, 1) := by decide +kernel
theorem dX7_isPupil_10 : decode cX7_isPupil 10 = .ok (.isub, 1) := by decide +kernel
theorem dX7_isPupil_11 : decode cX7_isPupil 11 = .ok (.i2l, 1) := by decide +kernel
theorem dX7_isPupil_12 : decode cX7_isPupil 12 = .ok (.invokestatic 57, 3) := by decide +kernel
theorem dX7_isPupil_15 : decode cX7_isPupil 15 = .ok (.ireturn, 1) := by decide +kernel
theorem dX7_isPiece_0 : decode cX7_isPiece 0 = .ok (.iload_n 1, 1) := by decide +kernel
theorem dX7_isPiece_1 : decode cX7_isPiece 1 = .ok (.i2l, 1) := by decide +kernel
theorem dX7_isPiece_2 : decode cX7_isPiece 2 = .ok (.lconst 0, 1) := by decide +kernel
theorem dX7_isPiece_3 : decode cX7_isPiece 3 = .ok (.aload_n 0, 1) := by decide +kernel
theorem dX7_isPiece_4 : decode cX7_isPiece 4 = .ok (.getfield 19, 3) := by decide +kernel
theorem dX7_isPiece_7 : decode cX7_isPiece 7 = .ok (.iconst 3, 1) := by decide +kernel
theorem dX7_isPiece_8 : decode cX7_isPiece 8 = .ok (.iaload, 1) := by decide +kernel
theorem dX7_isPiece_9 : decode cX7_isPiece 9 = .ok (.iconst 1, 1) := by decide +kernel
theorem dX7_isPiece_10 : decode cX7_isPiece 10 = .ok (.isub, 1) := by decide +kernel
theorem dX7_isPiece_11 : decode cX7_isPiece 11 = .ok (.i2l, 1) := by decide +kernel
theorem dX7_isPiece_12 : decode cX7_isPiece 12 = .ok (.invokestatic 57, 3) := by decide +kernel
theorem dX7_isPiece_15 : decode cX7_isPiece 15 = .ok (.ireturn, 1) := by decide +kernel
theorem dX7_learn_0 : decode cX7_learn 0 = .ok (.aload_n 0, 1) := by decide +kernel
theorem dX7_learn_1 : decode cX7_learn 1 = .ok (.iload_n 1, 1) := by decide +kernel
theorem dX7_learn_2 : decode cX7_learn 2 = .ok (.invokevirtual 159, 3) := by decide +kernel
theorem dX7_learn_5 : decode cX7_learn 5 = .ok (.ifCond .ne 6, 3) := by decide +kernel
theorem dX7_learn_8 : decode cX7_learn 8 = .ok (.ldc 67, 2) := by decide +kernel
theorem dX7_learn_10 : decode cX7_learn 10 = .ok (.ireturn, 1) := by decide +kernel
theorem dX7_learn_11 : decode cX7_learn 11 = .ok (.aload_n 0, 1) := by decide +kernel
theorem dX7_learn_12 : decode cX7_learn 12 = .ok (.invokevirtual 151, 3) := by decide +kernel
theorem dX7_learn_15 : decode cX7_learn 15 = .ok (.aload_n 0, 1) := by decide +kernel
theorem dX7_learn_16 : decode cX7_learn 16 = .ok (.getfield 19, 3) := by decide +kernel
theorem dX7_learn_19 : decode cX7_learn 19 = .ok (.bipush 47, 2) := by decide +kernel
theorem dX7_learn_21 : decode cX7_learn 21 = .ok (.iload_n 1, 1) := by decide +kernel
theorem dX7_learn_22 : decode cX7_learn 22 = .ok (.iadd, 1) := by decide +kernel
theorem dX7_learn_23 : decode cX7_learn 23 = .ok (.iaload, 1) := by decide +kernel
theorem dX7_learn_24 : decode cX7_learn 24 = .ok (.istore_n 2, 1) := by decide +kernel
theorem dX7_learn_25 : decode cX7_learn 25 = .ok (.aload_n 0, 1) := by decide +kernel
theorem dX7_learn_26 : decode cX7_learn 26 = .ok (.getfield 19, 3) := by decide +kernel
theorem dX7_learn_29 : decode cX7_learn 29 = .ok (.bipush 47, 2) := by decide +kernel
theorem dX7_learn_31 : decode cX7_learn 31 = .ok (.iload_n 1, 1) := by decide +kernel
theorem dX7_learn_32 : decode cX7_learn 32 = .ok (.iadd, 1) := by decide +kernel
theorem dX7_learn_33 : decode cX7_learn 33 = .ok (.aload_n 0, 1) := by decide +kernel
theorem dX7_learn_34 : decode cX7_learn 34 = .ok (.getfield 19, 3) := by decide +kernel
theorem dX7_learn_37 : decode cX7_learn 37 = .ok (.iconst 2, 1) := by decide +kernel
theorem dX7_learn_38 : decode cX7_learn 38 = .ok (.iaload, 1) := by decide +kernel
theorem dX7_learn_39 : decode cX7_learn 39 = .ok (.iastore, 1) := by decide +kernel
theorem dX7_learn_40 : decode cX7_learn 40 = .ok (.iload_n 2, 1) := by decide +kernel
theorem dX7_learn_41 : decode cX7_learn 41 = .ok (.ireturn, 1) := by decide +kernel
theorem dX7_piece_0 : decode cX7_piece 0 = .ok (.aload_n 0, 1) := by decide +kernel
theorem dX7_piece_1 : decode cX7_piece 1 = .ok (.iload_n 1, 1) := by decide +kernel
theorem dX7_piece_2 : decode cX7_piece 2 = .ok (.invokevirtual 162, 3) := by decide +kernel
theorem dX7_piece_5 : decode cX7_piece 5 = .ok (.ifCond .eq 8, 3) := by decide +kernel
theorem dX7_piece_8 : decode cX7_piece 8 = .ok (.iload_n 2, 1) := by decide +kernel
theorem dX7_piece_9 : decode cX7_piece 9 = .ok (.iconst (-1), 1) := by decide +kernel
theorem dX7_piece_10 : decode cX7_piece 10 = .ok (.if_icmp .ge 6, 3) := by decide +kernel
theorem dX7_piece_13 : decode cX7_piece 13 = .ok (.ldc 67, 2) := by decide +kernel
theorem dX7_piece_15 : decode cX7_piece 15 = .ok (.ireturn, 1) := by decide +kernel
theorem dX7_piece_16 : decode cX7_piece 16 = .ok (.aload_n 0, 1) := by decide +kernel
theorem dX7_piece_17 : decode cX7_piece 17 = .ok (.getfield 19, 3) := by decide +kernel
theorem dX7_piece_20 : decode cX7_piece 20 = .ok (.bipush 6, 2) := by decide +kernel
theorem dX7_piece_22 : decode cX7_piece 22 = .ok (.iload_n 1, 1) := by decide +kernel
theorem dX7_piece_23 : decode cX7_piece 23 = .ok (.iadd, 1) := by decide +kernel
theorem dX7_piece_24 : decode cX7_piece 24 = .ok (.iaload, 1) := by decide +kernel
theorem dX7_piece_25 : decode cX7_piece 25 = .ok (.istore_n 3, 1) := by decide +kernel
theorem dX7_piece_26 : decode cX7_piece 26 = .ok (.iload_n 2, 1) := by decide +kernel
theorem dX7_piece_27 : decode cX7_piece 27 = .ok (.ifCond .ge 7, 3) := by decide +kernel
theorem dX7_piece_30 : decode cX7_piece 30 = .ok (.iload_n 3, 1) := by decide +kernel
theorem dX7_piece_31 : decode cX7_piece 31 = .ok (.goto 27, 3) := by decide +kernel
theorem dX7_piece_34 : decode cX7_piece 34 = .ok (.iload_n 2, 1) := by decide +kernel
theorem dX7_piece_35 : decode cX7_piece 35 = .ok (.iload_n 3, 1) := by decide +kernel
theorem dX7_piece_36 : decode cX7_piece 36 = .ok (.if_icmp .ge 20, 3) := by decide +kernel
theorem dX7_piece_39 : decode cX7_piece 39 = .ok (.aload_n 0, 1) := by decide +kernel
theorem dX7_piece_40 : decode cX7_piece 40 = .ok (.getfield 19, 3) := by decide +kernel
theorem dX7_piece_43 : decode cX7_piece 43 = .ok (.bipush 10, 2) := by decide +kernel
theorem dX7_piece_45 : decode cX7_piece 45 = .ok (.bipush 8, 2) := by decide +kernel
theorem dX7_piece_47 : decode cX7_piece 47 = .ok (.iload_n 1, 1) := by decide +kernel
theorem dX7_piece_48 : decode cX7_piece 48 = .ok (.imul, 1) := by decide +kernel
theorem dX7_piece_49 : decode cX7_piece 49 = .ok (.iadd, 1) := by decide +kernel
theorem dX7_piece_50 : decode cX7_piece 50 = .ok (.iload_n 2, 1) := by decide +kernel
theorem dX7_piece_51 : decode cX7_piece 51 = .ok (.iadd, 1) := by decide +kernel
theorem dX7_piece_52 : decode cX7_piece 52 = .ok (.iaload, 1) := by decide +kernel
theorem dX7_piece_53 : decode cX7_piece 53 = .ok (.goto 5, 3) := by decide +kernel
theorem dX7_piece_56 : decode cX7_piece 56 = .ok (.ldc 165, 2) := by decide +kernel
theorem dX7_piece_58 : decode cX7_piece 58 = .ok (.ireturn, 1) := by decide +kernel
theorem dX7_biasBy_0 : decode cX7_biasBy 0 = .ok (.iload_n 1, 1) := by decide +kernel
theorem dX7_biasBy_1 : decode cX7_biasBy 1 = .ok (.iconst 1, 1) := by decide +kernel
theorem dX7_biasBy_2 : decode cX7_biasBy 2 = .ok (.if_icmp .ne 7, 3) := by decide +kernel
theorem dX7_biasBy_5 : decode cX7_biasBy 5 = .ok (.iload_n 2, 1) := by decide +kernel
theorem dX7_biasBy_6 : decode cX7_biasBy 6 = .ok (.goto 45, 3) := by decide +kernel
theorem dX7_biasBy_9 : decode cX7_biasBy 9 = .ok (.iload_n 1, 1) := by decide +kernel
theorem dX7_biasBy_10 : decode cX7_biasBy 10 = .ok (.iconst 2, 1) := by decide +kernel
theorem dX7_biasBy_11 : decode cX7_biasBy 11 = .ok (.if_icmp .ne 16, 3) := by decide +kernel
theorem dX7_biasBy_14 : decode cX7_biasBy 14 = .ok (.iload_n 2, 1) := by decide +kernel
theorem dX7_biasBy_15 : decode cX7_biasBy 15 = .ok (.iconst 2, 1) := by decide +kernel
theorem dX7_biasBy_16 : decode cX7_biasBy 16 = .ok (.aload_n 0, 1) := by decide +kernel
theorem dX7_biasBy_17 : decode cX7_biasBy 17 = .ok (.getfield 19, 3) := by decide +kernel
theorem dX7_biasBy_20 : decode cX7_biasBy 20 = .ok (.iconst 1, 1) := by decide +kernel
theorem dX7_biasBy_21 : decode cX7_biasBy 21 = .ok (.iaload, 1) := by decide +kernel
theorem dX7_biasBy_22 : decode cX7_biasBy 22 = .ok (.imul, 1) := by decide +kernel
theorem dX7_biasBy_23 : decode cX7_biasBy 23 = .ok (.iadd, 1) := by decide +kernel
theorem dX7_biasBy_24 : decode cX7_biasBy 24 = .ok (.goto 27, 3) := by decide +kernel
theorem dX7_biasBy_27 : decode cX7_biasBy 27 = .ok (.iload_n 1, 1) := by decide +kernel
theorem dX7_biasBy_28 : decode cX7_biasBy 28 = .ok (.iconst 3, 1) := by decide +kernel
theorem dX7_biasBy_29 : decode cX7_biasBy 29 = .ok (.if_icmp .ne 9, 3) := by decide +kernel
theorem dX7_biasBy_32 : decode cX7_biasBy 32 = .ok (.iload_n 2, 1) := by decide +kernel
theorem dX7_biasBy_33 : decode cX7_biasBy 33 = .ok (.iconst 2, 1) := by decide +kernel
theorem dX7_biasBy_34 : decode cX7_biasBy 34 = .ok (.isub, 1) := by decide +kernel
theorem dX7_biasBy_35 : decode cX7_biasBy 35 = .ok (.goto 16, 3) := by decide +kernel
theorem dX7_biasBy_38 : decode cX7_biasBy 38 = .ok (.iload_n 1, 1) := by decide +kernel
theorem dX7_biasBy_39 : decode cX7_biasBy 39 = .ok (.iconst 4, 1) := by decide +kernel
theorem dX7_biasBy_40 : decode cX7_biasBy 40 = .ok (.if_icmp .ne 8, 3) := by decide +kernel
theorem dX7_biasBy_43 : decode cX7_biasBy 43 = .ok (.iload_n 2, 1) := by decide +kernel
theorem dX7_biasBy_44 : decode cX7_biasBy 44 = .ok (.ineg, 1) := by decide +kernel
theorem dX7_biasBy_45 : decode cX7_biasBy 45 = .ok (.goto 6, 3) := by decide +kernel
theorem dX7_biasBy_48 : decode cX7_biasBy 48 = .ok (.iconst 1, 1) := by decide +kernel
theorem dX7_biasBy_49 : decode cX7_biasBy 49 = .ok (.iload_n 2, 1) := by decide +kernel
theorem dX7_biasBy_50 : decode cX7_biasBy 50 = .ok (.isub, 1) := by decide +kernel
theorem dX7_biasBy_51 : decode cX7_biasBy 51 = .ok (.istore_n 3, 1) := by decide +kernel
theorem dX7_biasBy_52 : decode cX7_biasBy 52 = .ok (.aload_n 0, 1) := by decide +kernel
theorem dX7_biasBy_53 : decode cX7_biasBy 53 = .ok (.iload_n 3, 1) := by decide +kernel
theorem dX7_biasBy_54 : decode cX7_biasBy 54 = .ok (.invokevirtual 146, 3) := by decide +kernel
theorem dX7_biasBy_57 : decode cX7_biasBy 57 = .ok (.ireturn, 1) := by decide +kernel
theorem dX7_biasOf_0 : decode cX7_biasOf 0 = .ok (.aload_n 0, 1) := by decide +kernel
theorem dX7_biasOf_1 : decode cX7_biasOf 1 = .ok (.aload_n 0, 1) := by decide +kernel
theorem dX7_biasOf_2 : decode cX7_biasOf 2 = .ok (.getfield 19, 3) := by decide +kernel
theorem dX7_biasOf_5 : decode cX7_biasOf 5 = .ok (.bipush 42, 2) := by decide +kernel
theorem dX7_biasOf_7 : decode cX7_biasOf 7 = .ok (.iload_n 1, 1) := by decide +kernel
theorem dX7_biasOf_8 : decode cX7_biasOf 8 = .ok (.iadd, 1) := by decide +kernel
theorem dX7_biasOf_9 : decode cX7_biasOf 9 = .ok (.iaload, 1) := by decide +kernel
theorem dX7_biasOf_10 : decode cX7_biasOf 10 = .ok (.aload_n 0, 1) := by decide +kernel
theorem dX7_biasOf_11 : decode cX7_biasOf 11 = .ok (.getfield 19, 3) := by decide +kernel
theorem dX7_biasOf_14 : decode cX7_biasOf 14 = .ok (.bipush 47, 2) := by decide +kernel
theorem dX7_biasOf_16 : decode cX7_biasOf 16 = .ok (.iload_n 1, 1) := by decide +kernel
theorem dX7_biasOf_17 : decode cX7_biasOf 17 = .ok (.iadd, 1) := by decide +kernel
theorem dX7_biasOf_18 : decode cX7_biasOf 18 = .ok (.iaload, 1) := by decide +kernel
theorem dX7_biasOf_19 : decode cX7_biasOf 19 = .ok (.invokevirtual 166, 3) := by decide +kernel
theorem dX7_biasOf_22 : decode cX7_biasOf 22 = .ok (.ireturn, 1) := by decide +kernel
theorem dX7_pupil_0 : decode cX7_pupil 0 = .ok (.aload_n 0, 1) := by decide +kernel
theorem dX7_pupil_1 : decode cX7_pupil 1 = .ok (.iload_n 1, 1) := by decide +kernel
theorem dX7_pupil_2 : decode cX7_pupil 2 = .ok (.invokevirtual 159, 3) := by decide +kernel
theorem dX7_pupil_5 : decode cX7_pupil 5 = .ok (.ifCond .ne 6, 3) := by decide +kernel
theorem dX7_pupil_8 : decode cX7_pupil 8 = .ok (.ldc 67, 2) := by decide +kernel
theorem dX7_pupil_10 : decode cX7_pupil 10 = .ok (.ireturn, 1) := by decide +kernel
theorem dX7_pupil_11 : decode cX7_pupil 11 = .ok (.iload_n 2, 1) := by decide +kernel
theorem dX7_pupil_12 : decode cX7_pupil 12 = .ok (.tableswitch 78 0 3 #[32, 42, 52, 58], 32) := by decide +kernel
theorem dX7_pupil_44 : decode cX7_pupil 44 = .ok (.aload_n 0, 1) := by decide +kernel
theorem dX7_pupil_45 : decode cX7_pupil 45 = .ok (.getfield 19, 3) := by decide +kernel
theorem dX7_pupil_48 : decode cX7_pupil 48 = .ok (.bipush 47, 2) := by decide +kernel
theorem dX7_pupil_50 : decode cX7_pupil 50 = .ok (.iload_n 1, 1) := by decide +kernel
theorem dX7_pupil_51 : decode cX7_pupil 51 = .ok (.iadd, 1) := by decide +kernel
theorem dX7_pupil_52 : decode cX7_pupil 52 = .ok (.iaload, 1) := by decide +kernel
theorem dX7_pupil_53 : decode cX7_pupil 53 = .ok (.ireturn, 1) := by decide +kernel
theorem dX7_pupil_54 : decode cX7_pupil 54 = .ok (.aload_n 0, 1) := by decide +kernel
theorem dX7_pupil_55 : decode cX7_pupil 55 = .ok (.getfield 19, 3) := by decide +kernel
theorem dX7_pupil_58 : decode cX7_pupil 58 = .ok (.bipush 52, 2) := by decide +kernel
theorem dX7_pupil_60 : decode cX7_pupil 60 = .ok (.iload_n 1, 1) := by decide +kernel
theorem dX7_pupil_61 : decode cX7_pupil 61 = .ok (.iadd, 1) := by decide +kernel
theorem dX7_pupil_62 : decode cX7_pupil 62 = .ok (.iaload, 1) := by decide +kernel
theorem dX7_pupil_63 : decode cX7_pupil 63 = .ok (.ireturn, 1) := by decide +kernel
theorem dX7_pupil_64 : decode cX7_pupil 64 = .ok (.aload_n 0, 1) := by decide +kernel
theorem dX7_pupil_65 : decode cX7_pupil 65 = .ok (.iload_n 1, 1) := by decide +kernel
theorem dX7_pupil_66 : decode cX7_pupil 66 = .ok (.invokevirtual 169, 3) := by decide +kernel
theorem dX7_pupil_69 : decode cX7_pupil 69 = .ok (.ireturn, 1) := by decide +kernel
theorem dX7_pupil_70 : decode cX7_pupil 70 = .ok (.aload_n 0, 1) := by decide +kernel
theorem dX7_pupil_71 : decode cX7_pupil 71 = .ok (.iload_n 1, 1) := by decide +kernel
theorem dX7_pupil_72 : decode cX7_pupil 72 = .ok (.invokevirtual 169, 3) := by decide +kernel
theorem dX7_pupil_75 : decode cX7_pupil 75 = .ok (.aload_n 0, 1) := by decide +kernel
theorem dX7_pupil_76 : decode cX7_pupil 76 = .ok (.getfield 19, 3) := by decide +kernel
theorem dX7_pupil_79 : decode cX7_pupil 79 = .ok (.iconst 2, 1) := by decide +kernel
theorem dX7_pupil_80 : decode cX7_pupil 80 = .ok (.iaload, 1) := by decide +kernel
theorem dX7_pupil_81 : decode cX7_pupil 81 = .ok (.if_icmp .ne 7, 3) := by decide +kernel
theorem dX7_pupil_84 : decode cX7_pupil 84 = .ok (.iconst 1, 1) := by decide +kernel
theorem dX7_pupil_85 : decode cX7_pupil 85 = .ok (.goto 4, 3) := by decide +kernel
theorem dX7_pupil_88 : decode cX7_pupil 88 = .ok (.iconst 0, 1) := by decide +kernel
theorem dX7_pupil_89 : decode cX7_pupil 89 = .ok (.ireturn, 1) := by decide +kernel
theorem dX7_pupil_90 : decode cX7_pupil 90 = .ok (.ldc 67, 2) := by decide +kernel
theorem dX7_pupil_92 : decode cX7_pupil 92 = .ok (.ireturn, 1) := by decide +kernel
theorem dX7_reaches_0 : decode cX7_reaches 0 = .ok (.aload_n 0, 1) := by decide +kernel
theorem dX7_reaches_1 : decode cX7_reaches 1 = .ok (.bipush 12, 2) := by decide +kernel
theorem dX7_reaches_3 : decode cX7_reaches 3 = .ok (.putfield 172, 3) := by decide +kernel
theorem dX7_reaches_6 : decode cX7_reaches 6 = .ok (.aload_n 0, 1) := by decide +kernel
theorem dX7_reaches_7 : decode cX7_reaches 7 = .ok (.iconst (-1), 1) := by decide +kernel
theorem dX7_reaches_8 : decode cX7_reaches 8 = .ok (.putfield 175, 3) := by decide +kernel
theorem dX7_reaches_11 : decode cX7_reaches 11 = .ok (.iconst 0, 1) := by decide +kernel
theorem dX7_reaches_12 : decode cX7_reaches 12 = .ok (.istore_n 3, 1) := by decide +kernel
theorem dX7_reaches_13 : decode cX7_reaches 13 = .ok (.iload_n 3, 1) := by decide +kernel
theorem dX7_reaches_14 : decode cX7_reaches 14 = .ok (.aload_n 0, 1) := by decide +kernel
theorem dX7_reaches_15 : decode cX7_reaches 15 = .ok (.getfield 19, 3) := by decide +kernel
theorem dX7_reaches_18 : decode cX7_reaches 18 = .ok (.bipush 6, 2) := by decide +kernel
theorem dX7_reaches_20 : decode cX7_reaches 20 = .ok (.iload_n 2, 1) := by decide +kernel
theorem dX7_reaches_21 : decode cX7_reaches 21 = .ok (.iadd, 1) := by decide +kernel
theorem dX7_reaches_22 : decode cX7_reaches 22 = .ok (.iaload, 1) := by decide +kernel
theorem dX7_reaches_23 : decode cX7_reaches 23 = .ok (.if_icmp .ge 79, 3) := by decide +kernel
theorem dX7_reaches_26 : decode cX7_reaches 26 = .ok (.aload_n 0, 1) := by decide +kernel
theorem dX7_reaches_27 : decode cX7_reaches 27 = .ok (.aload_n 0, 1) := by decide +kernel
theorem dX7_reaches_28 : decode cX7_reaches 28 = .ok (.getfield 19, 3) := by decide +kernel
theorem dX7_reaches_31 : decode cX7_reaches 31 = .ok (.bipush 10, 2) := by decide +kernel
theorem dX7_reaches_33 : decode cX7_reaches 33 = .ok (.bipush 8, 2) := by decide +kernel
theorem dX7_reaches_35 : decode cX7_reaches 35 = .ok (.iload_n 2, 1) := by decide +kernel
theorem dX7_reaches_36 : decode cX7_reaches 36 = .ok (.imul, 1) := by decide +kernel
theorem dX7_reaches_37 : decode cX7_reaches 37 = .ok (.iadd, 1) := by decide +kernel
theorem dX7_reaches_38 : decode cX7_reaches 38 = .ok (.iload_n 3, 1) := by decide +kernel
theorem dX7_reaches_39 : decode cX7_reaches 39 = .ok (.iadd, 1) := by decide +kernel
theorem dX7_reaches_40 : decode cX7_reaches 40 = .ok (.iaload, 1) := by decide +kernel
theorem dX7_reaches_41 : decode cX7_reaches 41 = .ok (.aload_n 0, 1) := by decide +kernel
theorem dX7_reaches_42 : decode cX7_reaches 42 = .ok (.iload_n 1, 1) := by decide +kernel
theorem dX7_reaches_43 : decode cX7_reaches 43 = .ok (.invokevirtual 169, 3) := by decide +kernel
theorem dX7_reaches_46 : decode cX7_reaches 46 = .ok (.isub, 1) := by decide +kernel
theorem dX7_reaches_47 : decode cX7_reaches 47 = .ok (.invokevirtual 146, 3) := by decide +kernel
theorem dX7_reaches_50 : decode cX7_reaches 50 = .ok (.istore 4, 2) := by decide +kernel
theorem dX7_reaches_52 : decode cX7_reaches 52 = .ok (.aload_n 0, 1) := by decide +kernel
theorem dX7_reaches_53 : decode cX7_reaches 53 = .ok (.iload 4, 2) := by decide +kernel
theorem dX7_reaches_55 : decode cX7_reaches 55 = .ok (.aload_n 0, 1) := by decide +kernel
theorem dX7_reaches_56 : decode cX7_reaches 56 = .ok (.getfield 172, 3) := by decide +kernel
theorem dX7_reaches_59 : decode cX7_reaches 59 = .ok (.if_icmp .ge 8, 3) := by decide +kernel
theorem dX7_reaches_62 : decode cX7_reaches 62 = .ok (.iload 4, 2) := by decide +kernel
theorem dX7_reaches_64 : decode cX7_reaches 64 = .ok (.goto 7, 3) := by decide +kernel
theorem dX7_reaches_67 : decode cX7_reaches 67 = .ok (.aload_n 0, 1) := by decide +kernel
theorem dX7_reaches_68 : decode cX7_reaches 68 = .ok (.getfield 172, 3) := by decide +kernel
theorem dX7_reaches_71 : decode cX7_reaches 71 = .ok (.putfield 172, 3) := by decide +kernel
theorem dX7_reaches_74 : decode cX7_reaches 74 = .ok (.aload_n 0, 1) := by decide +kernel
theorem dX7_reaches_75 : decode cX7_reaches 75 = .ok (.iload 4, 2) := by decide +kernel
theorem dX7_reaches_77 : decode cX7_reaches 77 = .ok (.aload_n 0, 1) := by decide +kernel
theorem dX7_reaches_78 : decode cX7_reaches 78 = .ok (.getfield 175, 3) := by decide +kernel
theorem dX7_reaches_81 : decode cX7_reaches 81 = .ok (.if_icmp .le 8, 3) := by decide +kernel
theorem dX7_reaches_84 : decode cX7_reaches 84 = .ok (.iload 4, 2) := by decide +kernel
theorem dX7_reaches_86 : decode cX7_reaches 86 = .ok (.goto 7, 3) := by decide +kernel
theorem dX7_reaches_89 : decode cX7_reaches 89 = .ok (.aload_n 0, 1) := by decide +kernel
theorem dX7_reaches_90 : decode cX7_reaches 90 = .ok (.getfield 175, 3) := by decide +kernel
theorem dX7_reaches_93 : decode cX7_reaches 93 = .ok (.putfield 175, 3) := by decide +kernel
theorem dX7_reaches_96 : decode cX7_reaches 96 = .ok (.iinc 3 1, 3) := by decide +kernel
theorem dX7_reaches_99 : decode cX7_reaches 99 = .ok (.goto (-86), 3) := by decide +kernel
theorem dX7_reaches_102 : decode cX7_reaches 102 = .ok (.aload_n 0, 1) := by decide +kernel
theorem dX7_reaches_103 : decode cX7_reaches 103 = .ok (.getfield 175, 3) := by decide +kernel
theorem dX7_reaches_106 : decode cX7_reaches 106 = .ok (.aload_n 0, 1) := by decide +kernel
theorem dX7_reaches_107 : decode cX7_reaches 107 = .ok (.getfield 172, 3) := by decide +kernel
theorem dX7_reaches_110 : decode cX7_reaches 110 = .ok (.isub, 1) := by decide +kernel
theorem dX7_reaches_111 : decode cX7_reaches 111 = .ok (.aload_n 0, 1) := by decide +kernel
theorem dX7_reaches_112 : decode cX7_reaches 112 = .ok (.getfield 19, 3) := by decide +kernel
theorem dX7_reaches_115 : decode cX7_reaches 115 = .ok (.bipush 52, 2) := by decide +kernel
theorem dX7_reaches_117 : decode cX7_reaches 117 = .ok (.iload_n 1, 1) := by decide +kernel
theorem dX7_reaches_118 : decode cX7_reaches 118 = .ok (.iadd, 1) := by decide +kernel
theorem dX7_reaches_119 : decode cX7_reaches 119 = .ok (.iaload, 1) := by decide +kernel
theorem dX7_reaches_120 : decode cX7_reaches 120 = .ok (.if_icmp .ge 7, 3) := by decide +kernel
theorem dX7_reaches_123 : decode cX7_reaches 123 = .ok (.iconst 1, 1) := by decide +kernel
theorem dX7_reaches_124 : decode cX7_reaches 124 = .ok (.goto 4, 3) := by decide +kernel
theorem dX7_reaches_127 : decode cX7_reaches 127 = .ok (.iconst 0, 1) := by decide +kernel
theorem dX7_reaches_128 : decode cX7_reaches 128 = .ok (.ireturn, 1) := by decide +kernel
theorem dX7_plays_0 : decode cX7_plays 0 = .ok (.aload_n 0, 1) := by decide +kernel
theorem dX7_plays_1 : decode cX7_plays 1 = .ok (.iload_n 1, 1) := by decide +kernel
theorem dX7_plays_2 : decode cX7_plays 2 = .ok (.invokevirtual 159, 3) := by decide +kernel
theorem dX7_plays_5 : decode cX7_plays 5 = .ok (.ifCond .eq 23, 3) := by decide +kernel
theorem dX7_plays_8 : decode cX7_plays 8 = .ok (.aload_n 0, 1) := by decide +kernel
theorem dX7_plays_9 : decode cX7_plays 9 = .ok (.iload_n 2, 1) := by decide +kernel
theorem dX7_plays_10 : decode cX7_plays 10 = .ok (.invokevirtual 162, 3) := by decide +kernel
theorem dX7_plays_13 : decode cX7_plays 13 = .ok (.ifCond .eq 15, 3) := by decide +kernel
theorem dX7_plays_16 : decode cX7_plays 16 = .ok (.iload_n 3, 1) := by decide +kernel
theorem dX7_plays_17 : decode cX7_plays 17 = .ok (.i2l, 1) := by decide +kernel
theorem dX7_plays_18 : decode cX7_plays 18 = .ok (.lconst 0, 1) := by decide +kernel
theorem dX7_plays_19 : decode cX7_plays 19 = .ok (.ldc2_w 65, 3) := by decide +kernel
theorem dX7_plays_22 : decode cX7_plays 22 = .ok (.invokestatic 57, 3) := by decide +kernel
theorem dX7_plays_25 : decode cX7_plays 25 = .ok (.ifCond .ne 6, 3) := by decide +kernel
theorem dX7_plays_28 : decode cX7_plays 28 = .ok (.ldc 67, 2) := by decide +kernel
theorem dX7_plays_30 : decode cX7_plays 30 = .ok (.ireturn, 1) := by decide +kernel
theorem dX7_plays_31 : decode cX7_plays 31 = .ok (.aload_n 0, 1) := by decide +kernel
theorem dX7_plays_32 : decode cX7_plays 32 = .ok (.iload_n 1, 1) := by decide +kernel
theorem dX7_plays_33 : decode cX7_plays 33 = .ok (.iload_n 2, 1) := by decide +kernel
theorem dX7_plays_34 : decode cX7_plays 34 = .ok (.invokevirtual 178, 3) := by decide +kernel
theorem dX7_plays_37 : decode cX7_plays 37 = .ok (.istore 4, 2) := by decide +kernel
theorem dX7_plays_39 : decode cX7_plays 39 = .ok (.iload_n 3, 1) := by decide +kernel
theorem dX7_plays_40 : decode cX7_plays 40 = .ok (.ifCond .ne 16, 3) := by decide +kernel
theorem dX7_plays_43 : decode cX7_plays 43 = .ok (.iload 4, 2) := by decide +kernel
theorem dX7_plays_45 : decode cX7_plays 45 = .ok (.ifCond .eq 7, 3) := by decide +kernel
theorem dX7_plays_48 : decode cX7_plays 48 = .ok (.iconst 1, 1) := by decide +kernel
theorem dX7_plays_49 : decode cX7_plays 49 = .ok (.goto 23, 3) := by decide +kernel
theorem dX7_plays_52 : decode cX7_plays 52 = .ok (.iconst 0, 1) := by decide +kernel
theorem dX7_plays_53 : decode cX7_plays 53 = .ok (.goto 19, 3) := by decide +kernel
theorem dX7_plays_56 : decode cX7_plays 56 = .ok (.iload_n 3, 1) := by decide +kernel
theorem dX7_plays_57 : decode cX7_plays 57 = .ok (.iconst 1, 1) := by decide +kernel
theorem dX7_plays_58 : decode cX7_plays 58 = .ok (.if_icmp .ne 10, 3) := by decide +kernel
theorem dX7_plays_61 : decode cX7_plays 61 = .ok (.aload_n 0, 1) := by decide +kernel
theorem dX7_plays_62 : decode cX7_plays 62 = .ok (.getfield 172, 3) := by decide +kernel
theorem dX7_plays_65 : decode cX7_plays 65 = .ok (.goto 7, 3) := by decide +kernel
theorem dX7_plays_68 : decode cX7_plays 68 = .ok (.aload_n 0, 1) := by decide +kernel
theorem dX7_plays_69 : decode cX7_plays 69 = .ok (.getfield 175, 3) := by decide +kernel
theorem dX7_plays_72 : decode cX7_plays 72 = .ok (.ireturn, 1) := by decide +kernel
theorem dX7_heardBy_0 : decode cX7_heardBy 0 = .ok (.aload_n 0, 1) := by decide +kernel
theorem dX7_heardBy_1 : decode cX7_heardBy 1 = .ok (.aload_n 0, 1) := by decide +kernel
theorem dX7_heardBy_2 : decode cX7_heardBy 2 = .ok (.getfield 19, 3) := by decide +kernel
theorem dX7_heardBy_5 : decode cX7_heardBy 5 = .ok (.bipush 10, 2) := by decide +kernel
theorem dX7_heardBy_7 : decode cX7_heardBy 7 = .ok (.bipush 8, 2) := by decide +kernel
theorem dX7_heardBy_9 : decode cX7_heardBy 9 = .ok (.iload_n 2, 1) := by decide +kernel
theorem dX7_heardBy_10 : decode cX7_heardBy 10 = .ok (.imul, 1) := by decide +kernel
theorem dX7_heardBy_11 : decode cX7_heardBy 11 = .ok (.iadd, 1) := by decide +kernel
theorem dX7_heardBy_12 : decode cX7_heardBy 12 = .ok (.iload_n 3, 1) := by decide +kernel
theorem dX7_heardBy_13 : decode cX7_heardBy 13 = .ok (.iadd, 1) := by decide +kernel
theorem dX7_heardBy_14 : decode cX7_heardBy 14 = .ok (.iaload, 1) := by decide +kernel
theorem dX7_heardBy_15 : decode cX7_heardBy 15 = .ok (.iload_n 1, 1) := by decide +kernel
theorem dX7_heardBy_16 : decode cX7_heardBy 16 = .ok (.isub, 1) := by decide +kernel
theorem dX7_heardBy_17 : decode cX7_heardBy 17 = .ok (.aload_n 0, 1) := by decide +kernel
theorem dX7_heardBy_18 : decode cX7_heardBy 18 = .ok (.getfield 19, 3) := by decide +kernel
theorem dX7_heardBy_21 : decode cX7_heardBy 21 = .ok (.iconst 2, 1) := by decide +kernel
theorem dX7_heardBy_22 : decode cX7_heardBy 22 = .ok (.iaload, 1) := by decide +kernel
theorem dX7_heardBy_23 : decode cX7_heardBy 23 = .ok (.iadd, 1) := by decide +kernel
theorem dX7_heardBy_24 : decode cX7_heardBy 24 = .ok (.invokevirtual 146, 3) := by decide +kernel
theorem dX7_heardBy_27 : decode cX7_heardBy 27 = .ok (.ireturn, 1) := by decide +kernel
theorem dX7_heard_0 : decode cX7_heard 0 = .ok (.aload_n 0, 1) := by decide +kernel
theorem dX7_heard_1 : decode cX7_heard 1 = .ok (.iload_n 1, 1) := by decide +kernel
theorem dX7_heard_2 : decode cX7_heard 2 = .ok (.invokevirtual 159, 3) := by decide +kernel
theorem dX7_heard_5 : decode cX7_heard 5 = .ok (.ifCond .eq 32, 3) := by decide +kernel
theorem dX7_heard_8 : decode cX7_heard 8 = .ok (.aload_n 0, 1) := by decide +kernel
theorem dX7_heard_9 : decode cX7_heard 9 = .ok (.iload_n 2, 1) := by decide +kernel
theorem dX7_heard_10 : decode cX7_heard 10 = .ok (.invokevirtual 162, 3) := by decide +kernel
theorem dX7_heard_13 : decode cX7_heard 13 = .ok (.ifCond .eq 24, 3) := by decide +kernel
theorem dX7_heard_16 : decode cX7_heard 16 = .ok (.iload_n 3, 1) := by decide +kernel
theorem dX7_heard_17 : decode cX7_heard 17 = .ok (.i2l, 1) := by decide +kernel
theorem dX7_heard_18 : decode cX7_heard 18 = .ok (.lconst 0, 1) := by decide +kernel
theorem dX7_heard_19 : decode cX7_heard 19 = .ok (.aload_n 0, 1) := by decide +kernel
theorem dX7_heard_20 : decode cX7_heard 20 = .ok (.getfield 19, 3) := by decide +kernel
theorem dX7_heard_23 : decode cX7_heard 23 = .ok (.bipush 6, 2) := by decide +kernel
theorem dX7_heard_25 : decode cX7_heard 25 = .ok (.iload_n 2, 1) := by decide +kernel
theorem dX7_heard_26 : decode cX7_heard 26 = .ok (.iadd, 1) := by decide +kernel
theorem dX7_heard_27 : decode cX7_heard 27 = .ok (.iaload, 1) := by decide +kernel
theorem dX7_heard_28 : decode cX7_heard 28 = .ok (.iconst 1, 1) := by decide +kernel
theorem dX7_heard_29 : decode cX7_heard 29 = .ok (.isub, 1) := by decide +kernel
theorem dX7_heard_30 : decode cX7_heard 30 = .ok (.i2l, 1) := by decide +kernel
theorem dX7_heard_31 : decode cX7_heard 31 = .ok (.invokestatic 57, 3) := by decide +kernel
theorem dX7_heard_34 : decode cX7_heard 34 = .ok (.ifCond .ne 6, 3) := by decide +kernel
theorem dX7_heard_37 : decode cX7_heard 37 = .ok (.ldc 67, 2) := by decide +kernel
theorem dX7_heard_39 : decode cX7_heard 39 = .ok (.ireturn, 1) := by decide +kernel
theorem dX7_heard_40 : decode cX7_heard 40 = .ok (.aload_n 0, 1) := by decide +kernel
theorem dX7_heard_41 : decode cX7_heard 41 = .ok (.aload_n 0, 1) := by decide +kernel
theorem dX7_heard_42 : decode cX7_heard 42 = .ok (.iload_n 1, 1) := by decide +kernel
theorem dX7_heard_43 : decode cX7_heard 43 = .ok (.invokevirtual 169, 3) := by decide +kernel
theorem dX7_heard_46 : decode cX7_heard 46 = .ok (.iload_n 2, 1) := by decide +kernel
theorem dX7_heard_47 : decode cX7_heard 47 = .ok (.iload_n 3, 1) := by decide +kernel
theorem dX7_heard_48 : decode cX7_heard 48 = .ok (.invokevirtual 182, 3) := by decide +kernel
theorem dX7_heard_51 : decode cX7_heard 51 = .ok (.ireturn, 1) := by decide +kernel
theorem dX7_strike_0 : decode cX7_strike 0 = .ok (.aload_n 0, 1) := by decide +kernel
theorem dX7_strike_1 : decode cX7_strike 1 = .ok (.getfield 138, 3) := by decide +kernel
theorem dX7_strike_4 : decode cX7_strike 4 = .ok (.ifCond .ne 6, 3) := by decide +kernel
theorem dX7_strike_7 : decode cX7_strike 7 = .ok (.ldc 145, 2) := by decide +kernel
theorem dX7_strike_9 : decode cX7_strike 9 = .ok (.ireturn, 1) := by decide +kernel
theorem dX7_strike_10 : decode cX7_strike 10 = .ok (.iload_n 1, 1) := by decide +kernel
theorem dX7_strike_11 : decode cX7_strike 11 = .ok (.i2l, 1) := by decide +kernel
theorem dX7_strike_12 : decode cX7_strike 12 = .ok (.lconst 0, 1) := by decide +kernel
theorem dX7_strike_13 : decode cX7_strike 13 = .ok (.aload_n 0, 1) := by decide +kernel
theorem dX7_strike_14 : decode cX7_strike 14 = .ok (.getfield 19, 3) := by decide +kernel
theorem dX7_strike_17 : decode cX7_strike 17 = .ok (.iconst 0, 1) := by decide +kernel
theorem dX7_strike_18 : decode cX7_strike 18 = .ok (.iaload, 1) := by decide +kernel
theorem dX7_strike_19 : decode cX7_strike 19 = .ok (.iconst 1, 1) := by decide +kernel
theorem dX7_strike_20 : decode cX7_strike 20 = .ok (.isub, 1) := by decide +kernel
theorem dX7_strike_21 : decode cX7_strike 21 = .ok (.i2l, 1) := by decide +kernel
theorem dX7_strike_22 : decode cX7_strike 22 = .ok (.invokestatic 57, 3) := by decide +kernel
theorem dX7_strike_25 : decode cX7_strike 25 = .ok (.ifCond .eq 18, 3) := by decide +kernel
theorem dX7_strike_28 : decode cX7_strike 28 = .ok (.aload_n 0, 1) := by decide +kernel
theorem dX7_strike_29 : decode cX7_strike 29 = .ok (.iload_n 1, 1) := by decide +kernel
theorem dX7_strike_30 : decode cX7_strike 30 = .ok (.aload_n 0, 1) := by decide +kernel
theorem dX7_strike_31 : decode cX7_strike 31 = .ok (.getfield 19, 3) := by decide +kernel
theorem dX7_strike_34 : decode cX7_strike 34 = .ok (.iconst 2, 1) := by decide +kernel
theorem dX7_strike_35 : decode cX7_strike 35 = .ok (.iaload, 1) := by decide +kernel
theorem dX7_strike_36 : decode cX7_strike 36 = .ok (.iadd, 1) := by decide +kernel
theorem dX7_strike_37 : decode cX7_strike 37 = .ok (.invokevirtual 146, 3) := by decide +kernel
theorem dX7_strike_40 : decode cX7_strike 40 = .ok (.goto 5, 3) := by decide +kernel
theorem dX7_strike_43 : decode cX7_strike 43 = .ok (.ldc 67, 2) := by decide +kernel
theorem dX7_strike_45 : decode cX7_strike 45 = .ok (.ireturn, 1) := by decide +kernel
theorem dX7_soonBy_0 : decode cX7_soonBy 0 = .ok (.iconst 0, 1) := by decide +kernel
theorem dX7_soonBy_1 : decode cX7_soonBy 1 = .ok (.istore_n 3, 1) := by decide +kernel
theorem dX7_soonBy_2 : decode cX7_soonBy 2 = .ok (.iload_n 3, 1) := by decide +kernel
theorem dX7_soonBy_3 : decode cX7_soonBy 3 = .ok (.bipush 60, 2) := by decide +kernel
theorem dX7_soonBy_5 : decode cX7_soonBy 5 = .ok (.if_icmp .gt 25, 3) := by decide +kernel
theorem dX7_soonBy_8 : decode cX7_soonBy 8 = .ok (.aload_n 0, 1) := by decide +kernel
theorem dX7_soonBy_9 : decode cX7_soonBy 9 = .ok (.iload_n 3, 1) := by decide +kernel
theorem dX7_soonBy_10 : decode cX7_soonBy 10 = .ok (.invokevirtual 154, 3) := by decide +kernel
theorem dX7_soonBy_13 : decode cX7_soonBy 13 = .ok (.iload_n 1, 1) := by decide +kernel
theorem dX7_soonBy_14 : decode cX7_soonBy 14 = .ok (.if_icmp .ne 10, 3) := by decide +kernel
theorem dX7_soonBy_17 : decode cX7_soonBy 17 = .ok (.iload_n 1, 1) := by decide +kernel
theorem dX7_soonBy_18 : decode cX7_soonBy 18 = .ok (.iload_n 2, 1) := by decide +kernel
theorem dX7_soonBy_19 : decode cX7_soonBy 19 = .ok (.if_icmp .ne 5, 3) := by decide +kernel
theorem dX7_soonBy_22 : decode cX7_soonBy 22 = .ok (.iload_n 3, 1) := by decide +kernel
theorem dX7_soonBy_23 : decode cX7_soonBy 23 = .ok (.ireturn, 1) := by decide +kernel
theorem dX7_soonBy_24 : decode cX7_soonBy 24 = .ok (.iinc 3 1, 3) := by decide +kernel
theorem dX7_soonBy_27 : decode cX7_soonBy 27 = .ok (.goto (-25), 3) := by decide +kernel
theorem dX7_soonBy_30 : decode cX7_soonBy 30 = .ok (.ldc 165, 2) := by decide +kernel
theorem dX7_soonBy_32 : decode cX7_soonBy 32 = .ok (.ireturn, 1) := by decide +kernel
theorem dX7_soon_0 : decode cX7_soon 0 = .ok (.aload_n 0, 1) := by decide +kernel
theorem dX7_soon_1 : decode cX7_soon 1 = .ok (.iload_n 1, 1) := by decide +kernel
theorem dX7_soon_2 : decode cX7_soon 2 = .ok (.invokevirtual 159, 3) := by decide +kernel
theorem dX7_soon_5 : decode cX7_soon 5 = .ok (.ifCond .eq 20, 3) := by decide +kernel
theorem dX7_soon_8 : decode cX7_soon 8 = .ok (.aload_n 0, 1) := by decide +kernel
theorem dX7_soon_9 : decode cX7_soon 9 = .ok (.aload_n 0, 1) := by decide +kernel
theorem dX7_soon_10 : decode cX7_soon 10 = .ok (.iload_n 1, 1) := by decide +kernel
theorem dX7_soon_11 : decode cX7_soon 11 = .ok (.invokevirtual 169, 3) := by decide +kernel
theorem dX7_soon_14 : decode cX7_soon 14 = .ok (.aload_n 0, 1) := by decide +kernel
theorem dX7_soon_15 : decode cX7_soon 15 = .ok (.iload_n 1, 1) := by decide +kernel
theorem dX7_soon_16 : decode cX7_soon 16 = .ok (.invokevirtual 169, 3) := by decide +kernel
theorem dX7_soon_19 : decode cX7_soon 19 = .ok (.invokevirtual 186, 3) := by decide +kernel
theorem dX7_soon_22 : decode cX7_soon 22 = .ok (.goto 5, 3) := by decide +kernel
theorem dX7_soon_25 : decode cX7_soon 25 = .ok (.ldc 67, 2) := by decide +kernel
theorem dX7_soon_27 : decode cX7_soon 27 = .ok (.ireturn, 1) := by decide +kernel
theorem dX7_together_0 : decode cX7_together 0 = .ok (.aload_n 0, 1) := by decide +kernel
theorem dX7_together_1 : decode cX7_together 1 = .ok (.iload_n 1, 1) := by decide +kernel
theorem dX7_together_2 : decode cX7_together 2 = .ok (.invokevirtual 159, 3) := by decide +kernel
theorem dX7_together_5 : decode cX7_together 5 = .ok (.ifCond .eq 33, 3) := by decide +kernel
theorem dX7_together_8 : decode cX7_together 8 = .ok (.aload_n 0, 1) := by decide +kernel
theorem dX7_together_9 : decode cX7_together 9 = .ok (.iload_n 2, 1) := by decide +kernel
theorem dX7_together_10 : decode cX7_together 10 = .ok (.invokevirtual 159, 3) := by decide +kernel
theorem dX7_together_13 : decode cX7_together 13 = .ok (.ifCond .eq 25, 3) := by decide +kernel
theorem dX7_together_16 : decode cX7_together 16 = .ok (.iload_n 1, 1) := by decide +kernel
theorem dX7_together_17 : decode cX7_together 17 = .ok (.iload_n 2, 1) := by decide +kernel
theorem dX7_together_18 : decode cX7_together 18 = .ok (.if_icmp .eq 20, 3) := by decide +kernel
theorem dX7_together_21 : decode cX7_together 21 = .ok (.aload_n 0, 1) := by decide +kernel
theorem dX7_together_22 : decode cX7_together 22 = .ok (.aload_n 0, 1) := by decide +kernel
theorem dX7_together_23 : decode cX7_together 23 = .ok (.iload_n 1, 1) := by decide +kernel
theorem dX7_together_24 : decode cX7_together 24 = .ok (.invokevirtual 169, 3) := by decide +kernel
theorem dX7_together_27 : decode cX7_together 27 = .ok (.aload_n 0, 1) := by decide +kernel
theorem dX7_together_28 : decode cX7_together 28 = .ok (.iload_n 2, 1) := by decide +kernel
theorem dX7_together_29 : decode cX7_together 29 = .ok (.invokevirtual 169, 3) := by decide +kernel
theorem dX7_together_32 : decode cX7_together 32 = .ok (.invokevirtual 186, 3) := by decide +kernel
theorem dX7_together_35 : decode cX7_together 35 = .ok (.goto 5, 3) := by decide +kernel
theorem dX7_together_38 : decode cX7_together 38 = .ok (.ldc 67, 2) := by decide +kernel
theorem dX7_together_40 : decode cX7_together 40 = .ok (.ireturn, 1) := by decide +kernel
theorem dX7_itself_0 : decode cX7_itself 0 = .ok (.aload_n 0, 1) := by decide +kernel
theorem dX7_itself_1 : decode cX7_itself 1 = .ok (.getfield 138, 3) := by decide +kernel
theorem dX7_itself_4 : decode cX7_itself 4 = .ok (.ifCond .eq 12, 3) := by decide +kernel
theorem dX7_itself_7 : decode cX7_itself 7 = .ok (.aload_n 0, 1) := by decide +kernel
theorem dX7_itself_8 : decode cX7_itself 8 = .ok (.iconst 0, 1) := by decide +kernel
theorem dX7_itself_9 : decode cX7_itself 9 = .ok (.iconst 0, 1) := by decide +kernel
theorem dX7_itself_10 : decode cX7_itself 10 = .ok (.invokevirtual 186, 3) := by decide +kernel
theorem dX7_itself_13 : decode cX7_itself 13 = .ok (.goto 5, 3) := by decide +kernel
theorem dX7_itself_16 : decode cX7_itself 16 = .ok (.ldc 145, 2) := by decide +kernel
theorem dX7_itself_18 : decode cX7_itself 18 = .ok (.ireturn, 1) := by decide +kernel
theorem dX7_nightsOf_0 : decode cX7_nightsOf 0 = .ok (.aload_n 0, 1) := by decide +kernel
theorem dX7_nightsOf_1 : decode cX7_nightsOf 1 = .ok (.iload_n 1, 1) := by decide +kernel
theorem dX7_nightsOf_2 : decode cX7_nightsOf 2 = .ok (.invokevirtual 159, 3) := by decide +kernel
theorem dX7_nightsOf_5 : decode cX7_nightsOf 5 = .ok (.ifCond .eq 15, 3) := by decide +kernel
theorem dX7_nightsOf_8 : decode cX7_nightsOf 8 = .ok (.iload_n 2, 1) := by decide +kernel
theorem dX7_nightsOf_9 : decode cX7_nightsOf 9 = .ok (.i2l, 1) := by decide +kernel
theorem dX7_nightsOf_10 : decode cX7_nightsOf 10 = .ok (.lconst 1, 1) := by decide +kernel
theorem dX7_nightsOf_11 : decode cX7_nightsOf 11 = .ok (.ldc2_w 149, 3) := by decide +kernel
theorem dX7_nightsOf_14 : decode cX7_nightsOf 14 = .ok (.invokestatic 57, 3) := by decide +kernel
theorem dX7_nightsOf_17 : decode cX7_nightsOf 17 = .ok (.ifCond .ne 6, 3) := by decide +kernel
theorem dX7_nightsOf_20 : decode cX7_nightsOf 20 = .ok (.ldc 67, 2) := by decide +kernel
theorem dX7_nightsOf_22 : decode cX7_nightsOf 22 = .ok (.ireturn, 1) := by decide +kernel
theorem dX7_nightsOf_23 : decode cX7_nightsOf 23 = .ok (.iconst 0, 1) := by decide +kernel
theorem dX7_nightsOf_24 : decode cX7_nightsOf 24 = .ok (.istore_n 3, 1) := by decide +kernel
theorem dX7_nightsOf_25 : decode cX7_nightsOf 25 = .ok (.iconst 0, 1) := by decide +kernel
theorem dX7_nightsOf_26 : decode cX7_nightsOf 26 = .ok (.istore 4, 2) := by decide +kernel
theorem dX7_nightsOf_28 : decode cX7_nightsOf 28 = .ok (.iload 4, 2) := by decide +kernel
theorem dX7_nightsOf_30 : decode cX7_nightsOf 30 = .ok (.iload_n 2, 1) := by decide +kernel
theorem dX7_nightsOf_31 : decode cX7_nightsOf 31 = .ok (.if_icmp .ge 34, 3) := by decide +kernel
theorem dX7_nightsOf_34 : decode cX7_nightsOf 34 = .ok (.iload_n 3, 1) := by decide +kernel
theorem dX7_nightsOf_35 : decode cX7_nightsOf 35 = .ok (.aload_n 0, 1) := by decide +kernel
theorem dX7_nightsOf_36 : decode cX7_nightsOf 36 = .ok (.iload 4, 2) := by decide +kernel
theorem dX7_nightsOf_38 : decode cX7_nightsOf 38 = .ok (.invokevirtual 154, 3) := by decide +kernel
theorem dX7_nightsOf_41 : decode cX7_nightsOf 41 = .ok (.aload_n 0, 1) := by decide +kernel
theorem dX7_nightsOf_42 : decode cX7_nightsOf 42 = .ok (.iload_n 1, 1) := by decide +kernel
theorem dX7_nightsOf_43 : decode cX7_nightsOf 43 = .ok (.invokevirtual 169, 3) := by decide +kernel
theorem dX7_nightsOf_46 : decode cX7_nightsOf 46 = .ok (.if_icmp .ne 10, 3) := by decide +kernel
theorem dX7_nightsOf_49 : decode cX7_nightsOf 49 = .ok (.iconst 1, 1) := by decide +kernel
theorem dX7_nightsOf_50 : decode cX7_nightsOf 50 = .ok (.iload 4, 2) := by decide +kernel
theorem dX7_nightsOf_52 : decode cX7_nightsOf 52 = .ok (.ishl, 1) := by decide +kernel
theorem dX7_nightsOf_53 : decode cX7_nightsOf 53 = .ok (.goto 4, 3) := by decide +kernel
theorem dX7_nightsOf_56 : decode cX7_nightsOf 56 = .ok (.iconst 0, 1) := by decide +kernel
theorem dX7_nightsOf_57 : decode cX7_nightsOf 57 = .ok (.ior, 1) := by decide +kernel
theorem dX7_nightsOf_58 : decode cX7_nightsOf 58 = .ok (.istore_n 3, 1) := by decide +kernel
theorem dX7_nightsOf_59 : decode cX7_nightsOf 59 = .ok (.iinc 4 1, 3) := by decide +kernel
