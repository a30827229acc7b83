theorem dX7_nightsOf_62 : decode cX7_nightsOf 62 = .ok (.goto (-34), 3) := by decide +kernel
theorem dX7_nightsOf_65 : decode cX7_nightsOf 65 = .ok (.iload_n 3, 1) := by decide +kernel
theorem dX7_nightsOf_66 : decode cX7_nightsOf 66 = .ok (.ireturn, 1) := by decide +kernel
theorem dX7_lacks_0 : decode cX7_lacks 0 = .ok (.aload_n 0, 1) := by decide +kernel
theorem dX7_lacks_1 : decode cX7_lacks 1 = .ok (.getfield 13, 3) := by decide +kernel
theorem dX7_lacks_4 : decode cX7_lacks 4 = .ok (.iload_n 1, 1) := by decide +kernel
theorem dX7_lacks_5 : decode cX7_lacks 5 = .ok (.iaload, 1) := by decide +kernel
theorem dX7_lacks_6 : decode cX7_lacks 6 = .ok (.ifCond .ge 9, 3) := by decide +kernel
theorem dX7_lacks_9 : decode cX7_lacks 9 = .ok (.aload_n 0, 1) := by decide +kernel
theorem dX7_lacks_10 : decode cX7_lacks 10 = .ok (.iconst 1, 1) := by decide +kernel
theorem dX7_lacks_11 : decode cX7_lacks 11 = .ok (.invokevirtual 68, 3) := by decide +kernel
theorem dX7_lacks_14 : decode cX7_lacks 14 = .ok (.ireturn, 1) := by decide +kernel
theorem dX7_lacks_15 : decode cX7_lacks 15 = .ok (.iload_n 2, 1) := by decide +kernel
theorem dX7_lacks_16 : decode cX7_lacks 16 = .ok (.i2l, 1) := by decide +kernel
theorem dX7_lacks_17 : decode cX7_lacks 17 = .ok (.lconst 0, 1) := by decide +kernel
theorem dX7_lacks_18 : decode cX7_lacks 18 = .ok (.aload_n 0, 1) := by decide +kernel
theorem dX7_lacks_19 : decode cX7_lacks 19 = .ok (.getfield 13, 3) := by decide +kernel
theorem dX7_lacks_22 : decode cX7_lacks 22 = .ok (.iload_n 1, 1) := by decide +kernel
theorem dX7_lacks_23 : decode cX7_lacks 23 = .ok (.iaload, 1) := by decide +kernel
theorem dX7_lacks_24 : decode cX7_lacks 24 = .ok (.iload_n 3, 1) := by decide +kernel
theorem dX7_lacks_25 : decode cX7_lacks 25 = .ok (.isub, 1) := by decide +kernel
theorem dX7_lacks_26 : decode cX7_lacks 26 = .ok (.i2l, 1) := by decide +kernel
theorem dX7_lacks_27 : decode cX7_lacks 27 = .ok (.invokestatic 57, 3) := by decide +kernel
theorem dX7_lacks_30 : decode cX7_lacks 30 = .ok (.ifCond .eq 7, 3) := by decide +kernel
theorem dX7_lacks_33 : decode cX7_lacks 33 = .ok (.iconst 0, 1) := by decide +kernel
theorem dX7_lacks_34 : decode cX7_lacks 34 = .ok (.goto 8, 3) := by decide +kernel
theorem dX7_lacks_37 : decode cX7_lacks 37 = .ok (.aload_n 0, 1) := by decide +kernel
theorem dX7_lacks_38 : decode cX7_lacks 38 = .ok (.iconst 2, 1) := by decide +kernel
theorem dX7_lacks_39 : decode cX7_lacks 39 = .ok (.invokevirtual 68, 3) := by decide +kernel
theorem dX7_lacks_42 : decode cX7_lacks 42 = .ok (.ireturn, 1) := by decide +kernel
theorem dX7_struck_0 : decode cX7_struck 0 = .ok (.aload_n 0, 1) := by decide +kernel
theorem dX7_struck_1 : decode cX7_struck 1 = .ok (.getfield 138, 3) := by decide +kernel
theorem dX7_struck_4 : decode cX7_struck 4 = .ok (.ifCond .ne 6, 3) := by decide +kernel
theorem dX7_struck_7 : decode cX7_struck 7 = .ok (.ldc 145, 2) := by decide +kernel
theorem dX7_struck_9 : decode cX7_struck 9 = .ok (.ireturn, 1) := by decide +kernel
theorem dX7_struck_10 : decode cX7_struck 10 = .ok (.iload_n 1, 1) := by decide +kernel
theorem dX7_struck_11 : decode cX7_struck 11 = .ok (.invokestatic 61, 3) := by decide +kernel
theorem dX7_struck_14 : decode cX7_struck 14 = .ok (.ifCond .eq 26, 3) := by decide +kernel
theorem dX7_struck_17 : decode cX7_struck 17 = .ok (.iload_n 3, 1) := by decide +kernel
theorem dX7_struck_18 : decode cX7_struck 18 = .ok (.i2l, 1) := by decide +kernel
theorem dX7_struck_19 : decode cX7_struck 19 = .ok (.lconst 1, 1) := by decide +kernel
theorem dX7_struck_20 : decode cX7_struck 20 = .ok (.ldc2_w 189, 3) := by decide +kernel
theorem dX7_struck_23 : decode cX7_struck 23 = .ok (.invokestatic 57, 3) := by decide +kernel
theorem dX7_struck_26 : decode cX7_struck 26 = .ok (.ifCond .eq 14, 3) := by decide +kernel
theorem dX7_struck_29 : decode cX7_struck 29 = .ok (.iload 4, 2) := by decide +kernel
theorem dX7_struck_31 : decode cX7_struck 31 = .ok (.i2l, 1) := by decide +kernel
theorem dX7_struck_32 : decode cX7_struck 32 = .ok (.lconst 0, 1) := by decide +kernel
theorem dX7_struck_33 : decode cX7_struck 33 = .ok (.lconst 1, 1) := by decide +kernel
theorem dX7_struck_34 : decode cX7_struck 34 = .ok (.invokestatic 57, 3) := by decide +kernel
theorem dX7_struck_37 : decode cX7_struck 37 = .ok (.ifCond .ne 6, 3) := by decide +kernel
theorem dX7_struck_40 : decode cX7_struck 40 = .ok (.ldc 67, 2) := by decide +kernel
theorem dX7_struck_42 : decode cX7_struck 42 = .ok (.ireturn, 1) := by decide +kernel
theorem dX7_struck_43 : decode cX7_struck 43 = .ok (.aload_n 0, 1) := by decide +kernel
theorem dX7_struck_44 : decode cX7_struck 44 = .ok (.iload_n 1, 1) := by decide +kernel
theorem dX7_struck_45 : decode cX7_struck 45 = .ok (.iload_n 2, 1) := by decide +kernel
theorem dX7_struck_46 : decode cX7_struck 46 = .ok (.iconst 2, 1) := by decide +kernel
theorem dX7_struck_47 : decode cX7_struck 47 = .ok (.iload_n 3, 1) := by decide +kernel
theorem dX7_struck_48 : decode cX7_struck 48 = .ok (.imul, 1) := by decide +kernel
theorem dX7_struck_49 : decode cX7_struck 49 = .ok (.invokevirtual 191, 3) := by decide +kernel
theorem dX7_struck_52 : decode cX7_struck 52 = .ok (.istore 5, 2) := by decide +kernel
theorem dX7_struck_54 : decode cX7_struck 54 = .ok (.iload 5, 2) := by decide +kernel
theorem dX7_struck_56 : decode cX7_struck 56 = .ok (.ifCond .ge 6, 3) := by decide +kernel
theorem dX7_struck_59 : decode cX7_struck 59 = .ok (.iload 5, 2) := by decide +kernel
theorem dX7_struck_61 : decode cX7_struck 61 = .ok (.ireturn, 1) := by decide +kernel
theorem dX7_struck_62 : decode cX7_struck 62 = .ok (.iconst 0, 1) := by decide +kernel
theorem dX7_struck_63 : decode cX7_struck 63 = .ok (.istore 6, 2) := by decide +kernel
theorem dX7_struck_65 : decode cX7_struck 65 = .ok (.iconst 0, 1) := by decide +kernel
theorem dX7_struck_66 : decode cX7_struck 66 = .ok (.istore 7, 2) := by decide +kernel
theorem dX7_struck_68 : decode cX7_struck 68 = .ok (.iload 7, 2) := by decide +kernel
theorem dX7_struck_70 : decode cX7_struck 70 = .ok (.aload_n 0, 1) := by decide +kernel
theorem dX7_struck_71 : decode cX7_struck 71 = .ok (.getfield 19, 3) := by decide +kernel
theorem dX7_struck_74 : decode cX7_struck 74 = .ok (.iconst 0, 1) := by decide +kernel
theorem dX7_struck_75 : decode cX7_struck 75 = .ok (.iaload, 1) := by decide +kernel
theorem dX7_struck_76 : decode cX7_struck 76 = .ok (.if_icmp .ge 140, 3) := by decide +kernel
theorem dX7_struck_79 : decode cX7_struck 79 = .ok (.iconst 0, 1) := by decide +kernel
theorem dX7_struck_80 : decode cX7_struck 80 = .ok (.istore 8, 2) := by decide +kernel
theorem dX7_struck_82 : decode cX7_struck 82 = .ok (.iconst 0, 1) := by decide +kernel
theorem dX7_struck_83 : decode cX7_struck 83 = .ok (.istore 9, 2) := by decide +kernel
theorem dX7_struck_85 : decode cX7_struck 85 = .ok (.iload 9, 2) := by decide +kernel
theorem dX7_struck_87 : decode cX7_struck 87 = .ok (.iload_n 3, 1) := by decide +kernel
theorem dX7_struck_88 : decode cX7_struck 88 = .ok (.if_icmp .ge 102, 3) := by decide +kernel
theorem dX7_struck_91 : decode cX7_struck 91 = .ok (.aload_n 0, 1) := by decide +kernel
theorem dX7_struck_92 : decode cX7_struck 92 = .ok (.getfield 16, 3) := by decide +kernel
theorem dX7_struck_95 : decode cX7_struck 95 = .ok (.bipush 40, 2) := by decide +kernel
theorem dX7_struck_97 : decode cX7_struck 97 = .ok (.iload_n 1, 1) := by decide +kernel
theorem dX7_struck_98 : decode cX7_struck 98 = .ok (.imul, 1) := by decide +kernel
theorem dX7_struck_99 : decode cX7_struck 99 = .ok (.iload_n 2, 1) := by decide +kernel
theorem dX7_struck_100 : decode cX7_struck 100 = .ok (.iadd, 1) := by decide +kernel
theorem dX7_struck_101 : decode cX7_struck 101 = .ok (.iconst 2, 1) := by decide +kernel
theorem dX7_struck_102 : decode cX7_struck 102 = .ok (.iload 9, 2) := by decide +kernel
theorem dX7_struck_104 : decode cX7_struck 104 = .ok (.imul, 1) := by decide +kernel
theorem dX7_struck_105 : decode cX7_struck 105 = .ok (.iadd, 1) := by decide +kernel
theorem dX7_struck_106 : decode cX7_struck 106 = .ok (.iaload, 1) := by decide +kernel
theorem dX7_struck_107 : decode cX7_struck 107 = .ok (.istore 10, 2) := by decide +kernel
theorem dX7_struck_109 : decode cX7_struck 109 = .ok (.aload_n 0, 1) := by decide +kernel
theorem dX7_struck_110 : decode cX7_struck 110 = .ok (.getfield 16, 3) := by decide +kernel
theorem dX7_struck_113 : decode cX7_struck 113 = .ok (.bipush 40, 2) := by decide +kernel
theorem dX7_struck_115 : decode cX7_struck 115 = .ok (.iload_n 1, 1) := by decide +kernel
theorem dX7_struck_116 : decode cX7_struck 116 = .ok (.imul, 1) := by decide +kernel
theorem dX7_struck_117 : decode cX7_struck 117 = .ok (.iload_n 2, 1) := by decide +kernel
theorem dX7_struck_118 : decode cX7_struck 118 = .ok (.iadd, 1) := by decide +kernel
theorem dX7_struck_119 : decode cX7_struck 119 = .ok (.iconst 2, 1) := by decide +kernel
theorem dX7_struck_120 : decode cX7_struck 120 = .ok (.iload 9, 2) := by decide +kernel
theorem dX7_struck_122 : decode cX7_struck 122 = .ok (.imul, 1) := by decide +kernel
theorem dX7_struck_123 : decode cX7_struck 123 = .ok (.iadd, 1) := by decide +kernel
theorem dX7_struck_124 : decode cX7_struck 124 = .ok (.iconst 1, 1) := by decide +kernel
theorem dX7_struck_125 : decode cX7_struck 125 = .ok (.iadd, 1) := by decide +kernel
theorem dX7_struck_126 : decode cX7_struck 126 = .ok (.iaload, 1) := by decide +kernel
theorem dX7_struck_127 : decode cX7_struck 127 = .ok (.istore 11, 2) := by decide +kernel
theorem dX7_struck_129 : decode cX7_struck 129 = .ok (.iload 10, 2) := by decide +kernel
theorem dX7_struck_131 : decode cX7_struck 131 = .ok (.i2l, 1) := by decide +kernel
theorem dX7_struck_132 : decode cX7_struck 132 = .ok (.lconst 0, 1) := by decide +kernel
theorem dX7_struck_133 : decode cX7_struck 133 = .ok (.aload_n 0, 1) := by decide +kernel
theorem dX7_struck_134 : decode cX7_struck 134 = .ok (.getfield 19, 3) := by decide +kernel
theorem dX7_struck_137 : decode cX7_struck 137 = .ok (.iconst 0, 1) := by decide +kernel
theorem dX7_struck_138 : decode cX7_struck 138 = .ok (.iaload, 1) := by decide +kernel
theorem dX7_struck_139 : decode cX7_struck 139 = .ok (.iconst 1, 1) := by decide +kernel
theorem dX7_struck_140 : decode cX7_struck 140 = .ok (.isub, 1) := by decide +kernel
theorem dX7_struck_141 : decode cX7_struck 141 = .ok (.i2l, 1) := by decide +kernel
theorem dX7_struck_142 : decode cX7_struck 142 = .ok (.invokestatic 57, 3) := by decide +kernel
theorem dX7_struck_145 : decode cX7_struck 145 = .ok (.ifCond .eq 21, 3) := by decide +kernel
theorem dX7_struck_148 : decode cX7_struck 148 = .ok (.iload 11, 2) := by decide +kernel
theorem dX7_struck_150 : decode cX7_struck 150 = .ok (.aload_n 0, 1) := by decide +kernel
theorem dX7_struck_151 : decode cX7_struck 151 = .ok (.iload 10, 2) := by decide +kernel
theorem dX7_struck_153 : decode cX7_struck 153 = .ok (.iload 7, 2) := by decide +kernel
theorem dX7_struck_155 : decode cX7_struck 155 = .ok (.iadd, 1) := by decide +kernel
theorem dX7_struck_156 : decode cX7_struck 156 = .ok (.invokevirtual 146, 3) := by decide +kernel
theorem dX7_struck_159 : decode cX7_struck 159 = .ok (.if_icmp .ne 7, 3) := by decide +kernel
theorem dX7_struck_162 : decode cX7_struck 162 = .ok (.iconst 1, 1) := by decide +kernel
theorem dX7_struck_163 : decode cX7_struck 163 = .ok (.goto 4, 3) := by decide +kernel
theorem dX7_struck_166 : decode cX7_struck 166 = .ok (.iconst 0, 1) := by decide +kernel
theorem dX7_struck_167 : decode cX7_struck 167 = .ok (.istore 12, 2) := by decide +kernel
theorem dX7_struck_169 : decode cX7_struck 169 = .ok (.iload 8, 2) := by decide +kernel
theorem dX7_struck_171 : decode cX7_struck 171 = .ok (.iload 12, 2) := by decide +kernel
theorem dX7_struck_173 : decode cX7_struck 173 = .ok (.ifCond .eq 7, 3) := by decide +kernel
theorem dX7_struck_176 : decode cX7_struck 176 = .ok (.iconst 0, 1) := by decide +kernel
theorem dX7_struck_177 : decode cX7_struck 177 = .ok (.goto 4, 3) := by decide +kernel
theorem dX7_struck_180 : decode cX7_struck 180 = .ok (.iconst 1, 1) := by decide +kernel
theorem dX7_struck_181 : decode cX7_struck 181 = .ok (.iadd, 1) := by decide +kernel
theorem dX7_struck_182 : decode cX7_struck 182 = .ok (.istore 8, 2) := by decide +kernel
theorem dX7_struck_184 : decode cX7_struck 184 = .ok (.iinc 9 1, 3) := by decide +kernel
theorem dX7_struck_187 : decode cX7_struck 187 = .ok (.goto (-102), 3) := by decide +kernel
theorem dX7_struck_190 : decode cX7_struck 190 = .ok (.iload 6, 2) := by decide +kernel
theorem dX7_struck_192 : decode cX7_struck 192 = .ok (.iload 8, 2) := by decide +kernel
theorem dX7_struck_194 : decode cX7_struck 194 = .ok (.iload 4, 2) := by decide +kernel
theorem dX7_struck_196 : decode cX7_struck 196 = .ok (.if_icmp .gt 10, 3) := by decide +kernel
theorem dX7_struck_199 : decode cX7_struck 199 = .ok (.iconst 1, 1) := by decide +kernel
theorem dX7_struck_200 : decode cX7_struck 200 = .ok (.iload 7, 2) := by decide +kernel
theorem dX7_struck_202 : decode cX7_struck 202 = .ok (.ishl, 1) := by decide +kernel
theorem dX7_struck_203 : decode cX7_struck 203 = .ok (.goto 4, 3) := by decide +kernel
theorem dX7_struck_206 : decode cX7_struck 206 = .ok (.iconst 0, 1) := by decide +kernel
theorem dX7_struck_207 : decode cX7_struck 207 = .ok (.ior, 1) := by decide +kernel
theorem dX7_struck_208 : decode cX7_struck 208 = .ok (.istore 6, 2) := by decide +kernel
theorem dX7_struck_210 : decode cX7_struck 210 = .ok (.iinc 7 1, 3) := by decide +kernel
theorem dX7_struck_213 : decode cX7_struck 213 = .ok (.goto (-145), 3) := by decide +kernel
theorem dX7_struck_216 : decode cX7_struck 216 = .ok (.aload_n 0, 1) := by decide +kernel
theorem dX7_struck_217 : decode cX7_struck 217 = .ok (.iload 6, 2) := by decide +kernel
theorem dX7_struck_219 : decode cX7_struck 219 = .ok (.invokevirtual 72, 3) := by decide +kernel
theorem dX7_struck_222 : decode cX7_struck 222 = .ok (.ireturn, 1) := by decide +kernel
theorem dX7_isLesson_0 : decode cX7_isLesson 0 = .ok (.iconst 1, 1) := by decide +kernel
theorem dX7_isLesson_1 : decode cX7_isLesson 1 = .ok (.istore_n 3, 1) := by decide +kernel
theorem dX7_isLesson_2 : decode cX7_isLesson 2 = .ok (.iconst 0, 1) := by decide +kernel
theorem dX7_isLesson_3 : decode cX7_isLesson 3 = .ok (.istore 4, 2) := by decide +kernel
theorem dX7_isLesson_5 : decode cX7_isLesson 5 = .ok (.iload 4, 2) := by decide +kernel
theorem dX7_isLesson_7 : decode cX7_isLesson 7 = .ok (.bipush 24, 2) := by decide +kernel
theorem dX7_isLesson_9 : decode cX7_isLesson 9 = .ok (.if_icmp .ge 127, 3) := by decide +kernel
theorem dX7_isLesson_12 : decode cX7_isLesson 12 = .ok (.iload_n 1, 1) := by decide +kernel
theorem dX7_isLesson_13 : decode cX7_isLesson 13 = .ok (.iload 4, 2) := by decide +kernel
theorem dX7_isLesson_15 : decode cX7_isLesson 15 = .ok (.invokestatic 194, 3) := by decide +kernel
theorem dX7_isLesson_18 : decode cX7_isLesson 18 = .ok (.ifCond .ne 7, 3) := by decide +kernel
theorem dX7_isLesson_21 : decode cX7_isLesson 21 = .ok (.iconst 1, 1) := by decide +kernel
theorem dX7_isLesson_22 : decode cX7_isLesson 22 = .ok (.goto 4, 3) := by decide +kernel
theorem dX7_isLesson_25 : decode cX7_isLesson 25 = .ok (.iconst 0, 1) := by decide +kernel
theorem dX7_isLesson_26 : decode cX7_isLesson 26 = .ok (.istore 5, 2) := by decide +kernel
theorem dX7_isLesson_28 : decode cX7_isLesson 28 = .ok (.iconst 0, 1) := by decide +kernel
theorem dX7_isLesson_29 : decode cX7_isLesson 29 = .ok (.istore 6, 2) := by decide +kernel
theorem dX7_isLesson_31 : decode cX7_isLesson 31 = .ok (.iload 6, 2) := by decide +kernel
theorem dX7_isLesson_33 : decode cX7_isLesson 33 = .ok (.aload_n 0, 1) := by decide +kernel
theorem dX7_isLesson_34 : decode cX7_isLesson 34 = .ok (.getfield 19, 3) := by decide +kernel
theorem dX7_isLesson_37 : decode cX7_isLesson 37 = .ok (.iconst 4, 1) := by decide +kernel
theorem dX7_isLesson_38 : decode cX7_isLesson 38 = .ok (.iaload, 1) := by decide +kernel
theorem dX7_isLesson_39 : decode cX7_isLesson 39 = .ok (.if_icmp .ge 76, 3) := by decide +kernel
theorem dX7_isLesson_42 : decode cX7_isLesson 42 = .ok (.iload_n 2, 1) := by decide +kernel
theorem dX7_isLesson_43 : decode cX7_isLesson 43 = .ok (.iload 6, 2) := by decide +kernel
theorem dX7_isLesson_45 : decode cX7_isLesson 45 = .ok (.invokestatic 194, 3) := by decide +kernel
theorem dX7_isLesson_48 : decode cX7_isLesson 48 = .ok (.ifCond .eq 12, 3) := by decide +kernel
theorem dX7_isLesson_51 : decode cX7_isLesson 51 = .ok (.aload_n 0, 1) := by decide +kernel
theorem dX7_isLesson_52 : decode cX7_isLesson 52 = .ok (.getfield 19, 3) := by decide +kernel
theorem dX7_isLesson_55 : decode cX7_isLesson 55 = .ok (.iconst 2, 1) := by decide +kernel
theorem dX7_isLesson_56 : decode cX7_isLesson 56 = .ok (.iaload, 1) := by decide +kernel
theorem dX7_isLesson_57 : decode cX7_isLesson 57 = .ok (.goto 13, 3) := by decide +kernel
theorem dX7_isLesson_60 : decode cX7_isLesson 60 = .ok (.aload_n 0, 1) := by decide +kernel
theorem dX7_isLesson_61 : decode cX7_isLesson 61 = .ok (.getfield 19, 3) := by decide +kernel
theorem dX7_isLesson_64 : decode cX7_isLesson 64 = .ok (.bipush 47, 2) := by decide +kernel
theorem dX7_isLesson_66 : decode cX7_isLesson 66 = .ok (.iload 6, 2) := by decide +kernel
theorem dX7_isLesson_68 : decode cX7_isLesson 68 = .ok (.iadd, 1) := by decide +kernel
theorem dX7_isLesson_69 : decode cX7_isLesson 69 = .ok (.iaload, 1) := by decide +kernel
theorem dX7_isLesson_70 : decode cX7_isLesson 70 = .ok (.istore 7, 2) := by decide +kernel
theorem dX7_isLesson_72 : decode cX7_isLesson 72 = .ok (.iload 5, 2) := by decide +kernel
theorem dX7_isLesson_74 : decode cX7_isLesson 74 = .ok (.ifCond .ne 28, 3) := by decide +kernel
theorem dX7_isLesson_77 : decode cX7_isLesson 77 = .ok (.aload_n 0, 1) := by decide +kernel
theorem dX7_isLesson_78 : decode cX7_isLesson 78 = .ok (.aload_n 0, 1) := by decide +kernel
theorem dX7_isLesson_79 : decode cX7_isLesson 79 = .ok (.getfield 19, 3) := by decide +kernel
theorem dX7_isLesson_82 : decode cX7_isLesson 82 = .ok (.bipush 42, 2) := by decide +kernel
theorem dX7_isLesson_84 : decode cX7_isLesson 84 = .ok (.iload 6, 2) := by decide +kernel
theorem dX7_isLesson_86 : decode cX7_isLesson 86 = .ok (.iadd, 1) := by decide +kernel
theorem dX7_isLesson_87 : decode cX7_isLesson 87 = .ok (.iaload, 1) := by decide +kernel
theorem dX7_isLesson_88 : decode cX7_isLesson 88 = .ok (.iload 7, 2) := by decide +kernel
theorem dX7_isLesson_90 : decode cX7_isLesson 90 = .ok (.invokevirtual 166, 3) := by decide +kernel
theorem dX7_isLesson_93 : decode cX7_isLesson 93 = .ok (.aload_n 0, 1) := by decide +kernel
theorem dX7_isLesson_94 : decode cX7_isLesson 94 = .ok (.iload 4, 2) := by decide +kernel
theorem dX7_isLesson_96 : decode cX7_isLesson 96 = .ok (.invokevirtual 154, 3) := by decide +kernel
theorem dX7_isLesson_99 : decode cX7_isLesson 99 = .ok (.if_icmp .ne 7, 3) := by decide +kernel
theorem dX7_isLesson_102 : decode cX7_isLesson 102 = .ok (.iconst 1, 1) := by decide +kernel
theorem dX7_isLesson_103 : decode cX7_isLesson 103 = .ok (.goto 4, 3) := by decide +kernel
theorem dX7_isLesson_106 : decode cX7_isLesson 106 = .ok (.iconst 0, 1) := by decide +kernel
theorem dX7_isLesson_107 : decode cX7_isLesson 107 = .ok (.istore 5, 2) := by decide +kernel
theorem dX7_isLesson_109 : decode cX7_isLesson 109 = .ok (.iinc 6 1, 3) := by decide +kernel
theorem dX7_isLesson_112 : decode cX7_isLesson 112 = .ok (.goto (-81), 3) := by decide +kernel
theorem dX7_isLesson_115 : decode cX7_isLesson 115 = .ok (.iload_n 3, 1) := by decide +kernel
theorem dX7_isLesson_116 : decode cX7_isLesson 116 = .ok (.ifCond .eq 12, 3) := by decide +kernel
theorem dX7_isLesson_119 : decode cX7_isLesson 119 = .ok (.iload 5, 2) := by decide +kernel
theorem dX7_isLesson_121 : decode cX7_isLesson 121 = .ok (.ifCond .eq 7, 3) := by decide +kernel
theorem dX7_isLesson_124 : decode cX7_isLesson 124 = .ok (.iconst 1, 1) := by decide +kernel
theorem dX7_isLesson_125 : decode cX7_isLesson 125 = .ok (.goto 4, 3) := by decide +kernel
theorem dX7_isLesson_128 : decode cX7_isLesson 128 = .ok (.iconst 0, 1) := by decide +kernel
theorem dX7_isLesson_129 : decode cX7_isLesson 129 = .ok (.istore_n 3, 1) := by decide +kernel
theorem dX7_isLesson_130 : decode cX7_isLesson 130 = .ok (.iinc 4 1, 3) := by decide +kernel
theorem dX7_isLesson_133 : decode cX7_isLesson 133 = .ok (.goto (-128), 3) := by decide +kernel
theorem dX7_isLesson_136 : decode cX7_isLesson 136 = .ok (.iload_n 3, 1) := by decide +kernel
theorem dX7_isLesson_137 : decode cX7_isLesson 137 = .ok (.ireturn, 1) := by decide +kernel
theorem dX7_lessons_0 : decode cX7_lessons 0 = .ok (.aload_n 0, 1) := by decide +kernel
theorem dX7_lessons_1 : decode cX7_lessons 1 = .ok (.getfield 138, 3) := by decide +kernel
theorem dX7_lessons_4 : decode cX7_lessons 4 = .ok (.ifCond .ne 6, 3) := by decide +kernel
theorem dX7_lessons_7 : decode cX7_lessons 7 = .ok (.ldc 145, 2) := by decide +kernel
theorem dX7_lessons_9 : decode cX7_lessons 9 = .ok (.ireturn, 1) := by decide +kernel
theorem dX7_lessons_10 : decode cX7_lessons 10 = .ok (.iload_n 1, 1) := by decide +kernel
theorem dX7_lessons_11 : decode cX7_lessons 11 = .ok (.i2l, 1) := by decide +kernel
theorem dX7_lessons_12 : decode cX7_lessons 12 = .ok (.lconst 0, 1) := by decide +kernel
theorem dX7_lessons_13 : decode cX7_lessons 13 = .ok (.ldc2_w 197, 3) := by decide +kernel
theorem dX7_lessons_16 : decode cX7_lessons 16 = .ok (.invokestatic 57, 3) := by decide +kernel
theorem dX7_lessons_19 : decode cX7_lessons 19 = .ok (.ifCond .eq 13, 3) := by decide +kernel
theorem dX7_lessons_22 : decode cX7_lessons 22 = .ok (.iload_n 2, 1) := by decide +kernel
theorem dX7_lessons_23 : decode cX7_lessons 23 = .ok (.i2l, 1) := by decide +kernel
theorem dX7_lessons_24 : decode cX7_lessons 24 = .ok (.lconst 0, 1) := by decide +kernel
theorem dX7_lessons_25 : decode cX7_lessons 25 = .ok (.lconst 1, 1) := by decide +kernel
theorem dX7_lessons_26 : decode cX7_lessons 26 = .ok (.invokestatic 57, 3) := by decide +kernel
theorem dX7_lessons_29 : decode cX7_lessons 29 = .ok (.ifCond .ne 6, 3) := by decide +kernel
theorem dX7_lessons_32 : decode cX7_lessons 32 = .ok (.ldc 67, 2) := by decide +kernel
theorem dX7_lessons_34 : decode cX7_lessons 34 = .ok (.ireturn, 1) := by decide +kernel
theorem dX7_lessons_35 : decode cX7_lessons 35 = .ok (.iconst (-1), 1) := by decide +kernel
theorem dX7_lessons_36 : decode cX7_lessons 36 = .ok (.istore_n 3, 1) := by decide +kernel
theorem dX7_lessons_37 : decode cX7_lessons 37 = .ok (.iconst 0, 1) := by decide +kernel
theorem dX7_lessons_38 : decode cX7_lessons 38 = .ok (.istore 4, 2) := by decide +kernel
theorem dX7_lessons_40 : decode cX7_lessons 40 = .ok (.iload 4, 2) := by decide +kernel
theorem dX7_lessons_42 : decode cX7_lessons 42 = .ok (.iconst 1, 1) := by decide +kernel
theorem dX7_lessons_43 : decode cX7_lessons 43 = .ok (.aload_n 0, 1) := by decide +kernel
theorem dX7_lessons_44 : decode cX7_lessons 44 = .ok (.getfield 19, 3) := by decide +kernel
theorem dX7_lessons_47 : decode cX7_lessons 47 = .ok (.iconst 4, 1) := by decide +kernel
theorem dX7_lessons_48 : decode cX7_lessons 48 = .ok (.iaload, 1) := by decide +kernel
theorem dX7_lessons_49 : decode cX7_lessons 49 = .ok (.ishl, 1) := by decide +kernel
theorem dX7_lessons_50 : decode cX7_lessons 50 = .ok (.if_icmp .ge 42, 3) := by decide +kernel
theorem dX7_lessons_53 : decode cX7_lessons 53 = .ok (.iload_n 3, 1) := by decide +kernel
theorem dX7_lessons_54 : decode cX7_lessons 54 = .ok (.ifCond .lt 15, 3) := by decide +kernel
theorem dX7_lessons_57 : decode cX7_lessons 57 = .ok (.iload 4, 2) := by decide +kernel
theorem dX7_lessons_59 : decode cX7_lessons 59 = .ok (.invokestatic 199, 3) := by decide +kernel
theorem dX7_lessons_62 : decode cX7_lessons 62 = .ok (.iload_n 3, 1) := by decide +kernel
theorem dX7_lessons_63 : decode cX7_lessons 63 = .ok (.invokestatic 199, 3) := by decide +kernel
theorem dX7_lessons_66 : decode cX7_lessons 66 = .ok (.if_icmp .ge 20, 3) := by decide +kernel
theorem dX7_lessons_69 : decode cX7_lessons 69 = .ok (.aload_n 0, 1) := by decide +kernel
theorem dX7_lessons_70 : decode cX7_lessons 70 = .ok (.iload_n 1, 1) := by decide +kernel
theorem dX7_lessons_71 : decode cX7_lessons 71 = .ok (.iload 4, 2) := by decide +kernel
theorem dX7_lessons_73 : decode cX7_lessons 73 = .ok (.invokevirtual 202, 3) := by decide +kernel
theorem dX7_lessons_76 : decode cX7_lessons 76 = .ok (.ifCond .eq 8, 3) := by decide +kernel
theorem dX7_lessons_79 : decode cX7_lessons 79 = .ok (.iload 4, 2) := by decide +kernel
theorem dX7_lessons_81 : decode cX7_lessons 81 = .ok (.goto 4, 3) := by decide +kernel
theorem dX7_lessons_84 : decode cX7_lessons 84 = .ok (.iload_n 3, 1) := by decide +kernel
theorem dX7_lessons_85 : decode cX7_lessons 85 = .ok (.istore_n 3, 1) := by decide +kernel
theorem dX7_lessons_86 : decode cX7_lessons 86 = .ok (.iinc 4 1, 3) := by decide +kernel
theorem dX7_lessons_89 : decode cX7_lessons 89 = .ok (.goto (-49), 3) := by decide +kernel
theorem dX7_lessons_92 : decode cX7_lessons 92 = .ok (.iload_n 3, 1) := by decide +kernel
theorem dX7_lessons_93 : decode cX7_lessons 93 = .ok (.ifCond .ge 8, 3) := by decide +kernel
theorem dX7_lessons_96 : decode cX7_lessons 96 = .ok (.ldc 165, 2) := by decide +kernel
theorem dX7_lessons_98 : decode cX7_lessons 98 = .ok (.goto 15, 3) := by decide +kernel
theorem dX7_lessons_101 : decode cX7_lessons 101 = .ok (.iload_n 2, 1) := by decide +kernel
theorem dX7_lessons_102 : decode cX7_lessons 102 = .ok (.ifCond .ne 10, 3) := by decide +kernel
theorem dX7_lessons_105 : decode cX7_lessons 105 = .ok (.iload_n 3, 1) := by decide +kernel
theorem dX7_lessons_106 : decode cX7_lessons 106 = .ok (.invokestatic 199, 3) := by decide +kernel
theorem dX7_lessons_109 : decode cX7_lessons 109 = .ok (.goto 4, 3) := by decide +kernel
theorem dX7_lessons_112 : decode cX7_lessons 112 = .ok (.iload_n 3, 1) := by decide +kernel
theorem dX7_lessons_113 : decode cX7_lessons 113 = .ok (.ireturn, 1) := by decide +kernel
theorem dX7_isNight_0 : decode cX7_isNight 0 = .ok (.iconst 0, 1) := by decide +kernel
theorem dX7_isNight_1 : decode cX7_isNight 1 = .ok (.istore_n 3, 1) := by decide +kernel
theorem dX7_isNight_2 : decode cX7_isNight 2 = .ok (.iconst 0, 1) := by decide +kernel
theorem dX7_isNight_3 : decode cX7_isNight 3 = .ok (.istore 4, 2) := by decide +kernel
theorem dX7_isNight_5 : decode cX7_isNight 5 = .ok (.iload 4, 2) := by decide +kernel
theorem dX7_isNight_7 : decode cX7_isNight 7 = .ok (.aload_n 0, 1) := by decide +kernel
theorem dX7_isNight_8 : decode cX7_isNight 8 = .ok (.getfield 19, 3) := by decide +kernel
theorem dX7_isNight_11 : decode cX7_isNight 11 = .ok (.iconst 4, 1) := by decide +kernel
theorem dX7_isNight_12 : decode cX7_isNight 12 = .ok (.iaload, 1) := by decide +kernel
theorem dX7_isNight_13 : decode cX7_isNight 13 = .ok (.if_icmp .ge 43, 3) := by decide +kernel
theorem dX7_isNight_16 : decode cX7_isNight 16 = .ok (.iload_n 3, 1) := by decide +kernel
theorem dX7_isNight_17 : decode cX7_isNight 17 = .ok (.ifCond .ne 27, 3) := by decide +kernel
theorem dX7_isNight_20 : decode cX7_isNight 20 = .ok (.aload_n 0, 1) := by decide +kernel
theorem dX7_isNight_21 : decode cX7_isNight 21 = .ok (.iload_n 2, 1) := by decide +kernel
theorem dX7_isNight_22 : decode cX7_isNight 22 = .ok (.invokevirtual 154, 3) := by decide +kernel
theorem dX7_isNight_25 : decode cX7_isNight 25 = .ok (.aload_n 0, 1) := by decide +kernel
theorem dX7_isNight_26 : decode cX7_isNight 26 = .ok (.iload 4, 2) := by decide +kernel
theorem dX7_isNight_28 : decode cX7_isNight 28 = .ok (.invokevirtual 169, 3) := by decide +kernel
theorem dX7_isNight_31 : decode cX7_isNight 31 = .ok (.if_icmp .ne 17, 3) := by decide +kernel
theorem dX7_isNight_34 : decode cX7_isNight 34 = .ok (.aload_n 0, 1) := by decide +kernel
theorem dX7_isNight_35 : decode cX7_isNight 35 = .ok (.iload 4, 2) := by decide +kernel
theorem dX7_isNight_37 : decode cX7_isNight 37 = .ok (.iload_n 1, 1) := by decide +kernel
theorem dX7_isNight_38 : decode cX7_isNight 38 = .ok (.invokevirtual 178, 3) := by decide +kernel
theorem dX7_isNight_41 : decode cX7_isNight 41 = .ok (.ifCond .eq 7, 3) := by decide +kernel
theorem dX7_isNight_44 : decode cX7_isNight 44 = .ok (.iconst 1, 1) := by decide +kernel
theorem dX7_isNight_45 : decode cX7_isNight 45 = .ok (.goto 4, 3) := by decide +kernel
theorem dX7_isNight_48 : decode cX7_isNight 48 = .ok (.iconst 0, 1) := by decide +kernel
theorem dX7_isNight_49 : decode cX7_isNight 49 = .ok (.istore_n 3, 1) := by decide +kernel
theorem dX7_isNight_50 : decode cX7_isNight 50 = .ok (.iinc 4 1, 3) := by decide +kernel
theorem dX7_isNight_53 : decode cX7_isNight 53 = .ok (.goto (-48), 3) := by decide +kernel
theorem dX7_isNight_56 : decode cX7_isNight 56 = .ok (.iload_n 3, 1) := by decide +kernel
theorem dX7_isNight_57 : decode cX7_isNight 57 = .ok (.ireturn, 1) := by decide +kernel
theorem dX7_programme_0 : decode cX7_programme 0 = .ok (.aload_n 0, 1) := by decide +kernel
theorem dX7_programme_1 : decode cX7_programme 1 = .ok (.getfield 138, 3) := by decide +kernel
theorem dX7_programme_4 : decode cX7_programme 4 = .ok (.ifCond .ne 6, 3) := by decide +kernel
theorem dX7_programme_7 : decode cX7_programme 7 = .ok (.ldc 145, 2) := by decide +kernel
theorem dX7_programme_9 : decode cX7_programme 9 = .ok (.ireturn, 1) := by decide +kernel
theorem dX7_programme_10 : decode cX7_programme 10 = .ok (.iload_n 1, 1) := by decide +kernel
theorem dX7_programme_11 : decode cX7_programme 11 = .ok (.i2l, 1) := by decide +kernel
theorem dX7_programme_12 : decode cX7_programme 12 = .ok (.lconst 1, 1) := by decide +kernel
theorem dX7_programme_13 : decode cX7_programme 13 = .ok (.ldc2_w 205, 3) := by decide +kernel
theorem dX7_programme_16 : decode cX7_programme 16 = .ok (.invokestatic 57, 3) := by decide +kernel
theorem dX7_programme_19 : decode cX7_programme 19 = .ok (.ifCond .eq 17, 3) := by decide +kernel
theorem dX7_programme_22 : decode cX7_programme 22 = .ok (.iload_n 2, 1) := by decide +kernel
theorem dX7_programme_23 : decode cX7_programme 23 = .ok (.i2l, 1) := by decide +kernel
theorem dX7_programme_24 : decode cX7_programme 24 = .ok (.ldc2_w 207, 3) := by decide +kernel
theorem dX7_programme_27 : decode cX7_programme 27 = .ok (.ldc2_w 209, 3) := by decide +kernel
theorem dX7_programme_30 : decode cX7_programme 30 = .ok (.invokestatic 57, 3) := by decide +kernel
theorem dX7_programme_33 : decode cX7_programme 33 = .ok (.ifCond .ne 6, 3) := by decide +kernel
theorem dX7_programme_36 : decode cX7_programme 36 = .ok (.ldc 67, 2) := by decide +kernel
theorem dX7_programme_38 : decode cX7_programme 38 = .ok (.ireturn, 1) := by decide +kernel
theorem dX7_programme_39 : decode cX7_programme 39 = .ok (.iconst 1, 1) := by decide +kernel
theorem dX7_programme_40 : decode cX7_programme 40 = .ok (.istore_n 3, 1) := by decide +kernel
theorem dX7_programme_41 : decode cX7_programme 41 = .ok (.iconst 0, 1) := by decide +kernel
theorem dX7_programme_42 : decode cX7_programme 42 = .ok (.istore 4, 2) := by decide +kernel
theorem dX7_programme_44 : decode cX7_programme 44 = .ok (.iload 4, 2) := by decide +kernel
theorem dX7_programme_46 : decode cX7_programme 46 = .ok (.aload_n 0, 1) := by decide +kernel
theorem dX7_programme_47 : decode cX7_programme 47 = .ok (.getfield 19, 3) := by decide +kernel
theorem dX7_programme_50 : decode cX7_programme 50 = .ok (.iconst 3, 1) := by decide +kernel
theorem dX7_programme_51 : decode cX7_programme 51 = .ok (.iaload, 1) := by decide +kernel
theorem dX7_programme_52 : decode cX7_programme 52 = .ok (.if_icmp .ge 13, 3) := by decide +kernel
theorem dX7_programme_55 : decode cX7_programme 55 = .ok (.iload_n 3, 1) := by decide +kernel
theorem dX7_programme_56 : decode cX7_programme 56 = .ok (.iload_n 1, 1) := by decide +kernel
theorem dX7_programme_57 : decode cX7_programme 57 = .ok (.imul, 1) := by decide +kernel
theorem dX7_programme_58 : decode cX7_programme 58 = .ok (.istore_n 3, 1) := by decide +kernel
theorem dX7_programme_59 : decode cX7_programme 59 = .ok (.iinc 4 1, 3) := by decide +kernel
theorem dX7_programme_62 : decode cX7_programme 62 = .ok (.goto (-18), 3) := by decide +kernel
theorem dX7_programme_65 : decode cX7_programme 65 = .ok (.iconst 0, 1) := by decide +kernel
theorem dX7_programme_66 : decode cX7_programme 66 = .ok (.istore 4, 2) := by decide +kernel
theorem dX7_programme_68 : decode cX7_programme 68 = .ok (.iconst 0, 1) := by decide +kernel
theorem dX7_programme_69 : decode cX7_programme 69 = .ok (.istore 5, 2) := by decide +kernel
theorem dX7_programme_71 : decode cX7_programme 71 = .ok (.iload_n 3, 1) := by decide +kernel
theorem dX7_programme_72 : decode cX7_programme 72 = .ok (.iconst 1, 1) := by decide +kernel
theorem dX7_programme_73 : decode cX7_programme 73 = .ok (.isub, 1) := by decide +kernel
theorem dX7_programme_74 : decode cX7_programme 74 = .ok (.istore 6, 2) := by decide +kernel
theorem dX7_programme_76 : decode cX7_programme 76 = .ok (.iload 6, 2) := by decide +kernel
theorem dX7_programme_78 : decode cX7_programme 78 = .ok (.ifCond .lt 123, 3) := by decide +kernel
theorem dX7_programme_81 : decode cX7_programme 81 = .ok (.iload 6, 2) := by decide +kernel
theorem dX7_programme_83 : decode cX7_programme 83 = .ok (.istore 7, 2) := by decide +kernel
theorem dX7_programme_85 : decode cX7_programme 85 = .ok (.iconst 0, 1) := by decide +kernel
theorem dX7_programme_86 : decode cX7_programme 86 = .ok (.istore 8, 2) := by decide +kernel
theorem dX7_programme_88 : decode cX7_programme 88 = .ok (.iconst 1, 1) := by decide +kernel
theorem dX7_programme_89 : decode cX7_programme 89 = .ok (.istore 9, 2) := by decide +kernel
theorem dX7_programme_91 : decode cX7_programme 91 = .ok (.aload_n 0, 1) := by decide +kernel
theorem dX7_programme_92 : decode cX7_programme 92 = .ok (.getfield 19, 3) := by decide +kernel
theorem dX7_programme_95 : decode cX7_programme 95 = .ok (.iconst 3, 1) := by decide +kernel
theorem dX7_programme_96 : decode cX7_programme 96 = .ok (.iaload, 1) := by decide +kernel
theorem dX7_programme_97 : decode cX7_programme 97 = .ok (.iconst 1, 1) := by decide +kernel
theorem dX7_programme_98 : decode cX7_programme 98 = .ok (.isub, 1) := by decide +kernel
theorem dX7_programme_99 : decode cX7_programme 99 = .ok (.istore 10, 2) := by decide +kernel
theorem dX7_programme_101 : decode cX7_programme 101 = .ok (.iload 10, 2) := by decide +kernel
theorem dX7_programme_103 : decode cX7_programme 103 = .ok (.ifCond .lt 63, 3) := by decide +kernel
theorem dX7_programme_106 : decode cX7_programme 106 = .ok (.iload 7, 2) := by decide +kernel
theorem dX7_programme_108 : decode cX7_programme 108 = .ok (.iload_n 1, 1) := by decide +kernel
theorem dX7_programme_109 : decode cX7_programme 109 = .ok (.irem, 1) := by decide +kernel
theorem dX7_programme_110 : decode cX7_programme 110 = .ok (.istore 11, 2) := by decide +kernel
theorem dX7_programme_112 : decode cX7_programme 112 = .ok (.iload 7, 2) := by decide +kernel
theorem dX7_programme_114 : decode cX7_programme 114 = .ok (.iload_n 1, 1) := by decide +kernel
theorem dX7_programme_115 : decode cX7_programme 115 = .ok (.idiv, 1) := by decide +kernel
theorem dX7_programme_116 : decode cX7_programme 116 = .ok (.istore 7, 2) := by decide +kernel
theorem dX7_programme_118 : decode cX7_programme 118 = .ok (.iload 9, 2) := by decide +kernel
theorem dX7_programme_120 : decode cX7_programme 120 = .ok (.ifCond .eq 28, 3) := by decide +kernel
theorem dX7_programme_123 : decode cX7_programme 123 = .ok (.iload 8, 2) := by decide +kernel
theorem dX7_programme_125 : decode cX7_programme 125 = .ok (.iload 11, 2) := by decide +kernel
theorem dX7_programme_127 : decode cX7_programme 127 = .ok (.invokestatic 194, 3) := by decide +kernel
theorem dX7_programme_130 : decode cX7_programme 130 = .ok (.ifCond .ne 18, 3) := by decide +kernel
theorem dX7_programme_133 : decode cX7_programme 133 = .ok (.aload_n 0, 1) := by decide +kernel
theorem dX7_programme_134 : decode cX7_programme 134 = .ok (.iload 10, 2) := by decide +kernel
theorem dX7_programme_136 : decode cX7_programme 136 = .ok (.iload 11, 2) := by decide +kernel
theorem dX7_programme_138 : decode cX7_programme 138 = .ok (.invokevirtual 211, 3) := by decide +kernel
theorem dX7_programme_141 : decode cX7_programme 141 = .ok (.ifCond .eq 7, 3) := by decide +kernel
theorem dX7_programme_144 : decode cX7_programme 144 = .ok (.iconst 1, 1) := by decide +kernel
theorem dX7_programme_145 : decode cX7_programme 145 = .ok (.goto 4, 3) := by decide +kernel
theorem dX7_programme_148 : decode cX7_programme 148 = .ok (.iconst 0, 1) := by decide +kernel
theorem dX7_programme_149 : decode cX7_programme 149 = .ok (.istore 9, 2) := by decide +kernel
theorem dX7_programme_151 : decode cX7_programme 151 = .ok (.iload 8, 2) := by decide +kernel
theorem dX7_programme_153 : decode cX7_programme 153 = .ok (.iconst 1, 1) := by decide +kernel
theorem dX7_programme_154 : decode cX7_programme 154 = .ok (.iload 11, 2) := by decide +kernel
theorem dX7_programme_156 : decode cX7_programme 156 = .ok (.ishl, 1) := by decide +kernel
theorem dX7_programme_157 : decode cX7_programme 157 = .ok (.ior, 1) := by decide +kernel
theorem dX7_programme_158 : decode cX7_programme 158 = .ok (.istore 8, 2) := by decide +kernel
theorem dX7_programme_160 : decode cX7_programme 160 = .ok (.iinc 10 (-1), 3) := by decide +kernel
theorem dX7_programme_163 : decode cX7_programme 163 = .ok (.goto (-62), 3) := by decide +kernel
theorem dX7_programme_166 : decode cX7_programme 166 = .ok (.iload 4, 2) := by decide +kernel
theorem dX7_programme_168 : decode cX7_programme 168 = .ok (.iload 9, 2) := by decide +kernel
theorem dX7_programme_170 : decode cX7_programme 170 = .ok (.ifCond .eq 7, 3) := by decide +kernel
theorem dX7_programme_173 : decode cX7_programme 173 = .ok (.iconst 1, 1) := by decide +kernel
theorem dX7_programme_174 : decode cX7_programme 174 = .ok (.goto 4, 3) := by decide +kernel
theorem dX7_programme_177 : decode cX7_programme 177 = .ok (.iconst 0, 1) := by decide +kernel
theorem dX7_programme_178 : decode cX7_programme 178 = .ok (.iadd, 1) := by decide +kernel
theorem dX7_programme_179 : decode cX7_programme 179 = .ok (.istore 4, 2) := by decide +kernel
theorem dX7_programme_181 : decode cX7_programme 181 = .ok (.iload 9, 2) := by decide +kernel
theorem dX7_programme_183 : decode cX7_programme 183 = .ok (.ifCond .eq 8, 3) := by decide +kernel
theorem dX7_programme_186 : decode cX7_programme 186 = .ok (.iload 6, 2) := by decide +kernel
theorem dX7_programme_188 : decode cX7_programme 188 = .ok (.goto 5, 3) := by decide +kernel
theorem dX7_programme_191 : decode cX7_programme 191 = .ok (.iload 5, 2) := by decide +kernel
theorem dX7_programme_193 : decode cX7_programme 193 = .ok (.istore 5, 2) := by decide +kernel
theorem dX7_programme_195 : decode cX7_programme 195 = .ok (.iinc 6 (-1), 3) := by decide +kernel
theorem dX7_programme_198 : decode cX7_programme 198 = .ok (.goto (-122), 3) := by decide +kernel
theorem dX7_programme_201 : decode cX7_programme 201 = .ok (.iload_n 2, 1) := by decide +kernel
theorem dX7_programme_202 : decode cX7_programme 202 = .ok (.ifCond .lt 18, 3) := by decide +kernel
theorem dX7_programme_205 : decode cX7_programme 205 = .ok (.iload 4, 2) := by decide +kernel
theorem dX7_programme_207 : decode cX7_programme 207 = .ok (.ifCond .eq 13, 3) := by decide +kernel
theorem dX7_programme_210 : decode cX7_programme 210 = .ok (.iload_n 2, 1) := by decide +kernel
theorem dX7_programme_211 : decode cX7_programme 211 = .ok (.aload_n 0, 1) := by decide +kernel
theorem dX7_programme_212 : decode cX7_programme 212 = .ok (.getfield 19, 3) := by decide +kernel
theorem dX7_programme_215 : decode cX7_programme 215 = .ok (.iconst 3, 1) := by decide +kernel
theorem dX7_programme_216 : decode cX7_programme 216 = .ok (.iaload, 1) := by decide +kernel
theorem dX7_programme_217 : decode cX7_programme 217 = .ok (.if_icmp .lt 15, 3) := by decide +kernel
theorem dX7_programme_220 : decode cX7_programme 220 = .ok (.iload_n 2, 1) := by decide +kernel
theorem dX7_programme_221 : decode cX7_programme 221 = .ok (.ifCond .ge 8, 3) := by decide +kernel
theorem dX7_programme_224 : decode cX7_programme 224 = .ok (.iload 4, 2) := by decide +kernel
theorem dX7_programme_226 : decode cX7_programme 226 = .ok (.goto 5, 3) := by decide +kernel
theorem dX7_programme_229 : decode cX7_programme 229 = .ok (.ldc 165, 2) := by decide +kernel
theorem dX7_programme_231 : decode cX7_programme 231 = .ok (.ireturn, 1) := by decide +kernel
theorem dX7_programme_232 : decode cX7_programme 232 = .ok (.aload_n 0, 1) := by decide +kernel
theorem dX7_programme_233 : decode cX7_programme 233 = .ok (.getfield 19, 3) := by decide +kernel
theorem dX7_programme_236 : decode cX7_programme 236 = .ok (.iconst 3, 1) := by decide +kernel
theorem dX7_programme_237 : decode cX7_programme 237 = .ok (.iaload, 1) := by decide +kernel
theorem dX7_programme_238 : decode cX7_programme 238 = .ok (.iconst 1, 1) := by decide +kernel
theorem dX7_programme_239 : decode cX7_programme 239 = .ok (.isub, 1) := by decide +kernel
theorem dX7_programme_240 : decode cX7_programme 240 = .ok (.istore 6, 2) := by decide +kernel
theorem dX7_programme_242 : decode cX7_programme 242 = .ok (.iload 6, 2) := by decide +kernel
theorem dX7_programme_244 : decode cX7_programme 244 = .ok (.iload_n 2, 1) := by decide +kernel
theorem dX7_programme_245 : decode cX7_programme 245 = .ok (.if_icmp .le 15, 3) := by decide +kernel
theorem dX7_programme_248 : decode cX7_programme 248 = .ok (.iload 5, 2) := by decide +kernel
theorem dX7_programme_250 : decode cX7_programme 250 = .ok (.iload_n 1, 1) := by decide +kernel
theorem dX7_programme_251 : decode cX7_programme 251 = .ok (.idiv, 1) := by decide +kernel
theorem dX7_programme_252 : decode cX7_programme 252 = .ok (.istore 5, 2) := by decide +kernel
theorem dX7_programme_254 : decode cX7_programme 254 = .ok (.iinc 6 (-1), 3) := by decide +kernel
theorem dX7_programme_257 : decode cX7_programme 257 = .ok (.goto (-15), 3) := by decide +kernel
theorem dX7_programme_260 : decode cX7_programme 260 = .ok (.iload 5, 2) := by decide +kernel
theorem dX7_programme_262 : decode cX7_programme 262 = .ok (.iload_n 1, 1) := by decide +kernel
theorem dX7_programme_263 : decode cX7_programme 263 = .ok (.irem, 1) := by decide +kernel
theorem dX7_programme_264 : decode cX7_programme 264 = .ok (.ireturn, 1) := by decide +kernel
theorem dX7_chords_0 : decode cX7_chords 0 = .ok (.aload_n 0, 1) := by decide +kernel
theorem dX7_chords_1 : decode cX7_chords 1 = .ok (.getfield 138, 3) := by decide +kernel
theorem dX7_chords_4 : decode cX7_chords 4 = .ok (.ifCond .ne 6, 3) := by decide +kernel
theorem dX7_chords_7 : decode cX7_chords 7 = .ok (.ldc 145, 2) := by decide +kernel
theorem dX7_chords_9 : decode cX7_chords 9 = .ok (.ireturn, 1) := by decide +kernel
theorem dX7_chords_10 : decode cX7_chords 10 = .ok (.iload_n 1, 1) := by decide +kernel
theorem dX7_chords_11 : decode cX7_chords 11 = .ok (.iconst (-1), 1) := by decide +kernel
theorem dX7_chords_12 : decode cX7_chords 12 = .ok (.if_icmp .ge 6, 3) := by decide +kernel
theorem dX7_chords_15 : decode cX7_chords 15 = .ok (.ldc 67, 2) := by decide +kernel
theorem dX7_chords_17 : decode cX7_chords 17 = .ok (.ireturn, 1) := by decide +kernel
theorem dX7_chords_18 : decode cX7_chords 18 = .ok (.iconst 0, 1) := by decide +kernel
theorem dX7_chords_19 : decode cX7_chords 19 = .ok (.istore_n 2, 1) := by decide +kernel
theorem dX7_chords_20 : decode cX7_chords 20 = .ok (.iconst 0, 1) := by decide +kernel
theorem dX7_chords_21 : decode cX7_chords 21 = .ok (.istore_n 3, 1) := by decide +kernel
theorem dX7_chords_22 : decode cX7_chords 22 = .ok (.iload_n 3, 1) := by decide +kernel
theorem dX7_chords_23 : decode cX7_chords 23 = .ok (.iconst 1, 1) := by decide +kernel
theorem dX7_chords_24 : decode cX7_chords 24 = .ok (.aload_n 0, 1) := by decide +kernel
theorem dX7_chords_25 : decode cX7_chords 25 = .ok (.getfield 19, 3) := by decide +kernel
theorem dX7_chords_28 : decode cX7_chords 28 = .ok (.iconst 0, 1) := by decide +kernel
theorem dX7_chords_29 : decode cX7_chords 29 = .ok (.iaload, 1) := by decide +kernel
theorem dX7_chords_30 : decode cX7_chords 30 = .ok (.ishl, 1) := by decide +kernel
theorem dX7_chords_31 : decode cX7_chords 31 = .ok (.if_icmp .ge 81, 3) := by decide +kernel
theorem dX7_chords_34 : decode cX7_chords 34 = .ok (.iconst 0, 1) := by decide +kernel
theorem dX7_chords_35 : decode cX7_chords 35 = .ok (.istore 4, 2) := by decide +kernel
theorem dX7_chords_37 : decode cX7_chords 37 = .ok (.iconst 0, 1) := by decide +kernel
theorem dX7_chords_38 : decode cX7_chords 38 = .ok (.istore 5, 2) := by decide +kernel
theorem dX7_chords_40 : decode cX7_chords 40 = .ok (.iload 5, 2) := by decide +kernel
theorem dX7_chords_42 : decode cX7_chords 42 = .ok (.aload_n 0, 1) := by decide +kernel
theorem dX7_chords_43 : decode cX7_chords 43 = .ok (.getfield 19, 3) := by decide +kernel
theorem dX7_chords_46 : decode cX7_chords 46 = .ok (.iconst 0, 1) := by decide +kernel
theorem dX7_chords_47 : decode cX7_chords 47 = .ok (.iaload, 1) := by decide +kernel
theorem dX7_chords_48 : decode cX7_chords 48 = .ok (.if_icmp .ge 42, 3) := by decide +kernel
theorem dX7_chords_51 : decode cX7_chords 51 = .ok (.iload 4, 2) := by decide +kernel
theorem dX7_chords_53 : decode cX7_chords 53 = .ok (.iload_n 3, 1) := by decide +kernel
theorem dX7_chords_54 : decode cX7_chords 54 = .ok (.iload 5, 2) := by decide +kernel
theorem dX7_chords_56 : decode cX7_chords 56 = .ok (.invokestatic 194, 3) := by decide +kernel
theorem dX7_chords_59 : decode cX7_chords 59 = .ok (.ifCond .eq 21, 3) := by decide +kernel
theorem dX7_chords_62 : decode cX7_chords 62 = .ok (.iconst 1, 1) := by decide +kernel
theorem dX7_chords_63 : decode cX7_chords 63 = .ok (.aload_n 0, 1) := by decide +kernel
theorem dX7_chords_64 : decode cX7_chords 64 = .ok (.iload 5, 2) := by decide +kernel
theorem dX7_chords_66 : decode cX7_chords 66 = .ok (.aload_n 0, 1) := by decide +kernel
theorem dX7_chords_67 : decode cX7_chords 67 = .ok (.getfield 19, 3) := by decide +kernel
theorem dX7_chords_70 : decode cX7_chords 70 = .ok (.iconst 1, 1) := by decide +kernel
theorem dX7_chords_71 : decode cX7_chords 71 = .ok (.iaload, 1) := by decide +kernel
theorem dX7_chords_72 : decode cX7_chords 72 = .ok (.iadd, 1) := by decide +kernel
theorem dX7_chords_73 : decode cX7_chords 73 = .ok (.invokevirtual 146, 3) := by decide +kernel
theorem dX7_chords_76 : decode cX7_chords 76 = .ok (.ishl, 1) := by decide +kernel
theorem dX7_chords_77 : decode cX7_chords 77 = .ok (.goto 4, 3) := by decide +kernel
theorem dX7_chords_80 : decode cX7_chords 80 = .ok (.iconst 0, 1) := by decide +kernel
theorem dX7_chords_81 : decode cX7_chords 81 = .ok (.ior, 1) := by decide +kernel
theorem dX7_chords_82 : decode cX7_chords 82 = .ok (.istore 4, 2) := by decide +kernel
theorem dX7_chords_84 : decode cX7_chords 84 = .ok (.iinc 5 1, 3) := by decide +kernel
theorem dX7_chords_87 : decode cX7_chords 87 = .ok (.goto (-47), 3) := by decide +kernel
theorem dX7_chords_90 : decode cX7_chords 90 = .ok (.iload 4, 2) := by decide +kernel
theorem dX7_chords_92 : decode cX7_chords 92 = .ok (.iload_n 3, 1) := by decide +kernel
theorem dX7_chords_93 : decode cX7_chords 93 = .ok (.if_icmp .ne 13, 3) := by decide +kernel
theorem dX7_chords_96 : decode cX7_chords 96 = .ok (.iload_n 2, 1) := by decide +kernel
theorem dX7_chords_97 : decode cX7_chords 97 = .ok (.iload_n 1, 1) := by decide +kernel
theorem dX7_chords_98 : decode cX7_chords 98 = .ok (.if_icmp .ne 5, 3) := by decide +kernel
theorem dX7_chords_101 : decode cX7_chords 101 = .ok (.iload_n 3, 1) := by decide +kernel
theorem dX7_chords_102 : decode cX7_chords 102 = .ok (.ireturn, 1) := by decide +kernel
theorem dX7_chords_103 : decode cX7_chords 103 = .ok (.iinc 2 1, 3) := by decide +kernel
theorem dX7_chords_106 : decode cX7_chords 106 = .ok (.iinc 3 1, 3) := by decide +kernel
theorem dX7_chords_109 : decode cX7_chords 109 = .ok (.goto (-87), 3) := by decide +kernel
theorem dX7_chords_112 : decode cX7_chords 112 = .ok (.iload_n 1, 1) := by decide +kernel
theorem dX7_chords_113 : decode cX7_chords 113 = .ok (.ifCond .ge 7, 3) := by decide +kernel
theorem dX7_chords_116 : decode cX7_chords 116 = .ok (.iload_n 2, 1) := by decide +kernel
theorem dX7_chords_117 : decode cX7_chords 117 = .ok (.goto 5, 3) := by decide +kernel
theorem dX7_chords_120 : decode cX7_chords 120 = .ok (.ldc 165, 2) := by decide +kernel
theorem dX7_chords_122 : decode cX7_chords 122 = .ok (.ireturn, 1) := by decide +kernel
theorem dX7_who_0 : decode cX7_who 0 = .ok (.aload_n 0, 1) := by decide +kernel
theorem dX7_who_1 : decode cX7_who 1 = .ok (.iload_n 1, 1) := by decide +kernel
theorem dX7_who_2 : decode cX7_who 2 = .ok (.invokevirtual 159, 3) := by decide +kernel
theorem dX7_who_5 : decode cX7_who 5 = .ok (.ifCond .eq 18, 3) := by decide +kernel
theorem dX7_who_8 : decode cX7_who 8 = .ok (.aload_n 0, 1) := by decide +kernel
theorem dX7_who_9 : decode cX7_who 9 = .ok (.iload_n 2, 1) := by decide +kernel
theorem dX7_who_10 : decode cX7_who 10 = .ok (.invokevirtual 162, 3) := by decide +kernel
theorem dX7_who_13 : decode cX7_who 13 = .ok (.ifCond .eq 10, 3) := by decide +kernel
theorem dX7_who_16 : decode cX7_who 16 = .ok (.iload_n 3, 1) := by decide +kernel
theorem dX7_who_17 : decode cX7_who 17 = .ok (.invokestatic 61, 3) := by decide +kernel
theorem dX7_who_20 : decode cX7_who 20 = .ok (.ifCond .ne 6, 3) := by decide +kernel
theorem dX7_who_23 : decode cX7_who 23 = .ok (.ldc 67, 2) := by decide +kernel
theorem dX7_who_25 : decode cX7_who 25 = .ok (.ireturn, 1) := by decide +kernel
theorem dX7_who_26 : decode cX7_who 26 = .ok (.aload_n 0, 1) := by decide +kernel
theorem dX7_who_27 : decode cX7_who 27 = .ok (.iload_n 3, 1) := by decide +kernel
theorem dX7_who_28 : decode cX7_who 28 = .ok (.iload 4, 2) := by decide +kernel
theorem dX7_who_30 : decode cX7_who 30 = .ok (.aload_n 0, 1) := by decide +kernel
theorem dX7_who_31 : decode cX7_who 31 = .ok (.getfield 19, 3) := by decide +kernel
theorem dX7_who_34 : decode cX7_who 34 = .ok (.bipush 6, 2) := by decide +kernel
theorem dX7_who_36 : decode cX7_who 36 = .ok (.iload_n 2, 1) := by decide +kernel
theorem dX7_who_37 : decode cX7_who 37 = .ok (.iadd, 1) := by decide +kernel
theorem dX7_who_38 : decode cX7_who 38 = .ok (.iaload, 1) := by decide +kernel
theorem dX7_who_39 : decode cX7_who 39 = .ok (.invokevirtual 191, 3) := by decide +kernel
theorem dX7_who_42 : decode cX7_who 42 = .ok (.istore 5, 2) := by decide +kernel
theorem dX7_who_44 : decode cX7_who 44 = .ok (.iload 5, 2) := by decide +kernel
theorem dX7_who_46 : decode cX7_who 46 = .ok (.ifCond .ge 6, 3) := by decide +kernel
theorem dX7_who_49 : decode cX7_who 49 = .ok (.iload 5, 2) := by decide +kernel
theorem dX7_who_51 : decode cX7_who 51 = .ok (.ireturn, 1) := by decide +kernel
theorem dX7_who_52 : decode cX7_who 52 = .ok (.iconst 0, 1) := by decide +kernel
theorem dX7_who_53 : decode cX7_who 53 = .ok (.istore 6, 2) := by decide +kernel
theorem dX7_who_55 : decode cX7_who 55 = .ok (.iconst 1, 1) := by decide +kernel
theorem dX7_who_56 : decode cX7_who 56 = .ok (.istore 7, 2) := by decide +kernel
theorem dX7_who_58 : decode cX7_who 58 = .ok (.iload 7, 2) := by decide +kernel
theorem dX7_who_60 : decode cX7_who 60 = .ok (.iconst 5, 1) := by decide +kernel
theorem dX7_who_61 : decode cX7_who 61 = .ok (.if_icmp .gt 109, 3) := by decide +kernel
theorem dX7_who_64 : decode cX7_who 64 = .ok (.aload_n 0, 1) := by decide +kernel
theorem dX7_who_65 : decode cX7_who 65 = .ok (.iload 7, 2) := by decide +kernel
theorem dX7_who_67 : decode cX7_who 67 = .ok (.aload_n 0, 1) := by decide +kernel
theorem dX7_who_68 : decode cX7_who 68 = .ok (.getfield 19, 3) := by decide +kernel
theorem dX7_who_71 : decode cX7_who 71 = .ok (.bipush 47, 2) := by decide +kernel
theorem dX7_who_73 : decode cX7_who 73 = .ok (.iload_n 1, 1) := by decide +kernel
theorem dX7_who_74 : decode cX7_who 74 = .ok (.iadd, 1) := by decide +kernel
theorem dX7_who_75 : decode cX7_who 75 = .ok (.iaload, 1) := by decide +kernel
theorem dX7_who_76 : decode cX7_who 76 = .ok (.invokevirtual 166, 3) := by decide +kernel
theorem dX7_who_79 : decode cX7_who 79 = .ok (.istore 8, 2) := by decide +kernel
theorem dX7_who_81 : decode cX7_who 81 = .ok (.iconst 1, 1) := by decide +kernel
theorem dX7_who_82 : decode cX7_who 82 = .ok (.istore 9, 2) := by decide +kernel
theorem dX7_who_84 : decode cX7_who 84 = .ok (.iconst 0, 1) := by decide +kernel
theorem dX7_who_85 : decode cX7_who 85 = .ok (.istore 10, 2) := by decide +kernel
theorem dX7_who_87 : decode cX7_who 87 = .ok (.iload 10, 2) := by decide +kernel
theorem dX7_who_89 : decode cX7_who 89 = .ok (.aload_n 0, 1) := by decide +kernel
theorem dX7_who_90 : decode cX7_who 90 = .ok (.getfield 19, 3) := by decide +kernel
theorem dX7_who_93 : decode cX7_who 93 = .ok (.bipush 6, 2) := by decide +kernel
theorem dX7_who_95 : decode cX7_who 95 = .ok (.iload_n 2, 1) := by decide +kernel
theorem dX7_who_96 : decode cX7_who 96 = .ok (.iadd, 1) := by decide +kernel
theorem dX7_who_97 : decode cX7_who 97 = .ok (.iaload, 1) := by decide +kernel
theorem dX7_who_98 : decode cX7_who 98 = .ok (.if_icmp .ge 48, 3) := by decide +kernel
theorem dX7_who_101 : decode cX7_who 101 = .ok (.iload 9, 2) := by decide +kernel
theorem dX7_who_103 : decode cX7_who 103 = .ok (.ifCond .eq 34, 3) := by decide +kernel
theorem dX7_who_106 : decode cX7_who 106 = .ok (.aload_n 0, 1) := by decide +kernel
theorem dX7_who_107 : decode cX7_who 107 = .ok (.getfield 16, 3) := by decide +kernel
theorem dX7_who_110 : decode cX7_who 110 = .ok (.bipush 40, 2) := by decide +kernel
theorem dX7_who_112 : decode cX7_who 112 = .ok (.iload_n 3, 1) := by decide +kernel
theorem dX7_who_113 : decode cX7_who 113 = .ok (.imul, 1) := by decide +kernel
theorem dX7_who_114 : decode cX7_who 114 = .ok (.iload 4, 2) := by decide +kernel
theorem dX7_who_116 : decode cX7_who 116 = .ok (.iadd, 1) := by decide +kernel
theorem dX7_who_117 : decode cX7_who 117 = .ok (.iload 10, 2) := by decide +kernel
theorem dX7_who_119 : decode cX7_who 119 = .ok (.iadd, 1) := by decide +kernel
theorem dX7_who_120 : decode cX7_who 120 = .ok (.iaload, 1) := by decide +kernel
theorem dX7_who_121 : decode cX7_who 121 = .ok (.aload_n 0, 1) := by decide +kernel
theorem dX7_who_122 : decode cX7_who 122 = .ok (.iload 8, 2) := by decide +kernel
theorem dX7_who_124 : decode cX7_who 124 = .ok (.iload_n 2, 1) := by decide +kernel
theorem dX7_who_125 : decode cX7_who 125 = .ok (.iload 10, 2) := by decide +kernel
theorem dX7_who_127 : decode cX7_who 127 = .ok (.invokevirtual 182, 3) := by decide +kernel
theorem dX7_who_130 : decode cX7_who 130 = .ok (.if_icmp .ne 7, 3) := by decide +kernel
theorem dX7_who_133 : decode cX7_who 133 = .ok (.iconst 1, 1) := by decide +kernel
theorem dX7_who_134 : decode cX7_who 134 = .ok (.goto 4, 3) := by decide +kernel
theorem dX7_who_137 : decode cX7_who 137 = .ok (.iconst 0, 1) := by decide +kernel
theorem dX7_who_138 : decode cX7_who 138 = .ok (.istore 9, 2) := by decide +kernel
theorem dX7_who_140 : decode cX7_who 140 = .ok (.iinc 10 1, 3) := by decide +kernel
theorem dX7_who_143 : decode cX7_who 143 = .ok (.goto (-56), 3) := by decide +kernel
theorem dX7_who_146 : decode cX7_who 146 = .ok (.iload 6, 2) := by decide +kernel
theorem dX7_who_148 : decode cX7_who 148 = .ok (.iload 9, 2) := by decide +kernel
theorem dX7_who_150 : decode cX7_who 150 = .ok (.ifCond .eq 10, 3) := by decide +kernel
theorem dX7_who_153 : decode cX7_who 153 = .ok (.iconst 1, 1) := by decide +kernel
theorem dX7_who_154 : decode cX7_who 154 = .ok (.iload 7, 2) := by decide +kernel
theorem dX7_who_156 : decode cX7_who 156 = .ok (.ishl, 1) := by decide +kernel
theorem dX7_who_157 : decode cX7_who 157 = .ok (.goto 4, 3) := by decide +kernel
theorem dX7_who_160 : decode cX7_who 160 = .ok (.iconst 0, 1) := by decide +kernel
theorem dX7_who_161 : decode cX7_who 161 = .ok (.ior, 1) := by decide +kernel
theorem dX7_who_162 : decode cX7_who 162 = .ok (.istore 6, 2) := by decide +kernel
theorem dX7_who_164 : decode cX7_who 164 = .ok (.iinc 7 1, 3) := by decide +kernel
theorem dX7_who_167 : decode cX7_who 167 = .ok (.goto (-109), 3) := by decide +kernel
theorem dX7_who_170 : decode cX7_who 170 = .ok (.aload_n 0, 1) := by decide +kernel
theorem dX7_who_171 : decode cX7_who 171 = .ok (.iload 6, 2) := by decide +kernel
theorem dX7_who_173 : decode cX7_who 173 = .ok (.invokevirtual 72, 3) := by decide +kernel
theorem dX7_who_176 : decode cX7_who 176 = .ok (.ireturn, 1) := by decide +kernel
theorem dX7_tunings_0 : decode cX7_tunings 0 = .ok (.aload_n 0, 1) := by decide +kernel
theorem dX7_tunings_1 : decode cX7_tunings 1 = .ok (.getfield 138, 3) := by decide +kernel
theorem dX7_tunings_4 : decode cX7_tunings 4 = .ok (.ifCond .ne 6, 3) := by decide +kernel
theorem dX7_tunings_7 : decode cX7_tunings 7 = .ok (.ldc 145, 2) := by decide +kernel
theorem dX7_tunings_9 : decode cX7_tunings 9 = .ok (.ireturn, 1) := by decide +kernel
theorem dX7_tunings_10 : decode cX7_tunings 10 = .ok (.iload_n 1, 1) := by decide +kernel
theorem dX7_tunings_11 : decode cX7_tunings 11 = .ok (.i2l, 1) := by decide +kernel
theorem dX7_tunings_12 : decode cX7_tunings 12 = .ok (.lconst 1, 1) := by decide +kernel
theorem dX7_tunings_13 : decode cX7_tunings 13 = .ok (.ldc2_w 214, 3) := by decide +kernel
theorem dX7_tunings_16 : decode cX7_tunings 16 = .ok (.invokestatic 57, 3) := by decide +kernel
theorem dX7_tunings_19 : decode cX7_tunings 19 = .ok (.ifCond .eq 15, 3) := by decide +kernel
theorem dX7_tunings_22 : decode cX7_tunings 22 = .ok (.iload_n 2, 1) := by decide +kernel
theorem dX7_tunings_23 : decode cX7_tunings 23 = .ok (.i2l, 1) := by decide +kernel
theorem dX7_tunings_24 : decode cX7_tunings 24 = .ok (.lconst 0, 1) := by decide +kernel
theorem dX7_tunings_25 : decode cX7_tunings 25 = .ok (.ldc2_w 157, 3) := by decide +kernel
theorem dX7_tunings_28 : decode cX7_tunings 28 = .ok (.invokestatic 57, 3) := by decide +kernel
theorem dX7_tunings_31 : decode cX7_tunings 31 = .ok (.ifCond .ne 6, 3) := by decide +kernel
theorem dX7_tunings_34 : decode cX7_tunings 34 = .ok (.ldc 67, 2) := by decide +kernel
theorem dX7_tunings_36 : decode cX7_tunings 36 = .ok (.ireturn, 1) := by decide +kernel
theorem dX7_tunings_37 : decode cX7_tunings 37 = .ok (.iconst 0, 1) := by decide +kernel
theorem dX7_tunings_38 : decode cX7_tunings 38 = .ok (.istore_n 3, 1) := by decide +kernel
theorem dX7_tunings_39 : decode cX7_tunings 39 = .ok (.iload_n 3, 1) := by decide +kernel
theorem dX7_tunings_40 : decode cX7_tunings 40 = .ok (.bipush 12, 2) := by decide +kernel
theorem dX7_tunings_42 : decode cX7_tunings 42 = .ok (.if_icmp .ge 32, 3) := by decide +kernel
theorem dX7_tunings_45 : decode cX7_tunings 45 = .ok (.aload_n 0, 1) := by decide +kernel
theorem dX7_tunings_46 : decode cX7_tunings 46 = .ok (.getfield 34, 3) := by decide +kernel
theorem dX7_tunings_49 : decode cX7_tunings 49 = .ok (.iload_n 3, 1) := by decide +kernel
theorem dX7_tunings_50 : decode cX7_tunings 50 = .ok (.iload_n 3, 1) := by decide +kernel
theorem dX7_tunings_51 : decode cX7_tunings 51 = .ok (.aload_n 0, 1) := by decide +kernel
theorem dX7_tunings_52 : decode cX7_tunings 52 = .ok (.getfield 19, 3) := by decide +kernel
theorem dX7_tunings_55 : decode cX7_tunings 55 = .ok (.iconst 2, 1) := by decide +kernel
theorem dX7_tunings_56 : decode cX7_tunings 56 = .ok (.iaload, 1) := by decide +kernel
theorem dX7_tunings_57 : decode cX7_tunings 57 = .ok (.if_icmp .ne 7, 3) := by decide +kernel
theorem dX7_tunings_60 : decode cX7_tunings 60 = .ok (.iconst 0, 1) := by decide +kernel
theorem dX7_tunings_61 : decode cX7_tunings 61 = .ok (.goto 6, 3) := by decide +kernel
theorem dX7_tunings_64 : decode cX7_tunings 64 = .ok (.sipush 999, 3) := by decide +kernel
theorem dX7_tunings_67 : decode cX7_tunings 67 = .ok (.iastore, 1) := by decide +kernel
theorem dX7_tunings_68 : decode cX7_tunings 68 = .ok (.iinc 3 1, 3) := by decide +kernel
theorem dX7_tunings_71 : decode cX7_tunings 71 = .ok (.goto (-32), 3) := by decide +kernel
theorem dX7_tunings_74 : decode cX7_tunings 74 = .ok (.iconst 0, 1) := by decide +kernel
theorem dX7_tunings_75 : decode cX7_tunings 75 = .ok (.istore_n 3, 1) := by decide +kernel
theorem dX7_tunings_76 : decode cX7_tunings 76 = .ok (.iload_n 3, 1) := by decide +kernel
theorem dX7_tunings_77 : decode cX7_tunings 77 = .ok (.iload_n 1, 1) := by decide +kernel
theorem dX7_tunings_78 : decode cX7_tunings 78 = .ok (.if_icmp .ge 189, 3) := by decide +kernel
theorem dX7_tunings_81 : decode cX7_tunings 81 = .ok (.iconst 0, 1) := by decide +kernel
theorem dX7_tunings_82 : decode cX7_tunings 82 = .ok (.istore 4, 2) := by decide +kernel
theorem dX7_tunings_84 : decode cX7_tunings 84 = .ok (.iload 4, 2) := by decide +kernel
theorem dX7_tunings_86 : decode cX7_tunings 86 = .ok (.bipush 12, 2) := by decide +kernel
theorem dX7_tunings_88 : decode cX7_tunings 88 = .ok (.if_icmp .ge 19, 3) := by decide +kernel
theorem dX7_tunings_91 : decode cX7_tunings 91 = .ok (.aload_n 0, 1) := by decide +kernel
theorem dX7_tunings_92 : decode cX7_tunings 92 = .ok (.getfield 37, 3) := by decide +kernel
theorem dX7_tunings_95 : decode cX7_tunings 95 = .ok (.iload 4, 2) := by decide +kernel
theorem dX7_tunings_97 : decode cX7_tunings 97 = .ok (.sipush 999, 3) := by decide +kernel
theorem dX7_tunings_100 : decode cX7_tunings 100 = .ok (.iastore, 1) := by decide +kernel
theorem dX7_tunings_101 : decode cX7_tunings 101 = .ok (.iinc 4 1, 3) := by decide +kernel
theorem dX7_tunings_104 : decode cX7_tunings 104 = .ok (.goto (-20), 3) := by decide +kernel
theorem dX7_tunings_107 : decode cX7_tunings 107 = .ok (.iconst 0, 1) := by decide +kernel
theorem dX7_tunings_108 : decode cX7_tunings 108 = .ok (.istore 4, 2) := by decide +kernel
theorem dX7_tunings_110 : decode cX7_tunings 110 = .ok (.iload 4, 2) := by decide +kernel
theorem dX7_tunings_112 : decode cX7_tunings 112 = .ok (.aload_n 0, 1) := by decide +kernel
theorem dX7_tunings_113 : decode cX7_tunings 113 = .ok (.getfield 19, 3) := by decide +kernel
theorem dX7_tunings_116 : decode cX7_tunings 116 = .ok (.iconst 0, 1) := by decide +kernel
theorem dX7_tunings_117 : decode cX7_tunings 117 = .ok (.iaload, 1) := by decide +kernel
theorem dX7_tunings_118 : decode cX7_tunings 118 = .ok (.if_icmp .ge 113, 3) := by decide +kernel
theorem dX7_tunings_121 : decode cX7_tunings 121 = .ok (.aload_n 0, 1) := by decide +kernel
theorem dX7_tunings_122 : decode cX7_tunings 122 = .ok (.iload 4, 2) := by decide +kernel
theorem dX7_tunings_124 : decode cX7_tunings 124 = .ok (.aload_n 0, 1) := by decide +kernel
theorem dX7_tunings_125 : decode cX7_tunings 125 = .ok (.getfield 19, 3) := by decide +kernel
theorem dX7_tunings_128 : decode cX7_tunings 128 = .ok (.iconst 1, 1) := by decide +kernel
theorem dX7_tunings_129 : decode cX7_tunings 129 = .ok (.iaload, 1) := by decide +kernel
theorem dX7_tunings_130 : decode cX7_tunings 130 = .ok (.iadd, 1) := by decide +kernel
theorem dX7_tunings_131 : decode cX7_tunings 131 = .ok (.invokevirtual 146, 3) := by decide +kernel
theorem dX7_tunings_134 : decode cX7_tunings 134 = .ok (.istore 5, 2) := by decide +kernel
theorem dX7_tunings_136 : decode cX7_tunings 136 = .ok (.aload_n 0, 1) := by decide +kernel
theorem dX7_tunings_137 : decode cX7_tunings 137 = .ok (.getfield 37, 3) := by decide +kernel
theorem dX7_tunings_140 : decode cX7_tunings 140 = .ok (.iload 5, 2) := by decide +kernel
theorem dX7_tunings_142 : decode cX7_tunings 142 = .ok (.iload 5, 2) := by decide +kernel
theorem dX7_tunings_144 : decode cX7_tunings 144 = .ok (.iload_n 2, 1) := by decide +kernel
theorem dX7_tunings_145 : decode cX7_tunings 145 = .ok (.if_icmp .gt 30, 3) := by decide +kernel
theorem dX7_tunings_148 : decode cX7_tunings 148 = .ok (.aload_n 0, 1) := by decide +kernel
theorem dX7_tunings_149 : decode cX7_tunings 149 = .ok (.getfield 34, 3) := by decide +kernel
theorem dX7_tunings_152 : decode cX7_tunings 152 = .ok (.iload 4, 2) := by decide +kernel
theorem dX7_tunings_154 : decode cX7_tunings 154 = .ok (.iaload, 1) := by decide +kernel
theorem dX7_tunings_155 : decode cX7_tunings 155 = .ok (.aload_n 0, 1) := by decide +kernel
theorem dX7_tunings_156 : decode cX7_tunings 156 = .ok (.getfield 37, 3) := by decide +kernel
theorem dX7_tunings_159 : decode cX7_tunings 159 = .ok (.iload 5, 2) := by decide +kernel
theorem dX7_tunings_161 : decode cX7_tunings 161 = .ok (.iaload, 1) := by decide +kernel
theorem dX7_tunings_162 : decode cX7_tunings 162 = .ok (.if_icmp .ge 13, 3) := by decide +kernel
theorem dX7_tunings_165 : decode cX7_tunings 165 = .ok (.aload_n 0, 1) := by decide +kernel
theorem dX7_tunings_166 : decode cX7_tunings 166 = .ok (.getfield 34, 3) := by decide +kernel
theorem dX7_tunings_169 : decode cX7_tunings 169 = .ok (.iload 4, 2) := by decide +kernel
theorem dX7_tunings_171 : decode cX7_tunings 171 = .ok (.iaload, 1) := by decide +kernel
theorem dX7_tunings_172 : decode cX7_tunings 172 = .ok (.goto 10, 3) := by decide +kernel
theorem dX7_tunings_175 : decode cX7_tunings 175 = .ok (.aload_n 0, 1) := by decide +kernel
theorem dX7_tunings_176 : decode cX7_tunings 176 = .ok (.getfield 37, 3) := by decide +kernel
theorem dX7_tunings_179 : decode cX7_tunings 179 = .ok (.iload 5, 2) := by decide +kernel
theorem dX7_tunings_181 : decode cX7_tunings 181 = .ok (.iaload, 1) := by decide +kernel
theorem dX7_tunings_182 : decode cX7_tunings 182 = .ok (.iastore, 1) := by decide +kernel
theorem dX7_tunings_183 : decode cX7_tunings 183 = .ok (.aload_n 0, 1) := by decide +kernel
theorem dX7_tunings_184 : decode cX7_tunings 184 = .ok (.getfield 37, 3) := by decide +kernel
theorem dX7_tunings_187 : decode cX7_tunings 187 = .ok (.iconst 0, 1) := by decide +kernel
theorem dX7_tunings_188 : decode cX7_tunings 188 = .ok (.aload_n 0, 1) := by decide +kernel
theorem dX7_tunings_189 : decode cX7_tunings 189 = .ok (.getfield 34, 3) := by decide +kernel
theorem dX7_tunings_192 : decode cX7_tunings 192 = .ok (.iload 4, 2) := by decide +kernel
theorem dX7_tunings_194 : decode cX7_tunings 194 = .ok (.iaload, 1) := by decide +kernel
theorem dX7_tunings_195 : decode cX7_tunings 195 = .ok (.iconst 1, 1) := by decide +kernel
theorem dX7_tunings_196 : decode cX7_tunings 196 = .ok (.iadd, 1) := by decide +kernel
theorem dX7_tunings_197 : decode cX7_tunings 197 = .ok (.aload_n 0, 1) := by decide +kernel
theorem dX7_tunings_198 : decode cX7_tunings 198 = .ok (.getfield 37, 3) := by decide +kernel
theorem dX7_tunings_201 : decode cX7_tunings 201 = .ok (.iconst 0, 1) := by decide +kernel
theorem dX7_tunings_202 : decode cX7_tunings 202 = .ok (.iaload, 1) := by decide +kernel
theorem dX7_tunings_203 : decode cX7_tunings 203 = .ok (.if_icmp .ge 15, 3) := by decide +kernel
theorem dX7_tunings_206 : decode cX7_tunings 206 = .ok (.aload_n 0, 1) := by decide +kernel
theorem dX7_tunings_207 : decode cX7_tunings 207 = .ok (.getfield 34, 3) := by decide +kernel
theorem dX7_tunings_210 : decode cX7_tunings 210 = .ok (.iload 4, 2) := by decide +kernel
theorem dX7_tunings_212 : decode cX7_tunings 212 = .ok (.iaload, 1) := by decide +kernel
theorem dX7_tunings_213 : decode cX7_tunings 213 = .ok (.iconst 1, 1) := by decide +kernel
theorem dX7_tunings_214 : decode cX7_tunings 214 = .ok (.iadd, 1) := by decide +kernel
theorem dX7_tunings_215 : decode cX7_tunings 215 = .ok (.goto 9, 3) := by decide +kernel
theorem dX7_tunings_218 : decode cX7_tunings 218 = .ok (.aload_n 0, 1) := by decide +kernel
theorem dX7_tunings_219 : decode cX7_tunings 219 = .ok (.getfield 37, 3) := by decide +kernel
theorem dX7_tunings_222 : decode cX7_tunings 222 = .ok (.iconst 0, 1) := by decide +kernel
theorem dX7_tunings_223 : decode cX7_tunings 223 = .ok (.iaload, 1) := by decide +kernel
theorem dX7_tunings_224 : decode cX7_tunings 224 = .ok (.iastore, 1) := by decide +kernel
theorem dX7_tunings_225 : decode cX7_tunings 225 = .ok (.iinc 4 1, 3) := by decide +kernel
theorem dX7_tunings_228 : decode cX7_tunings 228 = .ok (.goto (-118), 3) := by decide +kernel
theorem dX7_tunings_231 : decode cX7_tunings 231 = .ok (.iconst 0, 1) := by decide +kernel
theorem dX7_tunings_232 : decode cX7_tunings 232 = .ok (.istore 4, 2) := by decide +kernel
theorem dX7_tunings_234 : decode cX7_tunings 234 = .ok (.iload 4, 2) := by decide +kernel
theorem dX7_tunings_236 : decode cX7_tunings 236 = .ok (.bipush 12, 2) := by decide +kernel
theorem dX7_tunings_238 : decode cX7_tunings 238 = .ok (.if_icmp .ge 23, 3) := by decide +kernel
theorem dX7_tunings_241 : decode cX7_tunings 241 = .ok (.aload_n 0, 1) := by decide +kernel
theorem dX7_tunings_242 : decode cX7_tunings 242 = .ok (.getfield 34, 3) := by decide +kernel
theorem dX7_tunings_245 : decode cX7_tunings 245 = .ok (.iload 4, 2) := by decide +kernel
theorem dX7_tunings_247 : decode cX7_tunings 247 = .ok (.aload_n 0, 1) := by decide +kernel
theorem dX7_tunings_248 : decode cX7_tunings 248 = .ok (.getfield 37, 3) := by decide +kernel
theorem dX7_tunings_251 : decode cX7_tunings 251 = .ok (.iload 4, 2) := by decide +kernel
theorem dX7_tunings_253 : decode cX7_tunings 253 = .ok (.iaload, 1) := by decide +kernel
theorem dX7_tunings_254 : decode cX7_tunings 254 = .ok (.iastore, 1) := by decide +kernel
theorem dX7_tunings_255 : decode cX7_tunings 255 = .ok (.iinc 4 1, 3) := by decide +kernel
theorem dX7_tunings_258 : decode cX7_tunings 258 = .ok (.goto (-24), 3) := by decide +kernel
theorem dX7_tunings_261 : decode cX7_tunings 261 = .ok (.iinc 3 1, 3) := by decide +kernel
theorem dX7_tunings_264 : decode cX7_tunings 264 = .ok (.goto (-188), 3) := by decide +kernel
theorem dX7_tunings_267 : decode cX7_tunings 267 = .ok (.sipush 999, 3) := by decide +kernel
theorem dX7_tunings_270 : decode cX7_tunings 270 = .ok (.istore_n 3, 1) := by decide +kernel
theorem dX7_tunings_271 : decode cX7_tunings 271 = .ok (.iconst 0, 1) := by decide +kernel
theorem dX7_tunings_272 : decode cX7_tunings 272 = .ok (.istore 4, 2) := by decide +kernel
theorem dX7_tunings_274 : decode cX7_tunings 274 = .ok (.iload 4, 2) := by decide +kernel
theorem dX7_tunings_276 : decode cX7_tunings 276 = .ok (.bipush 12, 2) := by decide +kernel
theorem dX7_tunings_278 : decode cX7_tunings 278 = .ok (.if_icmp .ge 32, 3) := by decide +kernel
theorem dX7_tunings_281 : decode cX7_tunings 281 = .ok (.aload_n 0, 1) := by decide +kernel
theorem dX7_tunings_282 : decode cX7_tunings 282 = .ok (.getfield 34, 3) := by decide +kernel
theorem dX7_tunings_285 : decode cX7_tunings 285 = .ok (.iload 4, 2) := by decide +kernel
theorem dX7_tunings_287 : decode cX7_tunings 287 = .ok (.iaload, 1) := by decide +kernel
theorem dX7_tunings_288 : decode cX7_tunings 288 = .ok (.iload_n 3, 1) := by decide +kernel
theorem dX7_tunings_289 : decode cX7_tunings 289 = .ok (.if_icmp .ge 13, 3) := by decide +kernel
theorem dX7_tunings_292 : decode cX7_tunings 292 = .ok (.aload_n 0, 1) := by decide +kernel
theorem dX7_tunings_293 : decode cX7_tunings 293 = .ok (.getfield 34, 3) := by decide +kernel
theorem dX7_tunings_296 : decode cX7_tunings 296 = .ok (.iload 4, 2) := by decide +kernel
theorem dX7_tunings_298 : decode cX7_tunings 298 = .ok (.iaload, 1) := by decide +kernel
theorem dX7_tunings_299 : decode cX7_tunings 299 = .ok (.goto 4, 3) := by decide +kernel
theorem dX7_tunings_302 : decode cX7_tunings 302 = .ok (.iload_n 3, 1) := by decide +kernel
theorem dX7_tunings_303 : decode cX7_tunings 303 = .ok (.istore_n 3, 1) := by decide +kernel
theorem dX7_tunings_304 : decode cX7_tunings 304 = .ok (.iinc 4 1, 3) := by decide +kernel
theorem dX7_tunings_307 : decode cX7_tunings 307 = .ok (.goto (-33), 3) := by decide +kernel
theorem dX7_tunings_310 : decode cX7_tunings 310 = .ok (.iload_n 3, 1) := by decide +kernel
theorem dX7_tunings_311 : decode cX7_tunings 311 = .ok (.ireturn, 1) := by decide +kernel
theorem dX7_other_0 : decode cX7_other 0 = .ok (.aload_n 0, 1) := by decide +kernel
theorem dX7_other_1 : decode cX7_other 1 = .ok (.getfield 138, 3) := by decide +kernel
theorem dX7_other_4 : decode cX7_other 4 = .ok (.ifCond .ne 6, 3) := by decide +kernel
theorem dX7_other_7 : decode cX7_other 7 = .ok (.ldc 145, 2) := by decide +kernel
theorem dX7_other_9 : decode cX7_other 9 = .ok (.ireturn, 1) := by decide +kernel
theorem dX7_other_10 : decode cX7_other 10 = .ok (.iload_n 1, 1) := by decide +kernel
theorem dX7_other_11 : decode cX7_other 11 = .ok (.i2l, 1) := by decide +kernel
theorem dX7_other_12 : decode cX7_other 12 = .ok (.lconst 0, 1) := by decide +kernel
theorem dX7_other_13 : decode cX7_other 13 = .ok (.aload_n 0, 1) := by decide +kernel
theorem dX7_other_14 : decode cX7_other 14 = .ok (.getfield 19, 3) := by decide +kernel
theorem dX7_other_17 : decode cX7_other 17 = .ok (.iconst 0, 1) := by decide +kernel
theorem dX7_other_18 : decode cX7_other 18 = .ok (.iaload, 1) := by decide +kernel
theorem dX7_other_19 : decode cX7_other 19 = .ok (.iconst 1, 1) := by decide +kernel
theorem dX7_other_20 : decode cX7_other 20 = .ok (.isub, 1) := by decide +kernel
theorem dX7_other_21 : decode cX7_other 21 = .ok (.i2l, 1) := by decide +kernel
theorem dX7_other_22 : decode cX7_other 22 = .ok (.invokestatic 57, 3) := by decide +kernel
theorem dX7_other_25 : decode cX7_other 25 = .ok (.ifCond .eq 21, 3) := by decide +kernel
theorem dX7_other_28 : decode cX7_other 28 = .ok (.iload_n 2, 1) := by decide +kernel
theorem dX7_other_29 : decode cX7_other 29 = .ok (.i2l, 1) := by decide +kernel
theorem dX7_other_30 : decode cX7_other 30 = .ok (.lconst 0, 1) := by decide +kernel
theorem dX7_other_31 : decode cX7_other 31 = .ok (.aload_n 0, 1) := by decide +kernel
theorem dX7_other_32 : decode cX7_other 32 = .ok (.getfield 19, 3) := by decide +kernel
theorem dX7_other_35 : decode cX7_other 35 = .ok (.iconst 0, 1) := by decide +kernel
theorem dX7_other_36 : decode cX7_other 36 = .ok (.iaload, 1) := by decide +kernel
theorem dX7_other_37 : decode cX7_other 37 = .ok (.iconst 1, 1) := by decide +kernel
theorem dX7_other_38 : decode cX7_other 38 = .ok (.isub, 1) := by decide +kernel
theorem dX7_other_39 : decode cX7_other 39 = .ok (.i2l, 1) := by decide +kernel
theorem dX7_other_40 : decode cX7_other 40 = .ok (.invokestatic 57, 3) := by decide +kernel
theorem dX7_other_43 : decode cX7_other 43 = .ok (.ifCond .ne 6, 3) := by decide +kernel
theorem dX7_other_46 : decode cX7_other 46 = .ok (.ldc 67, 2) := by decide +kernel
theorem dX7_other_48 : decode cX7_other 48 = .ok (.ireturn, 1) := by decide +kernel
theorem dX7_other_49 : decode cX7_other 49 = .ok (.iconst 0, 1) := by decide +kernel
theorem dX7_other_50 : decode cX7_other 50 = .ok (.istore_n 3, 1) := by decide +kernel
theorem dX7_other_51 : decode cX7_other 51 = .ok (.iload_n 3, 1) := by decide +kernel
theorem dX7_other_52 : decode cX7_other 52 = .ok (.bipush 100, 2) := by decide +kernel
theorem dX7_other_54 : decode cX7_other 54 = .ok (.if_icmp .gt 28, 3) := by decide +kernel
theorem dX7_other_57 : decode cX7_other 57 = .ok (.aload_n 0, 1) := by decide +kernel
theorem dX7_other_58 : decode cX7_other 58 = .ok (.iload_n 3, 1) := by decide +kernel
theorem dX7_other_59 : decode cX7_other 59 = .ok (.invokevirtual 154, 3) := by decide +kernel
theorem dX7_other_62 : decode cX7_other 62 = .ok (.aload_n 0, 1) := by decide +kernel
theorem dX7_other_63 : decode cX7_other 63 = .ok (.iload_n 2, 1) := by decide +kernel
theorem dX7_other_64 : decode cX7_other 64 = .ok (.iload_n 3, 1) := by decide +kernel
theorem dX7_other_65 : decode cX7_other 65 = .ok (.iload_n 1, 1) := by decide +kernel
theorem dX7_other_66 : decode cX7_other 66 = .ok (.imul, 1) := by decide +kernel
theorem dX7_other_67 : decode cX7_other 67 = .ok (.iadd, 1) := by decide +kernel
theorem dX7_other_68 : decode cX7_other 68 = .ok (.invokevirtual 146, 3) := by decide +kernel
theorem dX7_other_71 : decode cX7_other 71 = .ok (.if_icmp .ne 5, 3) := by decide +kernel
theorem dX7_other_74 : decode cX7_other 74 = .ok (.iload_n 3, 1) := by decide +kernel
theorem dX7_other_75 : decode cX7_other 75 = .ok (.ireturn, 1) := by decide +kernel
theorem dX7_other_76 : decode cX7_other 76 = .ok (.iinc 3 1, 3) := by decide +kernel
theorem dX7_other_79 : decode cX7_other 79 = .ok (.goto (-28), 3) := by decide +kernel
theorem dX7_other_82 : decode cX7_other 82 = .ok (.ldc 165, 2) := by decide +kernel
theorem dX7_other_84 : decode cX7_other 84 = .ok (.ireturn, 1) := by decide +kernel
theorem dX7_thunderOdds_0 : decode cX7_thunderOdds 0 = .ok (.aload_n 0, 1) := by decide +kernel
theorem dX7_thunderOdds_1 : decode cX7_thunderOdds 1 = .ok (.iload_n 1, 1) := by decide +kernel
theorem dX7_thunderOdds_2 : decode cX7_thunderOdds 2 = .ok (.invokevirtual 159, 3) := by decide +kernel
theorem dX7_thunderOdds_5 : decode cX7_thunderOdds 5 = .ok (.ifCond .eq 38, 3) := by decide +kernel
theorem dX7_thunderOdds_8 : decode cX7_thunderOdds 8 = .ok (.iload_n 2, 1) := by decide +kernel
theorem dX7_thunderOdds_9 : decode cX7_thunderOdds 9 = .ok (.i2l, 1) := by decide +kernel
theorem dX7_thunderOdds_10 : decode cX7_thunderOdds 10 = .ok (.lconst 0, 1) := by decide +kernel
theorem dX7_thunderOdds_11 : decode cX7_thunderOdds 11 = .ok (.ldc2_w 216, 3) := by decide +kernel
theorem dX7_thunderOdds_14 : decode cX7_thunderOdds 14 = .ok (.invokestatic 57, 3) := by decide +kernel
theorem dX7_thunderOdds_17 : decode cX7_thunderOdds 17 = .ok (.ifCond .eq 26, 3) := by decide +kernel
theorem dX7_thunderOdds_20 : decode cX7_thunderOdds 20 = .ok (.iload_n 3, 1) := by decide +kernel
theorem dX7_thunderOdds_21 : decode cX7_thunderOdds 21 = .ok (.i2l, 1) := by decide +kernel
theorem dX7_thunderOdds_22 : decode cX7_thunderOdds 22 = .ok (.lconst 0, 1) := by decide +kernel
theorem dX7_thunderOdds_23 : decode cX7_thunderOdds 23 = .ok (.ldc2_w 205, 3) := by decide +kernel
theorem dX7_thunderOdds_26 : decode cX7_thunderOdds 26 = .ok (.invokestatic 57, 3) := by decide +kernel
theorem dX7_thunderOdds_29 : decode cX7_thunderOdds 29 = .ok (.ifCond .eq 14, 3) := by decide +kernel
theorem dX7_thunderOdds_32 : decode cX7_thunderOdds 32 = .ok (.iload 4, 2) := by decide +kernel
theorem dX7_thunderOdds_34 : decode cX7_thunderOdds 34 = .ok (.i2l, 1) := by decide +kernel
theorem dX7_thunderOdds_35 : decode cX7_thunderOdds 35 = .ok (.lconst 0, 1) := by decide +kernel
theorem dX7_thunderOdds_36 : decode cX7_thunderOdds 36 = .ok (.lconst 1, 1) := by decide +kernel
theorem dX7_thunderOdds_37 : decode cX7_thunderOdds 37 = .ok (.invokestatic 57, 3) := by decide +kernel
theorem dX7_thunderOdds_40 : decode cX7_thunderOdds 40 = .ok (.ifCond .ne 7, 3) := by decide +kernel
theorem dX7_thunderOdds_43 : decode cX7_thunderOdds 43 = .ok (.ldc2_w 218, 3) := by decide +kernel
theorem dX7_thunderOdds_46 : decode cX7_thunderOdds 46 = .ok (.lreturn, 1) := by decide +kernel
theorem dX7_thunderOdds_47 : decode cX7_thunderOdds 47 = .ok (.lconst 0, 1) := by decide +kernel
theorem dX7_thunderOdds_48 : decode cX7_thunderOdds 48 = .ok (.lstore 5, 2) := by decide +kernel
theorem dX7_thunderOdds_50 : decode cX7_thunderOdds 50 = .ok (.lconst 1, 1) := by decide +kernel
theorem dX7_thunderOdds_51 : decode cX7_thunderOdds 51 = .ok (.lstore 7, 2) := by decide +kernel
theorem dX7_thunderOdds_53 : decode cX7_thunderOdds 53 = .ok (.iconst 0, 1) := by decide +kernel
theorem dX7_thunderOdds_54 : decode cX7_thunderOdds 54 = .ok (.istore 9, 2) := by decide +kernel
theorem dX7_thunderOdds_56 : decode cX7_thunderOdds 56 = .ok (.iload 9, 2) := by decide +kernel
theorem dX7_thunderOdds_58 : decode cX7_thunderOdds 58 = .ok (.iload_n 3, 1) := by decide +kernel
theorem dX7_thunderOdds_59 : decode cX7_thunderOdds 59 = .ok (.if_icmp .ge 17, 3) := by decide +kernel
theorem dX7_thunderOdds_62 : decode cX7_thunderOdds 62 = .ok (.lload 7, 2) := by decide +kernel
theorem dX7_thunderOdds_64 : decode cX7_thunderOdds 64 = .ok (.ldc2_w 216, 3) := by decide +kernel
theorem dX7_thunderOdds_67 : decode cX7_thunderOdds 67 = .ok (.lmul, 1) := by decide +kernel
theorem dX7_thunderOdds_68 : decode cX7_thunderOdds 68 = .ok (.lstore 7, 2) := by decide +kernel
theorem dX7_thunderOdds_70 : decode cX7_thunderOdds 70 = .ok (.iinc 9 1, 3) := by decide +kernel
theorem dX7_thunderOdds_73 : decode cX7_thunderOdds 73 = .ok (.goto (-17), 3) := by decide +kernel
theorem dX7_thunderOdds_76 : decode cX7_thunderOdds 76 = .ok (.iconst 0, 1) := by decide +kernel
theorem dX7_thunderOdds_77 : decode cX7_thunderOdds 77 = .ok (.istore 9, 2) := by decide +kernel
theorem dX7_thunderOdds_79 : decode cX7_thunderOdds 79 = .ok (.iload 9, 2) := by decide +kernel
theorem dX7_thunderOdds_81 : decode cX7_thunderOdds 81 = .ok (.iconst 1, 1) := by decide +kernel
theorem dX7_thunderOdds_82 : decode cX7_thunderOdds 82 = .ok (.iload_n 3, 1) := by decide +kernel
theorem dX7_thunderOdds_83 : decode cX7_thunderOdds 83 = .ok (.ishl, 1) := by decide +kernel
theorem dX7_thunderOdds_84 : decode cX7_thunderOdds 84 = .ok (.if_icmp .ge 86, 3) := by decide +kernel
theorem dX7_thunderOdds_87 : decode cX7_thunderOdds 87 = .ok (.lconst 1, 1) := by decide +kernel
theorem dX7_thunderOdds_88 : decode cX7_thunderOdds 88 = .ok (.lstore 10, 2) := by decide +kernel
theorem dX7_thunderOdds_90 : decode cX7_thunderOdds 90 = .ok (.iconst 0, 1) := by decide +kernel
theorem dX7_thunderOdds_91 : decode cX7_thunderOdds 91 = .ok (.istore 12, 2) := by decide +kernel
theorem dX7_thunderOdds_93 : decode cX7_thunderOdds 93 = .ok (.iload 12, 2) := by decide +kernel
theorem dX7_thunderOdds_95 : decode cX7_thunderOdds 95 = .ok (.iload_n 3, 1) := by decide +kernel
theorem dX7_thunderOdds_96 : decode cX7_thunderOdds 96 = .ok (.if_icmp .ge 34, 3) := by decide +kernel
theorem dX7_thunderOdds_99 : decode cX7_thunderOdds 99 = .ok (.lload 10, 2) := by decide +kernel
theorem dX7_thunderOdds_101 : decode cX7_thunderOdds 101 = .ok (.iload 9, 2) := by decide +kernel
theorem dX7_thunderOdds_103 : decode cX7_thunderOdds 103 = .ok (.iload 12, 2) := by decide +kernel
theorem dX7_thunderOdds_105 : decode cX7_thunderOdds 105 = .ok (.invokestatic 194, 3) := by decide +kernel
theorem dX7_thunderOdds_108 : decode cX7_thunderOdds 108 = .ok (.ifCond .eq 8, 3) := by decide +kernel
theorem dX7_thunderOdds_111 : decode cX7_thunderOdds 111 = .ok (.iload_n 2, 1) := by decide +kernel
theorem dX7_thunderOdds_112 : decode cX7_thunderOdds 112 = .ok (.i2l, 1) := by decide +kernel
theorem dX7_thunderOdds_113 : decode cX7_thunderOdds 113 = .ok (.goto 8, 3) := by decide +kernel
theorem dX7_thunderOdds_116 : decode cX7_thunderOdds 116 = .ok (.bipush 10, 2) := by decide +kernel
theorem dX7_thunderOdds_118 : decode cX7_thunderOdds 118 = .ok (.iload_n 2, 1) := by decide +kernel
theorem dX7_thunderOdds_119 : decode cX7_thunderOdds 119 = .ok (.isub, 1) := by decide +kernel
theorem dX7_thunderOdds_120 : decode cX7_thunderOdds 120 = .ok (.i2l, 1) := by decide +kernel
theorem dX7_thunderOdds_121 : decode cX7_thunderOdds 121 = .ok (.lmul, 1) := by decide +kernel
theorem dX7_thunderOdds_122 : decode cX7_thunderOdds 122 = .ok (.lstore 10, 2) := by decide +kernel
theorem dX7_thunderOdds_124 : decode cX7_thunderOdds 124 = .ok (.iinc 12 1, 3) := by decide +kernel
theorem dX7_thunderOdds_127 : decode cX7_thunderOdds 127 = .ok (.goto (-34), 3) := by decide +kernel
theorem dX7_thunderOdds_130 : decode cX7_thunderOdds 130 = .ok (.lload 5, 2) := by decide +kernel
theorem dX7_thunderOdds_132 : decode cX7_thunderOdds 132 = .ok (.aload_n 0, 1) := by decide +kernel
theorem dX7_thunderOdds_133 : decode cX7_thunderOdds 133 = .ok (.aload_n 0, 1) := by decide +kernel
theorem dX7_thunderOdds_134 : decode cX7_thunderOdds 134 = .ok (.iload_n 3, 1) := by decide +kernel
theorem dX7_thunderOdds_135 : decode cX7_thunderOdds 135 = .ok (.invokevirtual 154, 3) := by decide +kernel
theorem dX7_thunderOdds_138 : decode cX7_thunderOdds 138 = .ok (.iload 9, 2) := by decide +kernel
theorem dX7_thunderOdds_140 : decode cX7_thunderOdds 140 = .ok (.invokestatic 199, 3) := by decide +kernel
theorem dX7_thunderOdds_143 : decode cX7_thunderOdds 143 = .ok (.iadd, 1) := by decide +kernel
theorem dX7_thunderOdds_144 : decode cX7_thunderOdds 144 = .ok (.invokevirtual 146, 3) := by decide +kernel
theorem dX7_thunderOdds_147 : decode cX7_thunderOdds 147 = .ok (.aload_n 0, 1) := by decide +kernel
theorem dX7_thunderOdds_148 : decode cX7_thunderOdds 148 = .ok (.iload_n 1, 1) := by decide +kernel
theorem dX7_thunderOdds_149 : decode cX7_thunderOdds 149 = .ok (.invokevirtual 169, 3) := by decide +kernel
theorem dX7_thunderOdds_152 : decode cX7_thunderOdds 152 = .ok (.if_icmp .ne 8, 3) := by decide +kernel
theorem dX7_thunderOdds_155 : decode cX7_thunderOdds 155 = .ok (.lload 10, 2) := by decide +kernel
theorem dX7_thunderOdds_157 : decode cX7_thunderOdds 157 = .ok (.goto 4, 3) := by decide +kernel
theorem dX7_thunderOdds_160 : decode cX7_thunderOdds 160 = .ok (.lconst 0, 1) := by decide +kernel
theorem dX7_thunderOdds_161 : decode cX7_thunderOdds 161 = .ok (.ladd, 1) := by decide +kernel
theorem dX7_thunderOdds_162 : decode cX7_thunderOdds 162 = .ok (.lstore 5, 2) := by decide +kernel
theorem dX7_thunderOdds_164 : decode cX7_thunderOdds 164 = .ok (.iinc 9 1, 3) := by decide +kernel
theorem dX7_thunderOdds_167 : decode cX7_thunderOdds 167 = .ok (.goto (-88), 3) := by decide +kernel
theorem dX7_thunderOdds_170 : decode cX7_thunderOdds 170 = .ok (.lload 5, 2) := by decide +kernel
theorem dX7_thunderOdds_172 : decode cX7_thunderOdds 172 = .ok (.lstore 9, 2) := by decide +kernel
theorem dX7_thunderOdds_174 : decode cX7_thunderOdds 174 = .ok (.lload 7, 2) := by decide +kernel
theorem dX7_thunderOdds_176 : decode cX7_thunderOdds 176 = .ok (.lstore 11, 2) := by decide +kernel
theorem dX7_thunderOdds_178 : decode cX7_thunderOdds 178 = .ok (.lload 11, 2) := by decide +kernel
theorem dX7_thunderOdds_180 : decode cX7_thunderOdds 180 = .ok (.lconst 0, 1) := by decide +kernel
theorem dX7_thunderOdds_181 : decode cX7_thunderOdds 181 = .ok (.lcmp, 1) := by decide +kernel
theorem dX7_thunderOdds_182 : decode cX7_thunderOdds 182 = .ok (.ifCond .eq 21, 3) := by decide +kernel
theorem dX7_thunderOdds_185 : decode cX7_thunderOdds 185 = .ok (.lload 9, 2) := by decide +kernel
theorem dX7_thunderOdds_187 : decode cX7_thunderOdds 187 = .ok (.lload 11, 2) := by decide +kernel
theorem dX7_thunderOdds_189 : decode cX7_thunderOdds 189 = .ok (.lrem, 1) := by decide +kernel
theorem dX7_thunderOdds_190 : decode cX7_thunderOdds 190 = .ok (.lstore 13, 2) := by decide +kernel
theorem dX7_thunderOdds_192 : decode cX7_thunderOdds 192 = .ok (.lload 11, 2) := by decide +kernel
theorem dX7_thunderOdds_194 : decode cX7_thunderOdds 194 = .ok (.lstore 9, 2) := by decide +kernel
theorem dX7_thunderOdds_196 : decode cX7_thunderOdds 196 = .ok (.lload 13, 2) := by decide +kernel
theorem dX7_thunderOdds_198 : decode cX7_thunderOdds 198 = .ok (.lstore 11, 2) := by decide +kernel
theorem dX7_thunderOdds_200 : decode cX7_thunderOdds 200 = .ok (.goto (-22), 3) := by decide +kernel
theorem dX7_thunderOdds_203 : decode cX7_thunderOdds 203 = .ok (.iload 4, 2) := by decide +kernel
theorem dX7_thunderOdds_205 : decode cX7_thunderOdds 205 = .ok (.ifCond .ne 11, 3) := by decide +kernel
theorem dX7_thunderOdds_208 : decode cX7_thunderOdds 208 = .ok (.lload 5, 2) := by decide +kernel
theorem dX7_thunderOdds_210 : decode cX7_thunderOdds 210 = .ok (.lload 9, 2) := by decide +kernel
theorem dX7_thunderOdds_212 : decode cX7_thunderOdds 212 = .ok (.ldiv, 1) := by decide +kernel
theorem dX7_thunderOdds_213 : decode cX7_thunderOdds 213 = .ok (.goto 8, 3) := by decide +kernel
theorem dX7_thunderOdds_216 : decode cX7_thunderOdds 216 = .ok (.lload 7, 2) := by decide +kernel
theorem dX7_thunderOdds_218 : decode cX7_thunderOdds 218 = .ok (.lload 9, 2) := by decide +kernel
theorem dX7_thunderOdds_220 : decode cX7_thunderOdds 220 = .ok (.ldiv, 1) := by decide +kernel
theorem dX7_thunderOdds_221 : decode cX7_thunderOdds 221 = .ok (.lreturn, 1) := by decide +kernel
theorem dX7_drawn_0 : decode cX7_drawn 0 = .ok (.aload_n 0, 1) := by decide +kernel
theorem dX7_drawn_1 : decode cX7_drawn 1 = .ok (.getfield 138, 3) := by decide +kernel
theorem dX7_drawn_4 : decode cX7_drawn 4 = .ok (.ifCond .ne 6, 3) := by decide +kernel
theorem dX7_drawn_7 : decode cX7_drawn 7 = .ok (.ldc 145, 2) := by decide +kernel
theorem dX7_drawn_9 : decode cX7_drawn 9 = .ok (.ireturn, 1) := by decide +kernel
theorem dX7_drawn_10 : decode cX7_drawn 10 = .ok (.iload_n 1, 1) := by decide +kernel
theorem dX7_drawn_11 : decode cX7_drawn 11 = .ok (.i2l, 1) := by decide +kernel
theorem dX7_drawn_12 : decode cX7_drawn 12 = .ok (.lconst 0, 1) := by decide +kernel
theorem dX7_drawn_13 : decode cX7_drawn 13 = .ok (.ldc2_w 214, 3) := by decide +kernel
theorem dX7_drawn_16 : decode cX7_drawn 16 = .ok (.invokestatic 57, 3) := by decide +kernel
theorem dX7_drawn_19 : decode cX7_drawn 19 = .ok (.ifCond .eq 25, 3) := by decide +kernel
theorem dX7_drawn_22 : decode cX7_drawn 22 = .ok (.iload_n 2, 1) := by decide +kernel
theorem dX7_drawn_23 : decode cX7_drawn 23 = .ok (.i2l, 1) := by decide +kernel
theorem dX7_drawn_24 : decode cX7_drawn 24 = .ok (.lconst 1, 1) := by decide +kernel
theorem dX7_drawn_25 : decode cX7_drawn 25 = .ok (.ldc2_w 220, 3) := by decide +kernel
theorem dX7_drawn_28 : decode cX7_drawn 28 = .ok (.invokestatic 57, 3) := by decide +kernel
theorem dX7_drawn_31 : decode cX7_drawn 31 = .ok (.ifCond .eq 13, 3) := by decide +kernel
theorem dX7_drawn_34 : decode cX7_drawn 34 = .ok (.iload_n 3, 1) := by decide +kernel
theorem dX7_drawn_35 : decode cX7_drawn 35 = .ok (.i2l, 1) := by decide +kernel
theorem dX7_drawn_36 : decode cX7_drawn 36 = .ok (.lconst 0, 1) := by decide +kernel
theorem dX7_drawn_37 : decode cX7_drawn 37 = .ok (.lconst 1, 1) := by decide +kernel
theorem dX7_drawn_38 : decode cX7_drawn 38 = .ok (.invokestatic 57, 3) := by decide +kernel
theorem dX7_drawn_41 : decode cX7_drawn 41 = .ok (.ifCond .ne 6, 3) := by decide +kernel
theorem dX7_drawn_44 : decode cX7_drawn 44 = .ok (.ldc 67, 2) := by decide +kernel
theorem dX7_drawn_46 : decode cX7_drawn 46 = .ok (.ireturn, 1) := by decide +kernel
theorem dX7_drawn_47 : decode cX7_drawn 47 = .ok (.iload_n 2, 1) := by decide +kernel
theorem dX7_drawn_48 : decode cX7_drawn 48 = .ok (.i2l, 1) := by decide +kernel
theorem dX7_drawn_49 : decode cX7_drawn 49 = .ok (.lstore 4, 2) := by decide +kernel
theorem dX7_drawn_51 : decode cX7_drawn 51 = .ok (.aload_n 0, 1) := by decide +kernel
theorem dX7_drawn_52 : decode cX7_drawn 52 = .ok (.getfield 19, 3) := by decide +kernel
theorem dX7_drawn_55 : decode cX7_drawn 55 = .ok (.iconst 2, 1) := by decide +kernel
theorem dX7_drawn_56 : decode cX7_drawn 56 = .ok (.iaload, 1) := by decide +kernel
theorem dX7_drawn_57 : decode cX7_drawn 57 = .ok (.istore 6, 2) := by decide +kernel
theorem dX7_drawn_59 : decode cX7_drawn 59 = .ok (.iconst 0, 1) := by decide +kernel
theorem dX7_drawn_60 : decode cX7_drawn 60 = .ok (.istore 7, 2) := by decide +kernel
theorem dX7_drawn_62 : decode cX7_drawn 62 = .ok (.iconst 0, 1) := by decide +kernel
theorem dX7_drawn_63 : decode cX7_drawn 63 = .ok (.istore 8, 2) := by decide +kernel
theorem dX7_drawn_65 : decode cX7_drawn 65 = .ok (.iload 8, 2) := by decide +kernel
theorem dX7_drawn_67 : decode cX7_drawn 67 = .ok (.iload_n 1, 1) := by decide +kernel
theorem dX7_drawn_68 : decode cX7_drawn 68 = .ok (.if_icmp .ge 128, 3) := by decide +kernel
theorem dX7_drawn_71 : decode cX7_drawn 71 = .ok (.lload 4, 2) := by decide +kernel
theorem dX7_drawn_73 : decode cX7_drawn 73 = .ok (.ldc2_w 222, 3) := by decide +kernel
theorem dX7_drawn_76 : decode cX7_drawn 76 = .ok (.lmul, 1) := by decide +kernel
theorem dX7_drawn_77 : decode cX7_drawn 77 = .ok (.ldc2_w 224, 3) := by decide +kernel
theorem dX7_drawn_80 : decode cX7_drawn 80 = .ok (.lrem, 1) := by decide +kernel
theorem dX7_drawn_81 : decode cX7_drawn 81 = .ok (.lstore 4, 2) := by decide +kernel
theorem dX7_drawn_83 : decode cX7_drawn 83 = .ok (.iload 6, 2) := by decide +kernel
theorem dX7_drawn_85 : decode cX7_drawn 85 = .ok (.lload 4, 2) := by decide +kernel
theorem dX7_drawn_87 : decode cX7_drawn 87 = .ok (.ldc2_w 226, 3) := by decide +kernel
theorem dX7_drawn_90 : decode cX7_drawn 90 = .ok (.lrem, 1) := by decide +kernel
theorem dX7_drawn_91 : decode cX7_drawn 91 = .ok (.lconst 0, 1) := by decide +kernel
theorem dX7_drawn_92 : decode cX7_drawn 92 = .ok (.lcmp, 1) := by decide +kernel
theorem dX7_drawn_93 : decode cX7_drawn 93 = .ok (.ifCond .ne 17, 3) := by decide +kernel
theorem dX7_drawn_96 : decode cX7_drawn 96 = .ok (.lload 4, 2) := by decide +kernel
theorem dX7_drawn_98 : decode cX7_drawn 98 = .ok (.aload_n 0, 1) := by decide +kernel
theorem dX7_drawn_99 : decode cX7_drawn 99 = .ok (.getfield 19, 3) := by decide +kernel
theorem dX7_drawn_102 : decode cX7_drawn 102 = .ok (.iconst 0, 1) := by decide +kernel
theorem dX7_drawn_103 : decode cX7_drawn 103 = .ok (.iaload, 1) := by decide +kernel
theorem dX7_drawn_104 : decode cX7_drawn 104 = .ok (.i2l, 1) := by decide +kernel
theorem dX7_drawn_105 : decode cX7_drawn 105 = .ok (.lrem, 1) := by decide +kernel
theorem dX7_drawn_106 : decode cX7_drawn 106 = .ok (.l2i, 1) := by decide +kernel
theorem dX7_drawn_107 : decode cX7_drawn 107 = .ok (.goto 4, 3) := by decide +kernel
theorem dX7_drawn_110 : decode cX7_drawn 110 = .ok (.iconst 0, 1) := by decide +kernel
theorem dX7_drawn_111 : decode cX7_drawn 111 = .ok (.iadd, 1) := by decide +kernel
theorem dX7_drawn_112 : decode cX7_drawn 112 = .ok (.istore 6, 2) := by decide +kernel
theorem dX7_drawn_114 : decode cX7_drawn 114 = .ok (.aload_n 0, 1) := by decide +kernel
theorem dX7_drawn_115 : decode cX7_drawn 115 = .ok (.iload 6, 2) := by decide +kernel
theorem dX7_drawn_117 : decode cX7_drawn 117 = .ok (.aload_n 0, 1) := by decide +kernel
theorem dX7_drawn_118 : decode cX7_drawn 118 = .ok (.getfield 19, 3) := by decide +kernel
theorem dX7_drawn_121 : decode cX7_drawn 121 = .ok (.iconst 1, 1) := by decide +kernel
theorem dX7_drawn_122 : decode cX7_drawn 122 = .ok (.iaload, 1) := by decide +kernel
theorem dX7_drawn_123 : decode cX7_drawn 123 = .ok (.iadd, 1) := by decide +kernel
theorem dX7_drawn_124 : decode cX7_drawn 124 = .ok (.invokevirtual 146, 3) := by decide +kernel
theorem dX7_drawn_127 : decode cX7_drawn 127 = .ok (.istore 6, 2) := by decide +kernel
theorem dX7_drawn_129 : decode cX7_drawn 129 = .ok (.iconst 0, 1) := by decide +kernel
theorem dX7_drawn_130 : decode cX7_drawn 130 = .ok (.istore 9, 2) := by decide +kernel
theorem dX7_drawn_132 : decode cX7_drawn 132 = .ok (.iconst 0, 1) := by decide +kernel
theorem dX7_drawn_133 : decode cX7_drawn 133 = .ok (.istore 10, 2) := by decide +kernel
theorem dX7_drawn_135 : decode cX7_drawn 135 = .ok (.iload 10, 2) := by decide +kernel
theorem dX7_drawn_137 : decode cX7_drawn 137 = .ok (.aload_n 0, 1) := by decide +kernel
theorem dX7_drawn_138 : decode cX7_drawn 138 = .ok (.getfield 19, 3) := by decide +kernel
theorem dX7_drawn_141 : decode cX7_drawn 141 = .ok (.iconst 4, 1) := by decide +kernel
theorem dX7_drawn_142 : decode cX7_drawn 142 = .ok (.iaload, 1) := by decide +kernel
theorem dX7_drawn_143 : decode cX7_drawn 143 = .ok (.if_icmp .ge 32, 3) := by decide +kernel
theorem dX7_drawn_146 : decode cX7_drawn 146 = .ok (.iload 9, 2) := by decide +kernel
theorem dX7_drawn_148 : decode cX7_drawn 148 = .ok (.ifCond .ne 14, 3) := by decide +kernel
theorem dX7_drawn_151 : decode cX7_drawn 151 = .ok (.aload_n 0, 1) := by decide +kernel
theorem dX7_drawn_152 : decode cX7_drawn 152 = .ok (.iload 10, 2) := by decide +kernel
theorem dX7_drawn_154 : decode cX7_drawn 154 = .ok (.invokevirtual 169, 3) := by decide +kernel
theorem dX7_drawn_157 : decode cX7_drawn 157 = .ok (.iload 6, 2) := by decide +kernel
theorem dX7_drawn_159 : decode cX7_drawn 159 = .ok (.if_icmp .ne 7, 3) := by decide +kernel
theorem dX7_drawn_162 : decode cX7_drawn 162 = .ok (.iconst 1, 1) := by decide +kernel
theorem dX7_drawn_163 : decode cX7_drawn 163 = .ok (.goto 4, 3) := by decide +kernel
theorem dX7_drawn_166 : decode cX7_drawn 166 = .ok (.iconst 0, 1) := by decide +kernel
theorem dX7_drawn_167 : decode cX7_drawn 167 = .ok (.istore 9, 2) := by decide +kernel
theorem dX7_drawn_169 : decode cX7_drawn 169 = .ok (.iinc 10 1, 3) := by decide +kernel
theorem dX7_drawn_172 : decode cX7_drawn 172 = .ok (.goto (-37), 3) := by decide +kernel
theorem dX7_drawn_175 : decode cX7_drawn 175 = .ok (.iload 7, 2) := by decide +kernel
theorem dX7_drawn_177 : decode cX7_drawn 177 = .ok (.iload 9, 2) := by decide +kernel
theorem dX7_drawn_179 : decode cX7_drawn 179 = .ok (.ifCond .eq 7, 3) := by decide +kernel
theorem dX7_drawn_182 : decode cX7_drawn 182 = .ok (.iconst 1, 1) := by decide +kernel
theorem dX7_drawn_183 : decode cX7_drawn 183 = .ok (.goto 4, 3) := by decide +kernel
theorem dX7_drawn_186 : decode cX7_drawn 186 = .ok (.iconst 0, 1) := by decide +kernel
theorem dX7_drawn_187 : decode cX7_drawn 187 = .ok (.iadd, 1) := by decide +kernel
theorem dX7_drawn_188 : decode cX7_drawn 188 = .ok (.istore 7, 2) := by decide +kernel
theorem dX7_drawn_190 : decode cX7_drawn 190 = .ok (.iinc 8 1, 3) := by decide +kernel
theorem dX7_drawn_193 : decode cX7_drawn 193 = .ok (.goto (-128), 3) := by decide +kernel
theorem dX7_drawn_196 : decode cX7_drawn 196 = .ok (.iload_n 3, 1) := by decide +kernel
theorem dX7_drawn_197 : decode cX7_drawn 197 = .ok (.ifCond .ne 8, 3) := by decide +kernel
theorem dX7_drawn_200 : decode cX7_drawn 200 = .ok (.iload 6, 2) := by decide +kernel
theorem dX7_drawn_202 : decode cX7_drawn 202 = .ok (.goto 5, 3) := by decide +kernel
theorem dX7_drawn_205 : decode cX7_drawn 205 = .ok (.iload 7, 2) := by decide +kernel
theorem dX7_drawn_207 : decode cX7_drawn 207 = .ok (.ireturn, 1) := by decide +kernel
theorem dX7_image_0 : decode cX7_image 0 = .ok (.iload_n 1, 1) := by decide +kernel
theorem dX7_image_1 : decode cX7_image 1 = .ok (.i2l, 1) := by decide +kernel
theorem dX7_image_2 : decode cX7_image 2 = .ok (.lconst 0, 1) := by decide +kernel
theorem dX7_image_3 : decode cX7_image 3 = .ok (.lconst 1, 1) := by decide +kernel
theorem dX7_image_4 : decode cX7_image 4 = .ok (.invokestatic 57, 3) := by decide +kernel
theorem dX7_image_7 : decode cX7_image 7 = .ok (.ifCond .ne 6, 3) := by decide +kernel
theorem dX7_image_10 : decode cX7_image 10 = .ok (.ldc 67, 2) := by decide +kernel
theorem dX7_image_12 : decode cX7_image 12 = .ok (.ireturn, 1) := by decide +kernel
theorem dX7_image_13 : decode cX7_image 13 = .ok (.aload_n 0, 1) := by decide +kernel
theorem dX7_image_14 : decode cX7_image 14 = .ok (.getfield 138, 3) := by decide +kernel
theorem dX7_image_17 : decode cX7_image 17 = .ok (.ifCond .ne 6, 3) := by decide +kernel
theorem dX7_image_20 : decode cX7_image 20 = .ok (.ldc 145, 2) := by decide +kernel
theorem dX7_image_22 : decode cX7_image 22 = .ok (.ireturn, 1) := by decide +kernel
theorem dX7_image_23 : decode cX7_image 23 = .ok (.iconst 0, 1) := by decide +kernel
theorem dX7_image_24 : decode cX7_image 24 = .ok (.istore_n 2, 1) := by decide +kernel
theorem dX7_image_25 : decode cX7_image 25 = .ok (.iload_n 2, 1) := by decide +kernel
theorem dX7_image_26 : decode cX7_image 26 = .ok (.bipush 57, 2) := by decide +kernel
theorem dX7_image_28 : decode cX7_image 28 = .ok (.if_icmp .ge 26, 3) := by decide +kernel
theorem dX7_image_31 : decode cX7_image 31 = .ok (.aload_n 0, 1) := by decide +kernel
theorem dX7_image_32 : decode cX7_image 32 = .ok (.getfield 44, 3) := by decide +kernel
theorem dX7_image_35 : decode cX7_image 35 = .ok (.bipush 57, 2) := by decide +kernel
theorem dX7_image_37 : decode cX7_image 37 = .ok (.iload_n 1, 1) := by decide +kernel
theorem dX7_image_38 : decode cX7_image 38 = .ok (.imul, 1) := by decide +kernel
theorem dX7_image_39 : decode cX7_image 39 = .ok (.iload_n 2, 1) := by decide +kernel
theorem dX7_image_40 : decode cX7_image 40 = .ok (.iadd, 1) := by decide +kernel
theorem dX7_image_41 : decode cX7_image 41 = .ok (.aload_n 0, 1) := by decide +kernel
theorem dX7_image_42 : decode cX7_image 42 = .ok (.getfield 19, 3) := by decide +kernel
theorem dX7_image_45 : decode cX7_image 45 = .ok (.iload_n 2, 1) := by decide +kernel
theorem dX7_image_46 : decode cX7_image 46 = .ok (.iaload, 1) := by decide +kernel
theorem dX7_image_47 : decode cX7_image 47 = .ok (.iastore, 1) := by decide +kernel
theorem dX7_image_48 : decode cX7_image 48 = .ok (.iinc 2 1, 3) := by decide +kernel
theorem dX7_image_51 : decode cX7_image 51 = .ok (.goto (-26), 3) := by decide +kernel
theorem dX7_image_54 : decode cX7_image 54 = .ok (.aload_n 0, 1) := by decide +kernel
theorem dX7_image_55 : decode cX7_image 55 = .ok (.getfield 40, 3) := by decide +kernel
theorem dX7_image_58 : decode cX7_image 58 = .ok (.iload_n 1, 1) := by decide +kernel
theorem dX7_image_59 : decode cX7_image 59 = .ok (.iconst 1, 1) := by decide +kernel
theorem dX7_image_60 : decode cX7_image 60 = .ok (.bastore, 1) := by decide +kernel
theorem dX7_image_61 : decode cX7_image 61 = .ok (.iconst 1, 1) := by decide +kernel
theorem dX7_image_62 : decode cX7_image 62 = .ok (.ireturn, 1) := by decide +kernel
theorem dX7_restore_0 : decode cX7_restore 0 = .ok (.iload_n 1, 1) := by decide +kernel
theorem dX7_restore_1 : decode cX7_restore 1 = .ok (.i2l, 1) := by decide +kernel
theorem dX7_restore_2 : decode cX7_restore 2 = .ok (.lconst 0, 1) := by decide +kernel
theorem dX7_restore_3 : decode cX7_restore 3 = .ok (.lconst 1, 1) := by decide +kernel
theorem dX7_restore_4 : decode cX7_restore 4 = .ok (.invokestatic 57, 3) := by decide +kernel
theorem dX7_restore_7 : decode cX7_restore 7 = .ok (.ifCond .ne 6, 3) := by decide +kernel
theorem dX7_restore_10 : decode cX7_restore 10 = .ok (.ldc 67, 2) := by decide +kernel
theorem dX7_restore_12 : decode cX7_restore 12 = .ok (.ireturn, 1) := by decide +kernel
theorem dX7_restore_13 : decode cX7_restore 13 = .ok (.aload_n 0, 1) := by decide +kernel
theorem dX7_restore_14 : decode cX7_restore 14 = .ok (.getfield 40, 3) := by decide +kernel
theorem dX7_restore_17 : decode cX7_restore 17 = .ok (.iload_n 1, 1) := by decide +kernel
theorem dX7_restore_18 : decode cX7_restore 18 = .ok (.baload, 1) := by decide +kernel
theorem dX7_restore_19 : decode cX7_restore 19 = .ok (.ifCond .ne 6, 3) := by decide +kernel
theorem dX7_restore_22 : decode cX7_restore 22 = .ok (.ldc 145, 2) := by decide +kernel
theorem dX7_restore_24 : decode cX7_restore 24 = .ok (.ireturn, 1) := by decide +kernel
theorem dX7_restore_25 : decode cX7_restore 25 = .ok (.iconst 0, 1) := by decide +kernel
theorem dX7_restore_26 : decode cX7_restore 26 = .ok (.istore_n 2, 1) := by decide +kernel
theorem dX7_restore_27 : decode cX7_restore 27 = .ok (.iload_n 2, 1) := by decide +kernel
theorem dX7_restore_28 : decode cX7_restore 28 = .ok (.bipush 57, 2) := by decide +kernel
theorem dX7_restore_30 : decode cX7_restore 30 = .ok (.if_icmp .ge 26, 3) := by decide +kernel
theorem dX7_restore_33 : decode cX7_restore 33 = .ok (.aload_n 0, 1) := by decide +kernel
theorem dX7_restore_34 : decode cX7_restore 34 = .ok (.getfield 19, 3) := by decide +kernel
theorem dX7_restore_37 : decode cX7_restore 37 = .ok (.iload_n 2, 1) := by decide +kernel
theorem dX7_restore_38 : decode cX7_restore 38 = .ok (.aload_n 0, 1) := by decide +kernel
theorem dX7_restore_39 : decode cX7_restore 39 = .ok (.getfield 44, 3) := by decide +kernel
theorem dX7_restore_42 : decode cX7_restore 42 = .ok (.bipush 57, 2) := by decide +kernel
theorem dX7_restore_44 : decode cX7_restore 44 = .ok (.iload_n 1, 1) := by decide +kernel
theorem dX7_restore_45 : decode cX7_restore 45 = .ok (.imul, 1) := by decide +kernel
theorem dX7_restore_46 : decode cX7_restore 46 = .ok (.iload_n 2, 1) := by decide +kernel
theorem dX7_restore_47 : decode cX7_restore 47 = .ok (.iadd, 1) := by decide +kernel
theorem dX7_restore_48 : decode cX7_restore 48 = .ok (.iaload, 1) := by decide +kernel
theorem dX7_restore_49 : decode cX7_restore 49 = .ok (.iastore, 1) := by decide +kernel
theorem dX7_restore_50 : decode cX7_restore 50 = .ok (.iinc 2 1, 3) := by decide +kernel
theorem dX7_restore_53 : decode cX7_restore 53 = .ok (.goto (-26), 3) := by decide +kernel
theorem dX7_restore_56 : decode cX7_restore 56 = .ok (.aload_n 0, 1) := by decide +kernel
theorem dX7_restore_57 : decode cX7_restore 57 = .ok (.iconst 0, 1) := by decide +kernel
theorem dX7_restore_58 : decode cX7_restore 58 = .ok (.putfield 142, 3) := by decide +kernel
theorem dX7_restore_61 : decode cX7_restore 61 = .ok (.iconst 1, 1) := by decide +kernel
theorem dX7_restore_62 : decode cX7_restore 62 = .ok (.ireturn, 1) := by decide +kernel
theorem dX7_kind_0 : decode cX7_kind 0 = .ok (.aload_n 0, 1) := by decide +kernel
theorem dX7_kind_1 : decode cX7_kind 1 = .ok (.iload_n 1, 1) := by decide +kernel
theorem dX7_kind_2 : decode cX7_kind 2 = .ok (.invokevirtual 159, 3) := by decide +kernel
theorem dX7_kind_5 : decode cX7_kind 5 = .ok (.ifCond .eq 15, 3) := by decide +kernel
theorem dX7_kind_8 : decode cX7_kind 8 = .ok (.aload_n 0, 1) := by decide +kernel
theorem dX7_kind_9 : decode cX7_kind 9 = .ok (.getfield 19, 3) := by decide +kernel
theorem dX7_kind_12 : decode cX7_kind 12 = .ok (.bipush 42, 2) := by decide +kernel
theorem dX7_kind_14 : decode cX7_kind 14 = .ok (.iload_n 1, 1) := by decide +kernel
theorem dX7_kind_15 : decode cX7_kind 15 = .ok (.iadd, 1) := by decide +kernel
theorem dX7_kind_16 : decode cX7_kind 16 = .ok (.iaload, 1) := by decide +kernel
theorem dX7_kind_17 : decode cX7_kind 17 = .ok (.goto 5, 3) := by decide +kernel
theorem dX7_kind_20 : decode cX7_kind 20 = .ok (.ldc 67, 2) := by decide +kernel
theorem dX7_kind_22 : decode cX7_kind 22 = .ok (.ireturn, 1) := by decide +kernel
theorem dX7_isKind_0 : decode cX7_isKind 0 = .ok (.iload_n 1, 1) := by decide +kernel
theorem dX7_isKind_1 : decode cX7_isKind 1 = .ok (.ifCond .eq 28, 3) := by decide +kernel
theorem dX7_isKind_4 : decode cX7_isKind 4 = .ok (.iload_n 0, 1) := by decide +kernel
theorem dX7_isKind_5 : decode cX7_isKind 5 = .ok (.iload_n 1, 1) := by decide +kernel
theorem dX7_isKind_6 : decode cX7_isKind 6 = .ok (.if_icmp .eq 23, 3) := by decide +kernel
theorem dX7_isKind_9 : decode cX7_isKind 9 = .ok (.iload_n 1, 1) := by decide +kernel
theorem dX7_isKind_10 : decode cX7_isKind 10 = .ok (.iconst 1, 1) := by decide +kernel
theorem dX7_isKind_11 : decode cX7_isKind 11 = .ok (.if_icmp .ne 8, 3) := by decide +kernel
theorem dX7_isKind_14 : decode cX7_isKind 14 = .ok (.iload_n 0, 1) := by decide +kernel
theorem dX7_isKind_15 : decode cX7_isKind 15 = .ok (.iconst 4, 1) := by decide +kernel
theorem dX7_isKind_16 : decode cX7_isKind 16 = .ok (.if_icmp .lt 13, 3) := by decide +kernel
theorem dX7_isKind_19 : decode cX7_isKind 19 = .ok (.iload_n 1, 1) := by decide +kernel
theorem dX7_isKind_20 : decode cX7_isKind 20 = .ok (.iconst 4, 1) := by decide +kernel
theorem dX7_isKind_21 : decode cX7_isKind 21 = .ok (.if_icmp .ne 12, 3) := by decide +kernel
theorem dX7_isKind_24 : decode cX7_isKind 24 = .ok (.iload_n 0, 1) := by decide +kernel
theorem dX7_isKind_25 : decode cX7_isKind 25 = .ok (.iconst 5, 1) := by decide +kernel
theorem dX7_isKind_26 : decode cX7_isKind 26 = .ok (.if_icmp .ne 7, 3) := by decide +kernel
theorem dX7_isKind_29 : decode cX7_isKind 29 = .ok (.iconst 1, 1) := by decide +kernel
theorem dX7_isKind_30 : decode cX7_isKind 30 = .ok (.goto 4, 3) := by decide +kernel
theorem dX7_isKind_33 : decode cX7_isKind 33 = .ok (.iconst 0, 1) := by decide +kernel
theorem dX7_isKind_34 : decode cX7_isKind 34 = .ok (.ireturn, 1) := by decide +kernel
theorem dX7_as_0 : decode cX7_as 0 = .ok (.aload_n 0, 1) := by decide +kernel
theorem dX7_as_1 : decode cX7_as 1 = .ok (.iload_n 1, 1) := by decide +kernel
theorem dX7_as_2 : decode cX7_as 2 = .ok (.invokevirtual 159, 3) := by decide +kernel
theorem dX7_as_5 : decode cX7_as 5 = .ok (.ifCond .eq 15, 3) := by decide +kernel
theorem dX7_as_8 : decode cX7_as 8 = .ok (.iload_n 2, 1) := by decide +kernel
theorem dX7_as_9 : decode cX7_as 9 = .ok (.i2l, 1) := by decide +kernel
