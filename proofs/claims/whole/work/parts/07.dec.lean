theorem dX9_init_0 : decode cX9_init 0 = .ok (.aload_n 0, 1) := by decide +kernel
theorem dX9_init_1 : decode cX9_init 1 = .ok (.invokespecial 1, 3) := by decide +kernel
theorem dX9_init_4 : decode cX9_init 4 = .ok (.aload_n 0, 1) := by decide +kernel
theorem dX9_init_5 : decode cX9_init 5 = .ok (.bipush 8, 2) := by decide +kernel
theorem dX9_init_7 : decode cX9_init 7 = .ok (.newarray .int, 2) := by decide +kernel
theorem dX9_init_9 : decode cX9_init 9 = .ok (.putfield 7, 3) := by decide +kernel
theorem dX9_init_12 : decode cX9_init 12 = .ok (.aload_n 0, 1) := by decide +kernel
theorem dX9_init_13 : decode cX9_init 13 = .ok (.bipush 8, 2) := by decide +kernel
theorem dX9_init_15 : decode cX9_init 15 = .ok (.newarray .int, 2) := by decide +kernel
theorem dX9_init_17 : decode cX9_init 17 = .ok (.putfield 13, 3) := by decide +kernel
theorem dX9_init_20 : decode cX9_init 20 = .ok (.aload_n 0, 1) := by decide +kernel
theorem dX9_init_21 : decode cX9_init 21 = .ok (.bipush 8, 2) := by decide +kernel
theorem dX9_init_23 : decode cX9_init 23 = .ok (.newarray .int, 2) := by decide +kernel
theorem dX9_init_25 : decode cX9_init 25 = .ok (.putfield 16, 3) := by decide +kernel
theorem dX9_init_28 : decode cX9_init 28 = .ok (.aload_n 0, 1) := by decide +kernel
theorem dX9_init_29 : decode cX9_init 29 = .ok (.bipush 8, 2) := by decide +kernel
theorem dX9_init_31 : decode cX9_init 31 = .ok (.newarray .int, 2) := by decide +kernel
theorem dX9_init_33 : decode cX9_init 33 = .ok (.putfield 19, 3) := by decide +kernel
theorem dX9_init_36 : decode cX9_init 36 = .ok (.aload_n 0, 1) := by decide +kernel
theorem dX9_init_37 : decode cX9_init 37 = .ok (.bipush 8, 2) := by decide +kernel
theorem dX9_init_39 : decode cX9_init 39 = .ok (.newarray .int, 2) := by decide +kernel
theorem dX9_init_41 : decode cX9_init 41 = .ok (.putfield 22, 3) := by decide +kernel
theorem dX9_init_44 : decode cX9_init 44 = .ok (.aload_n 0, 1) := by decide +kernel
theorem dX9_init_45 : decode cX9_init 45 = .ok (.bipush 6, 2) := by decide +kernel
theorem dX9_init_47 : decode cX9_init 47 = .ok (.newarray .int, 2) := by decide +kernel
theorem dX9_init_49 : decode cX9_init 49 = .ok (.putfield 25, 3) := by decide +kernel
theorem dX9_init_52 : decode cX9_init 52 = .ok (.aload_n 0, 1) := by decide +kernel
theorem dX9_init_53 : decode cX9_init 53 = .ok (.bipush 6, 2) := by decide +kernel
theorem dX9_init_55 : decode cX9_init 55 = .ok (.newarray .int, 2) := by decide +kernel
theorem dX9_init_57 : decode cX9_init 57 = .ok (.putfield 28, 3) := by decide +kernel
theorem dX9_init_60 : decode cX9_init 60 = .ok (.aload_n 0, 1) := by decide +kernel
theorem dX9_init_61 : decode cX9_init 61 = .ok (.iconst 2, 1) := by decide +kernel
theorem dX9_init_62 : decode cX9_init 62 = .ok (.newarray .int, 2) := by decide +kernel
theorem dX9_init_64 : decode cX9_init 64 = .ok (.putfield 31, 3) := by decide +kernel
theorem dX9_init_67 : decode cX9_init 67 = .ok (.aload_n 0, 1) := by decide +kernel
theorem dX9_init_68 : decode cX9_init 68 = .ok (.bipush 8, 2) := by decide +kernel
theorem dX9_init_70 : decode cX9_init 70 = .ok (.newarray .int, 2) := by decide +kernel
theorem dX9_init_72 : decode cX9_init 72 = .ok (.putfield 34, 3) := by decide +kernel
theorem dX9_init_75 : decode cX9_init 75 = .ok (.aload_n 0, 1) := by decide +kernel
theorem dX9_init_76 : decode cX9_init 76 = .ok (.bipush 8, 2) := by decide +kernel
theorem dX9_init_78 : decode cX9_init 78 = .ok (.newarray .int, 2) := by decide +kernel
theorem dX9_init_80 : decode cX9_init 80 = .ok (.putfield 37, 3) := by decide +kernel
theorem dX9_init_83 : decode cX9_init 83 = .ok (.aload_n 0, 1) := by decide +kernel
theorem dX9_init_84 : decode cX9_init 84 = .ok (.bipush 60, 2) := by decide +kernel
theorem dX9_init_86 : decode cX9_init 86 = .ok (.newarray .int, 2) := by decide +kernel
theorem dX9_init_88 : decode cX9_init 88 = .ok (.putfield 40, 3) := by decide +kernel
theorem dX9_init_91 : decode cX9_init 91 = .ok (.aload_n 0, 1) := by decide +kernel
theorem dX9_init_92 : decode cX9_init 92 = .ok (.bipush 60, 2) := by decide +kernel
theorem dX9_init_94 : decode cX9_init 94 = .ok (.newarray .int, 2) := by decide +kernel
theorem dX9_init_96 : decode cX9_init 96 = .ok (.putfield 43, 3) := by decide +kernel
theorem dX9_init_99 : decode cX9_init 99 = .ok (.aload_n 0, 1) := by decide +kernel
theorem dX9_init_100 : decode cX9_init 100 = .ok (.bipush 60, 2) := by decide +kernel
theorem dX9_init_102 : decode cX9_init 102 = .ok (.newarray .int, 2) := by decide +kernel
theorem dX9_init_104 : decode cX9_init 104 = .ok (.putfield 46, 3) := by decide +kernel
theorem dX9_init_107 : decode cX9_init 107 = .ok (.aload_n 0, 1) := by decide +kernel
theorem dX9_init_108 : decode cX9_init 108 = .ok (.bipush 44, 2) := by decide +kernel
theorem dX9_init_110 : decode cX9_init 110 = .ok (.newarray .int, 2) := by decide +kernel
theorem dX9_init_112 : decode cX9_init 112 = .ok (.putfield 49, 3) := by decide +kernel
theorem dX9_init_115 : decode cX9_init 115 = .ok (.aload_n 0, 1) := by decide +kernel
theorem dX9_init_116 : decode cX9_init 116 = .ok (.sipush 2816, 3) := by decide +kernel
theorem dX9_init_119 : decode cX9_init 119 = .ok (.newarray .long, 2) := by decide +kernel
theorem dX9_init_121 : decode cX9_init 121 = .ok (.putfield 52, 3) := by decide +kernel
theorem dX9_init_124 : decode cX9_init 124 = .ok (.aload_n 0, 1) := by decide +kernel
theorem dX9_init_125 : decode cX9_init 125 = .ok (.sipush 256, 3) := by decide +kernel
theorem dX9_init_128 : decode cX9_init 128 = .ok (.newarray .int, 2) := by decide +kernel
theorem dX9_init_130 : decode cX9_init 130 = .ok (.putfield 56, 3) := by decide +kernel
theorem dX9_init_133 : decode cX9_init 133 = .ok (.aload_n 0, 1) := by decide +kernel
theorem dX9_init_134 : decode cX9_init 134 = .ok (.bipush 64, 2) := by decide +kernel
theorem dX9_init_136 : decode cX9_init 136 = .ok (.newarray .int, 2) := by decide +kernel
theorem dX9_init_138 : decode cX9_init 138 = .ok (.putfield 59, 3) := by decide +kernel
theorem dX9_init_141 : decode cX9_init 141 = .ok (.aload_n 0, 1) := by decide +kernel
theorem dX9_init_142 : decode cX9_init 142 = .ok (.sipush 256, 3) := by decide +kernel
theorem dX9_init_145 : decode cX9_init 145 = .ok (.newarray .int, 2) := by decide +kernel
theorem dX9_init_147 : decode cX9_init 147 = .ok (.putfield 62, 3) := by decide +kernel
theorem dX9_init_150 : decode cX9_init 150 = .ok (.aload_n 0, 1) := by decide +kernel
theorem dX9_init_151 : decode cX9_init 151 = .ok (.sipush 256, 3) := by decide +kernel
theorem dX9_init_154 : decode cX9_init 154 = .ok (.newarray .boolean, 2) := by decide +kernel
theorem dX9_init_156 : decode cX9_init 156 = .ok (.putfield 65, 3) := by decide +kernel
theorem dX9_init_159 : decode cX9_init 159 = .ok (.aload_n 0, 1) := by decide +kernel
theorem dX9_init_160 : decode cX9_init 160 = .ok (.bipush 17, 2) := by decide +kernel
theorem dX9_init_162 : decode cX9_init 162 = .ok (.newarray .long, 2) := by decide +kernel
theorem dX9_init_164 : decode cX9_init 164 = .ok (.putfield 69, 3) := by decide +kernel
theorem dX9_init_167 : decode cX9_init 167 = .ok (.aload_n 0, 1) := by decide +kernel
theorem dX9_init_168 : decode cX9_init 168 = .ok (.bipush 17, 2) := by decide +kernel
theorem dX9_init_170 : decode cX9_init 170 = .ok (.newarray .long, 2) := by decide +kernel
theorem dX9_init_172 : decode cX9_init 172 = .ok (.putfield 72, 3) := by decide +kernel
theorem dX9_init_175 : decode cX9_init 175 = .ok (.aload_n 0, 1) := by decide +kernel
theorem dX9_init_176 : decode cX9_init 176 = .ok (.sipush 244, 3) := by decide +kernel
theorem dX9_init_179 : decode cX9_init 179 = .ok (.newarray .int, 2) := by decide +kernel
theorem dX9_init_181 : decode cX9_init 181 = .ok (.putfield 75, 3) := by decide +kernel
theorem dX9_init_184 : decode cX9_init 184 = .ok (.aload_n 0, 1) := by decide +kernel
theorem dX9_init_185 : decode cX9_init 185 = .ok (.sipush 180, 3) := by decide +kernel
theorem dX9_init_188 : decode cX9_init 188 = .ok (.newarray .int, 2) := by decide +kernel
theorem dX9_init_190 : decode cX9_init 190 = .ok (.putfield 78, 3) := by decide +kernel
theorem dX9_init_193 : decode cX9_init 193 = .ok (.aload_n 0, 1) := by decide +kernel
theorem dX9_init_194 : decode cX9_init 194 = .ok (.iconst 2, 1) := by decide +kernel
theorem dX9_init_195 : decode cX9_init 195 = .ok (.newarray .boolean, 2) := by decide +kernel
theorem dX9_init_197 : decode cX9_init 197 = .ok (.putfield 81, 3) := by decide +kernel
theorem dX9_init_200 : decode cX9_init 200 = .ok (.aload_n 0, 1) := by decide +kernel
theorem dX9_init_201 : decode cX9_init 201 = .ok (.getfield 31, 3) := by decide +kernel
theorem dX9_init_204 : decode cX9_init 204 = .ok (.iconst 0, 1) := by decide +kernel
theorem dX9_init_205 : decode cX9_init 205 = .ok (.bipush 90, 2) := by decide +kernel
theorem dX9_init_207 : decode cX9_init 207 = .ok (.iastore, 1) := by decide +kernel
theorem dX9_init_208 : decode cX9_init 208 = .ok (.aload_n 0, 1) := by decide +kernel
theorem dX9_init_209 : decode cX9_init 209 = .ok (.getfield 31, 3) := by decide +kernel
theorem dX9_init_212 : decode cX9_init 212 = .ok (.iconst 1, 1) := by decide +kernel
theorem dX9_init_213 : decode cX9_init 213 = .ok (.bipush 30, 2) := by decide +kernel
theorem dX9_init_215 : decode cX9_init 215 = .ok (.iastore, 1) := by decide +kernel
theorem dX9_init_216 : decode cX9_init 216 = .ok (.iconst 0, 1) := by decide +kernel
theorem dX9_init_217 : decode cX9_init 217 = .ok (.istore_n 1, 1) := by decide +kernel
theorem dX9_init_218 : decode cX9_init 218 = .ok (.iload_n 1, 1) := by decide +kernel
theorem dX9_init_219 : decode cX9_init 219 = .ok (.bipush 6, 2) := by decide +kernel
theorem dX9_init_221 : decode cX9_init 221 = .ok (.if_icmp .ge 16, 3) := by decide +kernel
theorem dX9_init_224 : decode cX9_init 224 = .ok (.aload_n 0, 1) := by decide +kernel
theorem dX9_init_225 : decode cX9_init 225 = .ok (.getfield 25, 3) := by decide +kernel
theorem dX9_init_228 : decode cX9_init 228 = .ok (.iload_n 1, 1) := by decide +kernel
theorem dX9_init_229 : decode cX9_init 229 = .ok (.iload_n 1, 1) := by decide +kernel
theorem dX9_init_230 : decode cX9_init 230 = .ok (.iastore, 1) := by decide +kernel
theorem dX9_init_231 : decode cX9_init 231 = .ok (.iinc 1 1, 3) := by decide +kernel
theorem dX9_init_234 : decode cX9_init 234 = .ok (.goto (-16), 3) := by decide +kernel
theorem dX9_init_237 : decode cX9_init 237 = .ok (.return_, 1) := by decide +kernel
theorem dX9_in_0 : decode cX9_in 0 = .ok (.lload_n 0, 1) := by decide +kernel
theorem dX9_in_1 : decode cX9_in 1 = .ok (.lload_n 2, 1) := by decide +kernel
theorem dX9_in_2 : decode cX9_in 2 = .ok (.lcmp, 1) := by decide +kernel
theorem dX9_in_3 : decode cX9_in 3 = .ok (.ifCond .lt 14, 3) := by decide +kernel
theorem dX9_in_6 : decode cX9_in 6 = .ok (.lload_n 0, 1) := by decide +kernel
theorem dX9_in_7 : decode cX9_in 7 = .ok (.lload 4, 2) := by decide +kernel
theorem dX9_in_9 : decode cX9_in 9 = .ok (.lcmp, 1) := by decide +kernel
theorem dX9_in_10 : decode cX9_in 10 = .ok (.ifCond .gt 7, 3) := by decide +kernel
theorem dX9_in_13 : decode cX9_in 13 = .ok (.iconst 1, 1) := by decide +kernel
theorem dX9_in_14 : decode cX9_in 14 = .ok (.goto 4, 3) := by decide +kernel
theorem dX9_in_17 : decode cX9_in 17 = .ok (.iconst 0, 1) := by decide +kernel
theorem dX9_in_18 : decode cX9_in 18 = .ok (.ireturn, 1) := by decide +kernel
theorem dX9_bitsOf_0 : decode cX9_bitsOf 0 = .ok (.iconst 0, 1) := by decide +kernel
theorem dX9_bitsOf_1 : decode cX9_bitsOf 1 = .ok (.istore_n 1, 1) := by decide +kernel
theorem dX9_bitsOf_2 : decode cX9_bitsOf 2 = .ok (.iload_n 0, 1) := by decide +kernel
theorem dX9_bitsOf_3 : decode cX9_bitsOf 3 = .ok (.istore_n 2, 1) := by decide +kernel
theorem dX9_bitsOf_4 : decode cX9_bitsOf 4 = .ok (.iload_n 2, 1) := by decide +kernel
theorem dX9_bitsOf_5 : decode cX9_bitsOf 5 = .ok (.ifCond .eq 15, 3) := by decide +kernel
theorem dX9_bitsOf_8 : decode cX9_bitsOf 8 = .ok (.iinc 1 1, 3) := by decide +kernel
theorem dX9_bitsOf_11 : decode cX9_bitsOf 11 = .ok (.iload_n 2, 1) := by decide +kernel
theorem dX9_bitsOf_12 : decode cX9_bitsOf 12 = .ok (.iload_n 2, 1) := by decide +kernel
theorem dX9_bitsOf_13 : decode cX9_bitsOf 13 = .ok (.iconst 1, 1) := by decide +kernel
theorem dX9_bitsOf_14 : decode cX9_bitsOf 14 = .ok (.isub, 1) := by decide +kernel
theorem dX9_bitsOf_15 : decode cX9_bitsOf 15 = .ok (.iand, 1) := by decide +kernel
theorem dX9_bitsOf_16 : decode cX9_bitsOf 16 = .ok (.istore_n 2, 1) := by decide +kernel
theorem dX9_bitsOf_17 : decode cX9_bitsOf 17 = .ok (.goto (-13), 3) := by decide +kernel
theorem dX9_bitsOf_20 : decode cX9_bitsOf 20 = .ok (.iload_n 1, 1) := by decide +kernel
theorem dX9_bitsOf_21 : decode cX9_bitsOf 21 = .ok (.ireturn, 1) := by decide +kernel
theorem dX9_isFlake_0 : decode cX9_isFlake 0 = .ok (.iload_n 1, 1) := by decide +kernel
theorem dX9_isFlake_1 : decode cX9_isFlake 1 = .ok (.i2l, 1) := by decide +kernel
theorem dX9_isFlake_2 : decode cX9_isFlake 2 = .ok (.lconst 0, 1) := by decide +kernel
theorem dX9_isFlake_3 : decode cX9_isFlake 3 = .ok (.ldc2_w 84, 3) := by decide +kernel
theorem dX9_isFlake_6 : decode cX9_isFlake 6 = .ok (.invokestatic 86, 3) := by decide +kernel
theorem dX9_isFlake_9 : decode cX9_isFlake 9 = .ok (.ifCond .eq 19, 3) := by decide +kernel
theorem dX9_isFlake_12 : decode cX9_isFlake 12 = .ok (.aload_n 0, 1) := by decide +kernel
theorem dX9_isFlake_13 : decode cX9_isFlake 13 = .ok (.getfield 90, 3) := by decide +kernel
theorem dX9_isFlake_16 : decode cX9_isFlake 16 = .ok (.iload_n 1, 1) := by decide +kernel
theorem dX9_isFlake_17 : decode cX9_isFlake 17 = .ok (.ishr, 1) := by decide +kernel
theorem dX9_isFlake_18 : decode cX9_isFlake 18 = .ok (.iconst 1, 1) := by decide +kernel
theorem dX9_isFlake_19 : decode cX9_isFlake 19 = .ok (.iand, 1) := by decide +kernel
theorem dX9_isFlake_20 : decode cX9_isFlake 20 = .ok (.iconst 1, 1) := by decide +kernel
theorem dX9_isFlake_21 : decode cX9_isFlake 21 = .ok (.if_icmp .ne 7, 3) := by decide +kernel
theorem dX9_isFlake_24 : decode cX9_isFlake 24 = .ok (.iconst 1, 1) := by decide +kernel
theorem dX9_isFlake_25 : decode cX9_isFlake 25 = .ok (.goto 4, 3) := by decide +kernel
theorem dX9_isFlake_28 : decode cX9_isFlake 28 = .ok (.iconst 0, 1) := by decide +kernel
theorem dX9_isFlake_29 : decode cX9_isFlake 29 = .ok (.ireturn, 1) := by decide +kernel
theorem dX9_isOne_0 : decode cX9_isOne 0 = .ok (.iload_n 0, 1) := by decide +kernel
theorem dX9_isOne_1 : decode cX9_isOne 1 = .ok (.i2l, 1) := by decide +kernel
theorem dX9_isOne_2 : decode cX9_isOne 2 = .ok (.lconst 0, 1) := by decide +kernel
theorem dX9_isOne_3 : decode cX9_isOne 3 = .ok (.ldc2_w 94, 3) := by decide +kernel
theorem dX9_isOne_6 : decode cX9_isOne 6 = .ok (.invokestatic 86, 3) := by decide +kernel
theorem dX9_isOne_9 : decode cX9_isOne 9 = .ok (.ireturn, 1) := by decide +kernel
theorem dX9_isArm_0 : decode cX9_isArm 0 = .ok (.iload_n 0, 1) := by decide +kernel
theorem dX9_isArm_1 : decode cX9_isArm 1 = .ok (.i2l, 1) := by decide +kernel
theorem dX9_isArm_2 : decode cX9_isArm 2 = .ok (.lconst 0, 1) := by decide +kernel
theorem dX9_isArm_3 : decode cX9_isArm 3 = .ok (.ldc2_w 96, 3) := by decide +kernel
theorem dX9_isArm_6 : decode cX9_isArm 6 = .ok (.invokestatic 86, 3) := by decide +kernel
theorem dX9_isArm_9 : decode cX9_isArm 9 = .ok (.ireturn, 1) := by decide +kernel
theorem dX9_flake_0 : decode cX9_flake 0 = .ok (.iload_n 1, 1) := by decide +kernel
theorem dX9_flake_1 : decode cX9_flake 1 = .ok (.i2l, 1) := by decide +kernel
theorem dX9_flake_2 : decode cX9_flake 2 = .ok (.lconst 0, 1) := by decide +kernel
theorem dX9_flake_3 : decode cX9_flake 3 = .ok (.ldc2_w 84, 3) := by decide +kernel
theorem dX9_flake_6 : decode cX9_flake 6 = .ok (.invokestatic 86, 3) := by decide +kernel
theorem dX9_flake_9 : decode cX9_flake 9 = .ok (.ifCond .eq 11, 3) := by decide +kernel
theorem dX9_flake_12 : decode cX9_flake 12 = .ok (.iload 5, 2) := by decide +kernel
theorem dX9_flake_14 : decode cX9_flake 14 = .ok (.invokestatic 98, 3) := by decide +kernel
theorem dX9_flake_17 : decode cX9_flake 17 = .ok (.ifCond .ne 5, 3) := by decide +kernel
theorem dX9_flake_20 : decode cX9_flake 20 = .ok (.iconst (-1), 1) := by decide +kernel
theorem dX9_flake_21 : decode cX9_flake 21 = .ok (.ireturn, 1) := by decide +kernel
theorem dX9_flake_22 : decode cX9_flake 22 = .ok (.iload_n 2, 1) := by decide +kernel
theorem dX9_flake_23 : decode cX9_flake 23 = .ok (.invokestatic 102, 3) := by decide +kernel
theorem dX9_flake_26 : decode cX9_flake 26 = .ok (.ifCond .eq 28, 3) := by decide +kernel
theorem dX9_flake_29 : decode cX9_flake 29 = .ok (.iload_n 3, 1) := by decide +kernel
theorem dX9_flake_30 : decode cX9_flake 30 = .ok (.i2l, 1) := by decide +kernel
theorem dX9_flake_31 : decode cX9_flake 31 = .ok (.lconst 0, 1) := by decide +kernel
theorem dX9_flake_32 : decode cX9_flake 32 = .ok (.ldc2_w 105, 3) := by decide +kernel
theorem dX9_flake_35 : decode cX9_flake 35 = .ok (.invokestatic 86, 3) := by decide +kernel
theorem dX9_flake_38 : decode cX9_flake 38 = .ok (.ifCond .eq 16, 3) := by decide +kernel
theorem dX9_flake_41 : decode cX9_flake 41 = .ok (.iload 4, 2) := by decide +kernel
theorem dX9_flake_43 : decode cX9_flake 43 = .ok (.i2l, 1) := by decide +kernel
theorem dX9_flake_44 : decode cX9_flake 44 = .ok (.lconst 0, 1) := by decide +kernel
theorem dX9_flake_45 : decode cX9_flake 45 = .ok (.ldc2_w 107, 3) := by decide +kernel
theorem dX9_flake_48 : decode cX9_flake 48 = .ok (.invokestatic 86, 3) := by decide +kernel
theorem dX9_flake_51 : decode cX9_flake 51 = .ok (.ifCond .ne 6, 3) := by decide +kernel
theorem dX9_flake_54 : decode cX9_flake 54 = .ok (.bipush (-2), 2) := by decide +kernel
theorem dX9_flake_56 : decode cX9_flake 56 = .ok (.ireturn, 1) := by decide +kernel
theorem dX9_flake_57 : decode cX9_flake 57 = .ok (.aload_n 0, 1) := by decide +kernel
theorem dX9_flake_58 : decode cX9_flake 58 = .ok (.dup, 1) := by decide +kernel
theorem dX9_flake_59 : decode cX9_flake 59 = .ok (.getfield 90, 3) := by decide +kernel
theorem dX9_flake_62 : decode cX9_flake 62 = .ok (.iconst 1, 1) := by decide +kernel
theorem dX9_flake_63 : decode cX9_flake 63 = .ok (.iload_n 1, 1) := by decide +kernel
theorem dX9_flake_64 : decode cX9_flake 64 = .ok (.ishl, 1) := by decide +kernel
theorem dX9_flake_65 : decode cX9_flake 65 = .ok (.ior, 1) := by decide +kernel
theorem dX9_flake_66 : decode cX9_flake 66 = .ok (.putfield 90, 3) := by decide +kernel
theorem dX9_flake_69 : decode cX9_flake 69 = .ok (.aload_n 0, 1) := by decide +kernel
theorem dX9_flake_70 : decode cX9_flake 70 = .ok (.getfield 7, 3) := by decide +kernel
theorem dX9_flake_73 : decode cX9_flake 73 = .ok (.iload_n 1, 1) := by decide +kernel
theorem dX9_flake_74 : decode cX9_flake 74 = .ok (.iload_n 2, 1) := by decide +kernel
theorem dX9_flake_75 : decode cX9_flake 75 = .ok (.iastore, 1) := by decide +kernel
theorem dX9_flake_76 : decode cX9_flake 76 = .ok (.aload_n 0, 1) := by decide +kernel
theorem dX9_flake_77 : decode cX9_flake 77 = .ok (.getfield 13, 3) := by decide +kernel
theorem dX9_flake_80 : decode cX9_flake 80 = .ok (.iload_n 1, 1) := by decide +kernel
theorem dX9_flake_81 : decode cX9_flake 81 = .ok (.iload_n 3, 1) := by decide +kernel
theorem dX9_flake_82 : decode cX9_flake 82 = .ok (.iastore, 1) := by decide +kernel
theorem dX9_flake_83 : decode cX9_flake 83 = .ok (.aload_n 0, 1) := by decide +kernel
theorem dX9_flake_84 : decode cX9_flake 84 = .ok (.getfield 16, 3) := by decide +kernel
theorem dX9_flake_87 : decode cX9_flake 87 = .ok (.iload_n 1, 1) := by decide +kernel
theorem dX9_flake_88 : decode cX9_flake 88 = .ok (.iload 4, 2) := by decide +kernel
theorem dX9_flake_90 : decode cX9_flake 90 = .ok (.iastore, 1) := by decide +kernel
theorem dX9_flake_91 : decode cX9_flake 91 = .ok (.aload_n 0, 1) := by decide +kernel
theorem dX9_flake_92 : decode cX9_flake 92 = .ok (.getfield 19, 3) := by decide +kernel
theorem dX9_flake_95 : decode cX9_flake 95 = .ok (.iload_n 1, 1) := by decide +kernel
theorem dX9_flake_96 : decode cX9_flake 96 = .ok (.iload 5, 2) := by decide +kernel
theorem dX9_flake_98 : decode cX9_flake 98 = .ok (.iastore, 1) := by decide +kernel
theorem dX9_flake_99 : decode cX9_flake 99 = .ok (.aload_n 0, 1) := by decide +kernel
theorem dX9_flake_100 : decode cX9_flake 100 = .ok (.getfield 22, 3) := by decide +kernel
theorem dX9_flake_103 : decode cX9_flake 103 = .ok (.iload_n 1, 1) := by decide +kernel
theorem dX9_flake_104 : decode cX9_flake 104 = .ok (.bipush (-6), 2) := by decide +kernel
theorem dX9_flake_106 : decode cX9_flake 106 = .ok (.iastore, 1) := by decide +kernel
theorem dX9_flake_107 : decode cX9_flake 107 = .ok (.aload_n 0, 1) := by decide +kernel
theorem dX9_flake_108 : decode cX9_flake 108 = .ok (.getfield 90, 3) := by decide +kernel
theorem dX9_flake_111 : decode cX9_flake 111 = .ok (.invokestatic 109, 3) := by decide +kernel
theorem dX9_flake_114 : decode cX9_flake 114 = .ok (.ireturn, 1) := by decide +kernel
theorem dX9_melt_0 : decode cX9_melt 0 = .ok (.aload_n 0, 1) := by decide +kernel
theorem dX9_melt_1 : decode cX9_melt 1 = .ok (.iload_n 1, 1) := by decide +kernel
theorem dX9_melt_2 : decode cX9_melt 2 = .ok (.invokevirtual 113, 3) := by decide +kernel
theorem dX9_melt_5 : decode cX9_melt 5 = .ok (.ifCond .ne 5, 3) := by decide +kernel
theorem dX9_melt_8 : decode cX9_melt 8 = .ok (.iconst (-1), 1) := by decide +kernel
theorem dX9_melt_9 : decode cX9_melt 9 = .ok (.ireturn, 1) := by decide +kernel
theorem dX9_melt_10 : decode cX9_melt 10 = .ok (.aload_n 0, 1) := by decide +kernel
theorem dX9_melt_11 : decode cX9_melt 11 = .ok (.dup, 1) := by decide +kernel
theorem dX9_melt_12 : decode cX9_melt 12 = .ok (.getfield 90, 3) := by decide +kernel
theorem dX9_melt_15 : decode cX9_melt 15 = .ok (.iconst 1, 1) := by decide +kernel
theorem dX9_melt_16 : decode cX9_melt 16 = .ok (.iload_n 1, 1) := by decide +kernel
theorem dX9_melt_17 : decode cX9_melt 17 = .ok (.ishl, 1) := by decide +kernel
theorem dX9_melt_18 : decode cX9_melt 18 = .ok (.iconst (-1), 1) := by decide +kernel
theorem dX9_melt_19 : decode cX9_melt 19 = .ok (.ixor, 1) := by decide +kernel
theorem dX9_melt_20 : decode cX9_melt 20 = .ok (.iand, 1) := by decide +kernel
theorem dX9_melt_21 : decode cX9_melt 21 = .ok (.putfield 90, 3) := by decide +kernel
theorem dX9_melt_24 : decode cX9_melt 24 = .ok (.aload_n 0, 1) := by decide +kernel
theorem dX9_melt_25 : decode cX9_melt 25 = .ok (.getfield 90, 3) := by decide +kernel
theorem dX9_melt_28 : decode cX9_melt 28 = .ok (.invokestatic 109, 3) := by decide +kernel
theorem dX9_melt_31 : decode cX9_melt 31 = .ok (.ireturn, 1) := by decide +kernel
theorem dX9_stand_0 : decode cX9_stand 0 = .ok (.iload_n 1, 1) := by decide +kernel
theorem dX9_stand_1 : decode cX9_stand 1 = .ok (.invokestatic 98, 3) := by decide +kernel
theorem dX9_stand_4 : decode cX9_stand 4 = .ok (.ifCond .ne 5, 3) := by decide +kernel
theorem dX9_stand_7 : decode cX9_stand 7 = .ok (.iconst (-1), 1) := by decide +kernel
theorem dX9_stand_8 : decode cX9_stand 8 = .ok (.ireturn, 1) := by decide +kernel
theorem dX9_stand_9 : decode cX9_stand 9 = .ok (.iload_n 2, 1) := by decide +kernel
theorem dX9_stand_10 : decode cX9_stand 10 = .ok (.i2l, 1) := by decide +kernel
theorem dX9_stand_11 : decode cX9_stand 11 = .ok (.lconst 0, 1) := by decide +kernel
theorem dX9_stand_12 : decode cX9_stand 12 = .ok (.ldc2_w 105, 3) := by decide +kernel
theorem dX9_stand_15 : decode cX9_stand 15 = .ok (.invokestatic 86, 3) := by decide +kernel
theorem dX9_stand_18 : decode cX9_stand 18 = .ok (.ifCond .ne 6, 3) := by decide +kernel
theorem dX9_stand_21 : decode cX9_stand 21 = .ok (.bipush (-2), 2) := by decide +kernel
theorem dX9_stand_23 : decode cX9_stand 23 = .ok (.ireturn, 1) := by decide +kernel
theorem dX9_stand_24 : decode cX9_stand 24 = .ok (.aload_n 0, 1) := by decide +kernel
theorem dX9_stand_25 : decode cX9_stand 25 = .ok (.getfield 25, 3) := by decide +kernel
theorem dX9_stand_28 : decode cX9_stand 28 = .ok (.iload_n 1, 1) := by decide +kernel
theorem dX9_stand_29 : decode cX9_stand 29 = .ok (.iaload, 1) := by decide +kernel
theorem dX9_stand_30 : decode cX9_stand 30 = .ok (.istore_n 3, 1) := by decide +kernel
theorem dX9_stand_31 : decode cX9_stand 31 = .ok (.aload_n 0, 1) := by decide +kernel
theorem dX9_stand_32 : decode cX9_stand 32 = .ok (.getfield 25, 3) := by decide +kernel
theorem dX9_stand_35 : decode cX9_stand 35 = .ok (.iload_n 1, 1) := by decide +kernel
theorem dX9_stand_36 : decode cX9_stand 36 = .ok (.iload_n 2, 1) := by decide +kernel
theorem dX9_stand_37 : decode cX9_stand 37 = .ok (.iastore, 1) := by decide +kernel
theorem dX9_stand_38 : decode cX9_stand 38 = .ok (.aload_n 0, 1) := by decide +kernel
theorem dX9_stand_39 : decode cX9_stand 39 = .ok (.getfield 28, 3) := by decide +kernel
theorem dX9_stand_42 : decode cX9_stand 42 = .ok (.iload_n 1, 1) := by decide +kernel
theorem dX9_stand_43 : decode cX9_stand 43 = .ok (.iconst 0, 1) := by decide +kernel
theorem dX9_stand_44 : decode cX9_stand 44 = .ok (.iastore, 1) := by decide +kernel
theorem dX9_stand_45 : decode cX9_stand 45 = .ok (.iload_n 3, 1) := by decide +kernel
theorem dX9_stand_46 : decode cX9_stand 46 = .ok (.ireturn, 1) := by decide +kernel
theorem dX9_air_0 : decode cX9_air 0 = .ok (.iload_n 1, 1) := by decide +kernel
theorem dX9_air_1 : decode cX9_air 1 = .ok (.i2l, 1) := by decide +kernel
theorem dX9_air_2 : decode cX9_air 2 = .ok (.lconst 0, 1) := by decide +kernel
theorem dX9_air_3 : decode cX9_air 3 = .ok (.lconst 1, 1) := by decide +kernel
theorem dX9_air_4 : decode cX9_air 4 = .ok (.invokestatic 86, 3) := by decide +kernel
theorem dX9_air_7 : decode cX9_air 7 = .ok (.ifCond .eq 15, 3) := by decide +kernel
theorem dX9_air_10 : decode cX9_air 10 = .ok (.iload_n 2, 1) := by decide +kernel
theorem dX9_air_11 : decode cX9_air 11 = .ok (.i2l, 1) := by decide +kernel
theorem dX9_air_12 : decode cX9_air 12 = .ok (.lconst 0, 1) := by decide +kernel
theorem dX9_air_13 : decode cX9_air 13 = .ok (.ldc2_w 96, 3) := by decide +kernel
theorem dX9_air_16 : decode cX9_air 16 = .ok (.invokestatic 86, 3) := by decide +kernel
theorem dX9_air_19 : decode cX9_air 19 = .ok (.ifCond .ne 6, 3) := by decide +kernel
theorem dX9_air_22 : decode cX9_air 22 = .ok (.bipush (-2), 2) := by decide +kernel
theorem dX9_air_24 : decode cX9_air 24 = .ok (.ireturn, 1) := by decide +kernel
theorem dX9_air_25 : decode cX9_air 25 = .ok (.aload_n 0, 1) := by decide +kernel
theorem dX9_air_26 : decode cX9_air 26 = .ok (.getfield 31, 3) := by decide +kernel
theorem dX9_air_29 : decode cX9_air 29 = .ok (.iload_n 1, 1) := by decide +kernel
theorem dX9_air_30 : decode cX9_air 30 = .ok (.iaload, 1) := by decide +kernel
theorem dX9_air_31 : decode cX9_air 31 = .ok (.istore_n 3, 1) := by decide +kernel
theorem dX9_air_32 : decode cX9_air 32 = .ok (.aload_n 0, 1) := by decide +kernel
theorem dX9_air_33 : decode cX9_air 33 = .ok (.getfield 31, 3) := by decide +kernel
theorem dX9_air_36 : decode cX9_air 36 = .ok (.iload_n 1, 1) := by decide +kernel
theorem dX9_air_37 : decode cX9_air 37 = .ok (.iload_n 2, 1) := by decide +kernel
theorem dX9_air_38 : decode cX9_air 38 = .ok (.iastore, 1) := by decide +kernel
theorem dX9_air_39 : decode cX9_air 39 = .ok (.iload_n 3, 1) := by decide +kernel
theorem dX9_air_40 : decode cX9_air 40 = .ok (.ireturn, 1) := by decide +kernel
theorem dX9_say_0 : decode cX9_say 0 = .ok (.iload_n 1, 1) := by decide +kernel
theorem dX9_say_1 : decode cX9_say 1 = .ok (.i2l, 1) := by decide +kernel
theorem dX9_say_2 : decode cX9_say 2 = .ok (.ldc2_w 116, 3) := by decide +kernel
theorem dX9_say_5 : decode cX9_say 5 = .ok (.ldc2_w 118, 3) := by decide +kernel
theorem dX9_say_8 : decode cX9_say 8 = .ok (.invokestatic 86, 3) := by decide +kernel
theorem dX9_say_11 : decode cX9_say 11 = .ok (.ifCond .ne 6, 3) := by decide +kernel
theorem dX9_say_14 : decode cX9_say 14 = .ok (.bipush (-2), 2) := by decide +kernel
theorem dX9_say_16 : decode cX9_say 16 = .ok (.ireturn, 1) := by decide +kernel
theorem dX9_say_17 : decode cX9_say 17 = .ok (.aload_n 0, 1) := by decide +kernel
theorem dX9_say_18 : decode cX9_say 18 = .ok (.getfield 120, 3) := by decide +kernel
theorem dX9_say_21 : decode cX9_say 21 = .ok (.bipush 60, 2) := by decide +kernel
theorem dX9_say_23 : decode cX9_say 23 = .ok (.if_icmp .ne 6, 3) := by decide +kernel
theorem dX9_say_26 : decode cX9_say 26 = .ok (.bipush (-4), 2) := by decide +kernel
theorem dX9_say_28 : decode cX9_say 28 = .ok (.ireturn, 1) := by decide +kernel
theorem dX9_say_29 : decode cX9_say 29 = .ok (.aload_n 0, 1) := by decide +kernel
theorem dX9_say_30 : decode cX9_say 30 = .ok (.getfield 40, 3) := by decide +kernel
theorem dX9_say_33 : decode cX9_say 33 = .ok (.aload_n 0, 1) := by decide +kernel
theorem dX9_say_34 : decode cX9_say 34 = .ok (.getfield 120, 3) := by decide +kernel
theorem dX9_say_37 : decode cX9_say 37 = .ok (.iload_n 1, 1) := by decide +kernel
theorem dX9_say_38 : decode cX9_say 38 = .ok (.iastore, 1) := by decide +kernel
theorem dX9_say_39 : decode cX9_say 39 = .ok (.aload_n 0, 1) := by decide +kernel
theorem dX9_say_40 : decode cX9_say 40 = .ok (.dup, 1) := by decide +kernel
theorem dX9_say_41 : decode cX9_say 41 = .ok (.getfield 120, 3) := by decide +kernel
theorem dX9_say_44 : decode cX9_say 44 = .ok (.iconst 1, 1) := by decide +kernel
theorem dX9_say_45 : decode cX9_say 45 = .ok (.iadd, 1) := by decide +kernel
theorem dX9_say_46 : decode cX9_say 46 = .ok (.putfield 120, 3) := by decide +kernel
theorem dX9_say_49 : decode cX9_say 49 = .ok (.aload_n 0, 1) := by decide +kernel
theorem dX9_say_50 : decode cX9_say 50 = .ok (.getfield 120, 3) := by decide +kernel
theorem dX9_say_53 : decode cX9_say 53 = .ok (.ireturn, 1) := by decide +kernel
theorem dX9_wipe_0 : decode cX9_wipe 0 = .ok (.aload_n 0, 1) := by decide +kernel
theorem dX9_wipe_1 : decode cX9_wipe 1 = .ok (.getfield 120, 3) := by decide +kernel
theorem dX9_wipe_4 : decode cX9_wipe 4 = .ok (.istore_n 1, 1) := by decide +kernel
theorem dX9_wipe_5 : decode cX9_wipe 5 = .ok (.aload_n 0, 1) := by decide +kernel
theorem dX9_wipe_6 : decode cX9_wipe 6 = .ok (.iconst 0, 1) := by decide +kernel
theorem dX9_wipe_7 : decode cX9_wipe 7 = .ok (.putfield 120, 3) := by decide +kernel
theorem dX9_wipe_10 : decode cX9_wipe 10 = .ok (.iload_n 1, 1) := by decide +kernel
theorem dX9_wipe_11 : decode cX9_wipe 11 = .ok (.ireturn, 1) := by decide +kernel
theorem dX9_close_0 : decode cX9_close 0 = .ok (.aload_n 0, 1) := by decide +kernel
theorem dX9_close_1 : decode cX9_close 1 = .ok (.getfield 43, 3) := by decide +kernel
theorem dX9_close_4 : decode cX9_close 4 = .ok (.aload_n 0, 1) := by decide +kernel
theorem dX9_close_5 : decode cX9_close 5 = .ok (.getfield 123, 3) := by decide +kernel
theorem dX9_close_8 : decode cX9_close 8 = .ok (.iload_n 1, 1) := by decide +kernel
theorem dX9_close_9 : decode cX9_close 9 = .ok (.iastore, 1) := by decide +kernel
theorem dX9_close_10 : decode cX9_close 10 = .ok (.aload_n 0, 1) := by decide +kernel
theorem dX9_close_11 : decode cX9_close 11 = .ok (.dup, 1) := by decide +kernel
theorem dX9_close_12 : decode cX9_close 12 = .ok (.getfield 123, 3) := by decide +kernel
theorem dX9_close_15 : decode cX9_close 15 = .ok (.iconst 1, 1) := by decide +kernel
theorem dX9_close_16 : decode cX9_close 16 = .ok (.iadd, 1) := by decide +kernel
theorem dX9_close_17 : decode cX9_close 17 = .ok (.putfield 123, 3) := by decide +kernel
theorem dX9_close_20 : decode cX9_close 20 = .ok (.iconst 0, 1) := by decide +kernel
theorem dX9_close_21 : decode cX9_close 21 = .ok (.ireturn, 1) := by decide +kernel
theorem dX9_readOn_0 : decode cX9_readOn 0 = .ok (.iload_n 1, 1) := by decide +kernel
theorem dX9_readOn_1 : decode cX9_readOn 1 = .ok (.iconst 1, 1) := by decide +kernel
theorem dX9_readOn_2 : decode cX9_readOn 2 = .ok (.if_icmp .ne 50, 3) := by decide +kernel
theorem dX9_readOn_5 : decode cX9_readOn 5 = .ok (.iload_n 2, 1) := by decide +kernel
theorem dX9_readOn_6 : decode cX9_readOn 6 = .ok (.bipush 60, 2) := by decide +kernel
theorem dX9_readOn_8 : decode cX9_readOn 8 = .ok (.if_icmp .ne 11, 3) := by decide +kernel
theorem dX9_readOn_11 : decode cX9_readOn 11 = .ok (.aload_n 0, 1) := by decide +kernel
theorem dX9_readOn_12 : decode cX9_readOn 12 = .ok (.iconst 5, 1) := by decide +kernel
theorem dX9_readOn_13 : decode cX9_readOn 13 = .ok (.invokevirtual 126, 3) := by decide +kernel
theorem dX9_readOn_16 : decode cX9_readOn 16 = .ok (.goto 35, 3) := by decide +kernel
theorem dX9_readOn_19 : decode cX9_readOn 19 = .ok (.iload_n 2, 1) := by decide +kernel
theorem dX9_readOn_20 : decode cX9_readOn 20 = .ok (.bipush 62, 2) := by decide +kernel
theorem dX9_readOn_22 : decode cX9_readOn 22 = .ok (.if_icmp .ne 12, 3) := by decide +kernel
theorem dX9_readOn_25 : decode cX9_readOn 25 = .ok (.aload_n 0, 1) := by decide +kernel
theorem dX9_readOn_26 : decode cX9_readOn 26 = .ok (.bipush 6, 2) := by decide +kernel
theorem dX9_readOn_28 : decode cX9_readOn 28 = .ok (.invokevirtual 126, 3) := by decide +kernel
theorem dX9_readOn_31 : decode cX9_readOn 31 = .ok (.goto 20, 3) := by decide +kernel
theorem dX9_readOn_34 : decode cX9_readOn 34 = .ok (.iload_n 2, 1) := by decide +kernel
theorem dX9_readOn_35 : decode cX9_readOn 35 = .ok (.bipush 117, 2) := by decide +kernel
theorem dX9_readOn_37 : decode cX9_readOn 37 = .ok (.if_icmp .ne 12, 3) := by decide +kernel
theorem dX9_readOn_40 : decode cX9_readOn 40 = .ok (.aload_n 0, 1) := by decide +kernel
theorem dX9_readOn_41 : decode cX9_readOn 41 = .ok (.bipush 7, 2) := by decide +kernel
theorem dX9_readOn_43 : decode cX9_readOn 43 = .ok (.invokevirtual 126, 3) := by decide +kernel
theorem dX9_readOn_46 : decode cX9_readOn 46 = .ok (.goto 5, 3) := by decide +kernel
theorem dX9_readOn_49 : decode cX9_readOn 49 = .ok (.bipush (-6), 2) := by decide +kernel
theorem dX9_readOn_51 : decode cX9_readOn 51 = .ok (.ireturn, 1) := by decide +kernel
theorem dX9_readOn_52 : decode cX9_readOn 52 = .ok (.iload_n 2, 1) := by decide +kernel
theorem dX9_readOn_53 : decode cX9_readOn 53 = .ok (.i2l, 1) := by decide +kernel
theorem dX9_readOn_54 : decode cX9_readOn 54 = .ok (.ldc2_w 129, 3) := by decide +kernel
theorem dX9_readOn_57 : decode cX9_readOn 57 = .ok (.ldc2_w 131, 3) := by decide +kernel
theorem dX9_readOn_60 : decode cX9_readOn 60 = .ok (.invokestatic 86, 3) := by decide +kernel
theorem dX9_readOn_63 : decode cX9_readOn 63 = .ok (.istore_n 3, 1) := by decide +kernel
theorem dX9_readOn_64 : decode cX9_readOn 64 = .ok (.aload_n 0, 1) := by decide +kernel
theorem dX9_readOn_65 : decode cX9_readOn 65 = .ok (.getfield 46, 3) := by decide +kernel
theorem dX9_readOn_68 : decode cX9_readOn 68 = .ok (.aload_n 0, 1) := by decide +kernel
theorem dX9_readOn_69 : decode cX9_readOn 69 = .ok (.getfield 123, 3) := by decide +kernel
theorem dX9_readOn_72 : decode cX9_readOn 72 = .ok (.iload_n 3, 1) := by decide +kernel
theorem dX9_readOn_73 : decode cX9_readOn 73 = .ok (.ifCond .eq 10, 3) := by decide +kernel
theorem dX9_readOn_76 : decode cX9_readOn 76 = .ok (.iload_n 2, 1) := by decide +kernel
theorem dX9_readOn_77 : decode cX9_readOn 77 = .ok (.bipush 65, 2) := by decide +kernel
theorem dX9_readOn_79 : decode cX9_readOn 79 = .ok (.isub, 1) := by decide +kernel
theorem dX9_readOn_80 : decode cX9_readOn 80 = .ok (.goto 4, 3) := by decide +kernel
theorem dX9_readOn_83 : decode cX9_readOn 83 = .ok (.iconst 0, 1) := by decide +kernel
theorem dX9_readOn_84 : decode cX9_readOn 84 = .ok (.iastore, 1) := by decide +kernel
theorem dX9_readOn_85 : decode cX9_readOn 85 = .ok (.iload_n 2, 1) := by decide +kernel
theorem dX9_readOn_86 : decode cX9_readOn 86 = .ok (.lookupswitch 80 #[(46, 74), (60, 62), (62, 68), (99, 50), (100, 56)], 50) := by decide +kernel
theorem dX9_readOn_136 : decode cX9_readOn 136 = .ok (.aload_n 0, 1) := by decide +kernel
theorem dX9_readOn_137 : decode cX9_readOn 137 = .ok (.iconst 0, 1) := by decide +kernel
theorem dX9_readOn_138 : decode cX9_readOn 138 = .ok (.invokevirtual 126, 3) := by decide +kernel
theorem dX9_readOn_141 : decode cX9_readOn 141 = .ok (.ireturn, 1) := by decide +kernel
theorem dX9_readOn_142 : decode cX9_readOn 142 = .ok (.aload_n 0, 1) := by decide +kernel
theorem dX9_readOn_143 : decode cX9_readOn 143 = .ok (.iconst 1, 1) := by decide +kernel
theorem dX9_readOn_144 : decode cX9_readOn 144 = .ok (.invokevirtual 126, 3) := by decide +kernel
theorem dX9_readOn_147 : decode cX9_readOn 147 = .ok (.ireturn, 1) := by decide +kernel
theorem dX9_readOn_148 : decode cX9_readOn 148 = .ok (.aload_n 0, 1) := by decide +kernel
theorem dX9_readOn_149 : decode cX9_readOn 149 = .ok (.iconst 2, 1) := by decide +kernel
theorem dX9_readOn_150 : decode cX9_readOn 150 = .ok (.invokevirtual 126, 3) := by decide +kernel
theorem dX9_readOn_153 : decode cX9_readOn 153 = .ok (.ireturn, 1) := by decide +kernel
theorem dX9_readOn_154 : decode cX9_readOn 154 = .ok (.aload_n 0, 1) := by decide +kernel
theorem dX9_readOn_155 : decode cX9_readOn 155 = .ok (.iconst 3, 1) := by decide +kernel
theorem dX9_readOn_156 : decode cX9_readOn 156 = .ok (.invokevirtual 126, 3) := by decide +kernel
theorem dX9_readOn_159 : decode cX9_readOn 159 = .ok (.ireturn, 1) := by decide +kernel
theorem dX9_readOn_160 : decode cX9_readOn 160 = .ok (.aload_n 0, 1) := by decide +kernel
theorem dX9_readOn_161 : decode cX9_readOn 161 = .ok (.iconst 4, 1) := by decide +kernel
theorem dX9_readOn_162 : decode cX9_readOn 162 = .ok (.invokevirtual 126, 3) := by decide +kernel
theorem dX9_readOn_165 : decode cX9_readOn 165 = .ok (.ireturn, 1) := by decide +kernel
theorem dX9_readOn_166 : decode cX9_readOn 166 = .ok (.iload_n 3, 1) := by decide +kernel
theorem dX9_readOn_167 : decode cX9_readOn 167 = .ok (.ifCond .eq 7, 3) := by decide +kernel
theorem dX9_readOn_170 : decode cX9_readOn 170 = .ok (.iconst 1, 1) := by decide +kernel
theorem dX9_readOn_171 : decode cX9_readOn 171 = .ok (.goto 5, 3) := by decide +kernel
theorem dX9_readOn_174 : decode cX9_readOn 174 = .ok (.bipush (-6), 2) := by decide +kernel
theorem dX9_readOn_176 : decode cX9_readOn 176 = .ok (.ireturn, 1) := by decide +kernel
theorem dX9_fault_0 : decode cX9_fault 0 = .ok (.aload_n 0, 1) := by decide +kernel
theorem dX9_fault_1 : decode cX9_fault 1 = .ok (.iconst 0, 1) := by decide +kernel
theorem dX9_fault_2 : decode cX9_fault 2 = .ok (.putfield 123, 3) := by decide +kernel
theorem dX9_fault_5 : decode cX9_fault 5 = .ok (.iconst 0, 1) := by decide +kernel
theorem dX9_fault_6 : decode cX9_fault 6 = .ok (.istore_n 1, 1) := by decide +kernel
theorem dX9_fault_7 : decode cX9_fault 7 = .ok (.iconst 0, 1) := by decide +kernel
theorem dX9_fault_8 : decode cX9_fault 8 = .ok (.istore_n 2, 1) := by decide +kernel
theorem dX9_fault_9 : decode cX9_fault 9 = .ok (.iload_n 2, 1) := by decide +kernel
theorem dX9_fault_10 : decode cX9_fault 10 = .ok (.aload_n 0, 1) := by decide +kernel
theorem dX9_fault_11 : decode cX9_fault 11 = .ok (.getfield 120, 3) := by decide +kernel
theorem dX9_fault_14 : decode cX9_fault 14 = .ok (.if_icmp .ge 27, 3) := by decide +kernel
theorem dX9_fault_17 : decode cX9_fault 17 = .ok (.aload_n 0, 1) := by decide +kernel
theorem dX9_fault_18 : decode cX9_fault 18 = .ok (.iload_n 1, 1) := by decide +kernel
theorem dX9_fault_19 : decode cX9_fault 19 = .ok (.aload_n 0, 1) := by decide +kernel
theorem dX9_fault_20 : decode cX9_fault 20 = .ok (.getfield 40, 3) := by decide +kernel
theorem dX9_fault_23 : decode cX9_fault 23 = .ok (.iload_n 2, 1) := by decide +kernel
theorem dX9_fault_24 : decode cX9_fault 24 = .ok (.iaload, 1) := by decide +kernel
theorem dX9_fault_25 : decode cX9_fault 25 = .ok (.invokevirtual 133, 3) := by decide +kernel
theorem dX9_fault_28 : decode cX9_fault 28 = .ok (.istore_n 1, 1) := by decide +kernel
theorem dX9_fault_29 : decode cX9_fault 29 = .ok (.iload_n 1, 1) := by decide +kernel
theorem dX9_fault_30 : decode cX9_fault 30 = .ok (.ifCond .ge 5, 3) := by decide +kernel
theorem dX9_fault_33 : decode cX9_fault 33 = .ok (.iload_n 2, 1) := by decide +kernel
theorem dX9_fault_34 : decode cX9_fault 34 = .ok (.ireturn, 1) := by decide +kernel
theorem dX9_fault_35 : decode cX9_fault 35 = .ok (.iinc 2 1, 3) := by decide +kernel
theorem dX9_fault_38 : decode cX9_fault 38 = .ok (.goto (-29), 3) := by decide +kernel
theorem dX9_fault_41 : decode cX9_fault 41 = .ok (.iload_n 1, 1) := by decide +kernel
theorem dX9_fault_42 : decode cX9_fault 42 = .ok (.ifCond .ne 8, 3) := by decide +kernel
theorem dX9_fault_45 : decode cX9_fault 45 = .ok (.bipush (-6), 2) := by decide +kernel
theorem dX9_fault_47 : decode cX9_fault 47 = .ok (.goto 7, 3) := by decide +kernel
theorem dX9_fault_50 : decode cX9_fault 50 = .ok (.aload_n 0, 1) := by decide +kernel
theorem dX9_fault_51 : decode cX9_fault 51 = .ok (.getfield 120, 3) := by decide +kernel
theorem dX9_fault_54 : decode cX9_fault 54 = .ok (.ireturn, 1) := by decide +kernel
theorem dX9_isAbove_0 : decode cX9_isAbove 0 = .ok (.aload_n 0, 1) := by decide +kernel
theorem dX9_isAbove_1 : decode cX9_isAbove 1 = .ok (.iload_n 1, 1) := by decide +kernel
theorem dX9_isAbove_2 : decode cX9_isAbove 2 = .ok (.invokevirtual 113, 3) := by decide +kernel
theorem dX9_isAbove_5 : decode cX9_isAbove 5 = .ok (.ifCond .eq 16, 3) := by decide +kernel
theorem dX9_isAbove_8 : decode cX9_isAbove 8 = .ok (.aload_n 0, 1) := by decide +kernel
theorem dX9_isAbove_9 : decode cX9_isAbove 9 = .ok (.getfield 16, 3) := by decide +kernel
theorem dX9_isAbove_12 : decode cX9_isAbove 12 = .ok (.iload_n 1, 1) := by decide +kernel
theorem dX9_isAbove_13 : decode cX9_isAbove 13 = .ok (.iaload, 1) := by decide +kernel
theorem dX9_isAbove_14 : decode cX9_isAbove 14 = .ok (.ifCond .le 7, 3) := by decide +kernel
theorem dX9_isAbove_17 : decode cX9_isAbove 17 = .ok (.iconst 1, 1) := by decide +kernel
theorem dX9_isAbove_18 : decode cX9_isAbove 18 = .ok (.goto 4, 3) := by decide +kernel
theorem dX9_isAbove_21 : decode cX9_isAbove 21 = .ok (.iconst 0, 1) := by decide +kernel
theorem dX9_isAbove_22 : decode cX9_isAbove 22 = .ok (.ireturn, 1) := by decide +kernel
theorem dX9_aboveMany_0 : decode cX9_aboveMany 0 = .ok (.iconst 0, 1) := by decide +kernel
theorem dX9_aboveMany_1 : decode cX9_aboveMany 1 = .ok (.istore_n 1, 1) := by decide +kernel
theorem dX9_aboveMany_2 : decode cX9_aboveMany 2 = .ok (.iconst 0, 1) := by decide +kernel
theorem dX9_aboveMany_3 : decode cX9_aboveMany 3 = .ok (.istore_n 2, 1) := by decide +kernel
theorem dX9_aboveMany_4 : decode cX9_aboveMany 4 = .ok (.iload_n 2, 1) := by decide +kernel
theorem dX9_aboveMany_5 : decode cX9_aboveMany 5 = .ok (.bipush 8, 2) := by decide +kernel
theorem dX9_aboveMany_7 : decode cX9_aboveMany 7 = .ok (.if_icmp .ge 25, 3) := by decide +kernel
theorem dX9_aboveMany_10 : decode cX9_aboveMany 10 = .ok (.iload_n 1, 1) := by decide +kernel
theorem dX9_aboveMany_11 : decode cX9_aboveMany 11 = .ok (.aload_n 0, 1) := by decide +kernel
theorem dX9_aboveMany_12 : decode cX9_aboveMany 12 = .ok (.iload_n 2, 1) := by decide +kernel
theorem dX9_aboveMany_13 : decode cX9_aboveMany 13 = .ok (.invokevirtual 137, 3) := by decide +kernel
theorem dX9_aboveMany_16 : decode cX9_aboveMany 16 = .ok (.ifCond .eq 7, 3) := by decide +kernel
theorem dX9_aboveMany_19 : decode cX9_aboveMany 19 = .ok (.iconst 1, 1) := by decide +kernel
theorem dX9_aboveMany_20 : decode cX9_aboveMany 20 = .ok (.goto 4, 3) := by decide +kernel
theorem dX9_aboveMany_23 : decode cX9_aboveMany 23 = .ok (.iconst 0, 1) := by decide +kernel
theorem dX9_aboveMany_24 : decode cX9_aboveMany 24 = .ok (.iadd, 1) := by decide +kernel
theorem dX9_aboveMany_25 : decode cX9_aboveMany 25 = .ok (.istore_n 1, 1) := by decide +kernel
theorem dX9_aboveMany_26 : decode cX9_aboveMany 26 = .ok (.iinc 2 1, 3) := by decide +kernel
theorem dX9_aboveMany_29 : decode cX9_aboveMany 29 = .ok (.goto (-25), 3) := by decide +kernel
theorem dX9_aboveMany_32 : decode cX9_aboveMany 32 = .ok (.iload_n 1, 1) := by decide +kernel
theorem dX9_aboveMany_33 : decode cX9_aboveMany 33 = .ok (.ireturn, 1) := by decide +kernel
theorem dX9_whyNot_0 : decode cX9_whyNot 0 = .ok (.iload_n 1, 1) := by decide +kernel
theorem dX9_whyNot_1 : decode cX9_whyNot 1 = .ok (.tableswitch 61 5 7 #[27, 42, 59], 27) := by decide +kernel
theorem dX9_whyNot_28 : decode cX9_whyNot 28 = .ok (.aload_n 0, 1) := by decide +kernel
theorem dX9_whyNot_29 : decode cX9_whyNot 29 = .ok (.getfield 25, 3) := by decide +kernel
theorem dX9_whyNot_32 : decode cX9_whyNot 32 = .ok (.iload_n 2, 1) := by decide +kernel
theorem dX9_whyNot_33 : decode cX9_whyNot 33 = .ok (.iaload, 1) := by decide +kernel
theorem dX9_whyNot_34 : decode cX9_whyNot 34 = .ok (.ifCond .ne 7, 3) := by decide +kernel
theorem dX9_whyNot_37 : decode cX9_whyNot 37 = .ok (.iconst 1, 1) := by decide +kernel
theorem dX9_whyNot_38 : decode cX9_whyNot 38 = .ok (.goto 4, 3) := by decide +kernel
theorem dX9_whyNot_41 : decode cX9_whyNot 41 = .ok (.iconst 0, 1) := by decide +kernel
theorem dX9_whyNot_42 : decode cX9_whyNot 42 = .ok (.ireturn, 1) := by decide +kernel
theorem dX9_whyNot_43 : decode cX9_whyNot 43 = .ok (.aload_n 0, 1) := by decide +kernel
theorem dX9_whyNot_44 : decode cX9_whyNot 44 = .ok (.getfield 25, 3) := by decide +kernel
theorem dX9_whyNot_47 : decode cX9_whyNot 47 = .ok (.iload_n 2, 1) := by decide +kernel
theorem dX9_whyNot_48 : decode cX9_whyNot 48 = .ok (.iaload, 1) := by decide +kernel
theorem dX9_whyNot_49 : decode cX9_whyNot 49 = .ok (.bipush 15, 2) := by decide +kernel
theorem dX9_whyNot_51 : decode cX9_whyNot 51 = .ok (.if_icmp .ne 7, 3) := by decide +kernel
theorem dX9_whyNot_54 : decode cX9_whyNot 54 = .ok (.iconst 1, 1) := by decide +kernel
theorem dX9_whyNot_55 : decode cX9_whyNot 55 = .ok (.goto 4, 3) := by decide +kernel
theorem dX9_whyNot_58 : decode cX9_whyNot 58 = .ok (.iconst 0, 1) := by decide +kernel
theorem dX9_whyNot_59 : decode cX9_whyNot 59 = .ok (.ireturn, 1) := by decide +kernel
theorem dX9_whyNot_60 : decode cX9_whyNot 60 = .ok (.iconst 0, 1) := by decide +kernel
theorem dX9_whyNot_61 : decode cX9_whyNot 61 = .ok (.ireturn, 1) := by decide +kernel
theorem dX9_whyNot_62 : decode cX9_whyNot 62 = .ok (.aload_n 0, 1) := by decide +kernel
theorem dX9_whyNot_63 : decode cX9_whyNot 63 = .ok (.invokevirtual 140, 3) := by decide +kernel
theorem dX9_whyNot_66 : decode cX9_whyNot 66 = .ok (.ifCond .ne 7, 3) := by decide +kernel
theorem dX9_whyNot_69 : decode cX9_whyNot 69 = .ok (.iconst 2, 1) := by decide +kernel
theorem dX9_whyNot_70 : decode cX9_whyNot 70 = .ok (.goto 4, 3) := by decide +kernel
theorem dX9_whyNot_73 : decode cX9_whyNot 73 = .ok (.iconst 0, 1) := by decide +kernel
theorem dX9_whyNot_74 : decode cX9_whyNot 74 = .ok (.ireturn, 1) := by decide +kernel
theorem dX9_grown_0 : decode cX9_grown 0 = .ok (.iconst 0, 1) := by decide +kernel
theorem dX9_grown_1 : decode cX9_grown 1 = .ok (.istore_n 2, 1) := by decide +kernel
theorem dX9_grown_2 : decode cX9_grown 2 = .ok (.iload_n 0, 1) := by decide +kernel
theorem dX9_grown_3 : decode cX9_grown 3 = .ok (.iconst 1, 1) := by decide +kernel
theorem dX9_grown_4 : decode cX9_grown 4 = .ok (.ishl, 1) := by decide +kernel
theorem dX9_grown_5 : decode cX9_grown 5 = .ok (.istore_n 3, 1) := by decide +kernel
theorem dX9_grown_6 : decode cX9_grown 6 = .ok (.iconst 0, 1) := by decide +kernel
theorem dX9_grown_7 : decode cX9_grown 7 = .ok (.istore 4, 2) := by decide +kernel
theorem dX9_grown_9 : decode cX9_grown 9 = .ok (.iload 4, 2) := by decide +kernel
theorem dX9_grown_11 : decode cX9_grown 11 = .ok (.bipush 8, 2) := by decide +kernel
theorem dX9_grown_13 : decode cX9_grown 13 = .ok (.if_icmp .ge 59, 3) := by decide +kernel
theorem dX9_grown_16 : decode cX9_grown 16 = .ok (.iload_n 3, 1) := by decide +kernel
theorem dX9_grown_17 : decode cX9_grown 17 = .ok (.iload 4, 2) := by decide +kernel
theorem dX9_grown_19 : decode cX9_grown 19 = .ok (.ishr, 1) := by decide +kernel
theorem dX9_grown_20 : decode cX9_grown 20 = .ok (.iconst 1, 1) := by decide +kernel
theorem dX9_grown_21 : decode cX9_grown 21 = .ok (.iand, 1) := by decide +kernel
theorem dX9_grown_22 : decode cX9_grown 22 = .ok (.istore 5, 2) := by decide +kernel
theorem dX9_grown_24 : decode cX9_grown 24 = .ok (.iload_n 3, 1) := by decide +kernel
theorem dX9_grown_25 : decode cX9_grown 25 = .ok (.iload 4, 2) := by decide +kernel
theorem dX9_grown_27 : decode cX9_grown 27 = .ok (.iconst 1, 1) := by decide +kernel
theorem dX9_grown_28 : decode cX9_grown 28 = .ok (.iadd, 1) := by decide +kernel
theorem dX9_grown_29 : decode cX9_grown 29 = .ok (.ishr, 1) := by decide +kernel
theorem dX9_grown_30 : decode cX9_grown 30 = .ok (.iconst 1, 1) := by decide +kernel
theorem dX9_grown_31 : decode cX9_grown 31 = .ok (.iand, 1) := by decide +kernel
theorem dX9_grown_32 : decode cX9_grown 32 = .ok (.istore 6, 2) := by decide +kernel
theorem dX9_grown_34 : decode cX9_grown 34 = .ok (.iload_n 3, 1) := by decide +kernel
theorem dX9_grown_35 : decode cX9_grown 35 = .ok (.iload 4, 2) := by decide +kernel
theorem dX9_grown_37 : decode cX9_grown 37 = .ok (.iconst 2, 1) := by decide +kernel
theorem dX9_grown_38 : decode cX9_grown 38 = .ok (.iadd, 1) := by decide +kernel
theorem dX9_grown_39 : decode cX9_grown 39 = .ok (.ishr, 1) := by decide +kernel
theorem dX9_grown_40 : decode cX9_grown 40 = .ok (.iconst 1, 1) := by decide +kernel
theorem dX9_grown_41 : decode cX9_grown 41 = .ok (.iand, 1) := by decide +kernel
theorem dX9_grown_42 : decode cX9_grown 42 = .ok (.istore 7, 2) := by decide +kernel
theorem dX9_grown_44 : decode cX9_grown 44 = .ok (.iload_n 2, 1) := by decide +kernel
theorem dX9_grown_45 : decode cX9_grown 45 = .ok (.iload_n 1, 1) := by decide +kernel
theorem dX9_grown_46 : decode cX9_grown 46 = .ok (.iconst 4, 1) := by decide +kernel
theorem dX9_grown_47 : decode cX9_grown 47 = .ok (.iload 7, 2) := by decide +kernel
theorem dX9_grown_49 : decode cX9_grown 49 = .ok (.imul, 1) := by decide +kernel
theorem dX9_grown_50 : decode cX9_grown 50 = .ok (.iconst 2, 1) := by decide +kernel
theorem dX9_grown_51 : decode cX9_grown 51 = .ok (.iload 6, 2) := by decide +kernel
theorem dX9_grown_53 : decode cX9_grown 53 = .ok (.imul, 1) := by decide +kernel
theorem dX9_grown_54 : decode cX9_grown 54 = .ok (.iadd, 1) := by decide +kernel
theorem dX9_grown_55 : decode cX9_grown 55 = .ok (.iload 5, 2) := by decide +kernel
theorem dX9_grown_57 : decode cX9_grown 57 = .ok (.iadd, 1) := by decide +kernel
theorem dX9_grown_58 : decode cX9_grown 58 = .ok (.ishr, 1) := by decide +kernel
theorem dX9_grown_59 : decode cX9_grown 59 = .ok (.iconst 1, 1) := by decide +kernel
theorem dX9_grown_60 : decode cX9_grown 60 = .ok (.iand, 1) := by decide +kernel
theorem dX9_grown_61 : decode cX9_grown 61 = .ok (.iload 4, 2) := by decide +kernel
theorem dX9_grown_63 : decode cX9_grown 63 = .ok (.ishl, 1) := by decide +kernel
theorem dX9_grown_64 : decode cX9_grown 64 = .ok (.ior, 1) := by decide +kernel
theorem dX9_grown_65 : decode cX9_grown 65 = .ok (.istore_n 2, 1) := by decide +kernel
theorem dX9_grown_66 : decode cX9_grown 66 = .ok (.iinc 4 1, 3) := by decide +kernel
theorem dX9_grown_69 : decode cX9_grown 69 = .ok (.goto (-60), 3) := by decide +kernel
theorem dX9_grown_72 : decode cX9_grown 72 = .ok (.iload_n 2, 1) := by decide +kernel
theorem dX9_grown_73 : decode cX9_grown 73 = .ok (.ireturn, 1) := by decide +kernel
theorem dX9_grow_0 : decode cX9_grow 0 = .ok (.iconst 0, 1) := by decide +kernel
theorem dX9_grow_1 : decode cX9_grow 1 = .ok (.istore_n 2, 1) := by decide +kernel
theorem dX9_grow_2 : decode cX9_grow 2 = .ok (.iload_n 2, 1) := by decide +kernel
theorem dX9_grow_3 : decode cX9_grow 3 = .ok (.bipush 8, 2) := by decide +kernel
theorem dX9_grow_5 : decode cX9_grow 5 = .ok (.if_icmp .ge 47, 3) := by decide +kernel
theorem dX9_grow_8 : decode cX9_grow 8 = .ok (.aload_n 0, 1) := by decide +kernel
theorem dX9_grow_9 : decode cX9_grow 9 = .ok (.getfield 7, 3) := by decide +kernel
theorem dX9_grow_12 : decode cX9_grow 12 = .ok (.iload_n 2, 1) := by decide +kernel
theorem dX9_grow_13 : decode cX9_grow 13 = .ok (.aload_n 0, 1) := by decide +kernel
theorem dX9_grow_14 : decode cX9_grow 14 = .ok (.iload_n 2, 1) := by decide +kernel
theorem dX9_grow_15 : decode cX9_grow 15 = .ok (.invokevirtual 137, 3) := by decide +kernel
theorem dX9_grow_18 : decode cX9_grow 18 = .ok (.ifCond .eq 21, 3) := by decide +kernel
theorem dX9_grow_21 : decode cX9_grow 21 = .ok (.aload_n 0, 1) := by decide +kernel
theorem dX9_grow_22 : decode cX9_grow 22 = .ok (.getfield 7, 3) := by decide +kernel
theorem dX9_grow_25 : decode cX9_grow 25 = .ok (.iload_n 2, 1) := by decide +kernel
theorem dX9_grow_26 : decode cX9_grow 26 = .ok (.iaload, 1) := by decide +kernel
theorem dX9_grow_27 : decode cX9_grow 27 = .ok (.aload_n 0, 1) := by decide +kernel
theorem dX9_grow_28 : decode cX9_grow 28 = .ok (.getfield 31, 3) := by decide +kernel
theorem dX9_grow_31 : decode cX9_grow 31 = .ok (.iload_n 1, 1) := by decide +kernel
theorem dX9_grow_32 : decode cX9_grow 32 = .ok (.iaload, 1) := by decide +kernel
theorem dX9_grow_33 : decode cX9_grow 33 = .ok (.invokestatic 144, 3) := by decide +kernel
theorem dX9_grow_36 : decode cX9_grow 36 = .ok (.goto 9, 3) := by decide +kernel
theorem dX9_grow_39 : decode cX9_grow 39 = .ok (.aload_n 0, 1) := by decide +kernel
theorem dX9_grow_40 : decode cX9_grow 40 = .ok (.getfield 7, 3) := by decide +kernel
theorem dX9_grow_43 : decode cX9_grow 43 = .ok (.iload_n 2, 1) := by decide +kernel
theorem dX9_grow_44 : decode cX9_grow 44 = .ok (.iaload, 1) := by decide +kernel
theorem dX9_grow_45 : decode cX9_grow 45 = .ok (.iastore, 1) := by decide +kernel
theorem dX9_grow_46 : decode cX9_grow 46 = .ok (.iinc 2 1, 3) := by decide +kernel
theorem dX9_grow_49 : decode cX9_grow 49 = .ok (.goto (-47), 3) := by decide +kernel
theorem dX9_grow_52 : decode cX9_grow 52 = .ok (.return_, 1) := by decide +kernel
theorem dX9_blowOne_0 : decode cX9_blowOne 0 = .ok (.aload_n 0, 1) := by decide +kernel
theorem dX9_blowOne_1 : decode cX9_blowOne 1 = .ok (.getfield 13, 3) := by decide +kernel
theorem dX9_blowOne_4 : decode cX9_blowOne 4 = .ok (.iload_n 1, 1) := by decide +kernel
theorem dX9_blowOne_5 : decode cX9_blowOne 5 = .ok (.iaload, 1) := by decide +kernel
theorem dX9_blowOne_6 : decode cX9_blowOne 6 = .ok (.iload_n 2, 1) := by decide +kernel
theorem dX9_blowOne_7 : decode cX9_blowOne 7 = .ok (.iadd, 1) := by decide +kernel
theorem dX9_blowOne_8 : decode cX9_blowOne 8 = .ok (.istore_n 3, 1) := by decide +kernel
theorem dX9_blowOne_9 : decode cX9_blowOne 9 = .ok (.iload_n 3, 1) := by decide +kernel
theorem dX9_blowOne_10 : decode cX9_blowOne 10 = .ok (.i2l, 1) := by decide +kernel
theorem dX9_blowOne_11 : decode cX9_blowOne 11 = .ok (.lconst 0, 1) := by decide +kernel
theorem dX9_blowOne_12 : decode cX9_blowOne 12 = .ok (.ldc2_w 105, 3) := by decide +kernel
theorem dX9_blowOne_15 : decode cX9_blowOne 15 = .ok (.invokestatic 86, 3) := by decide +kernel
theorem dX9_blowOne_18 : decode cX9_blowOne 18 = .ok (.istore 4, 2) := by decide +kernel
theorem dX9_blowOne_20 : decode cX9_blowOne 20 = .ok (.aload_n 0, 1) := by decide +kernel
theorem dX9_blowOne_21 : decode cX9_blowOne 21 = .ok (.getfield 13, 3) := by decide +kernel
theorem dX9_blowOne_24 : decode cX9_blowOne 24 = .ok (.iload_n 1, 1) := by decide +kernel
theorem dX9_blowOne_25 : decode cX9_blowOne 25 = .ok (.iload 4, 2) := by decide +kernel
theorem dX9_blowOne_27 : decode cX9_blowOne 27 = .ok (.ifCond .eq 7, 3) := by decide +kernel
theorem dX9_blowOne_30 : decode cX9_blowOne 30 = .ok (.iload_n 3, 1) := by decide +kernel
theorem dX9_blowOne_31 : decode cX9_blowOne 31 = .ok (.goto 5, 3) := by decide +kernel
theorem dX9_blowOne_34 : decode cX9_blowOne 34 = .ok (.bipush (-6), 2) := by decide +kernel
theorem dX9_blowOne_36 : decode cX9_blowOne 36 = .ok (.iastore, 1) := by decide +kernel
theorem dX9_blowOne_37 : decode cX9_blowOne 37 = .ok (.aload_n 0, 1) := by decide +kernel
theorem dX9_blowOne_38 : decode cX9_blowOne 38 = .ok (.getfield 16, 3) := by decide +kernel
theorem dX9_blowOne_41 : decode cX9_blowOne 41 = .ok (.iload_n 1, 1) := by decide +kernel
theorem dX9_blowOne_42 : decode cX9_blowOne 42 = .ok (.iload 4, 2) := by decide +kernel
theorem dX9_blowOne_44 : decode cX9_blowOne 44 = .ok (.ifCond .eq 12, 3) := by decide +kernel
theorem dX9_blowOne_47 : decode cX9_blowOne 47 = .ok (.aload_n 0, 1) := by decide +kernel
theorem dX9_blowOne_48 : decode cX9_blowOne 48 = .ok (.getfield 16, 3) := by decide +kernel
theorem dX9_blowOne_51 : decode cX9_blowOne 51 = .ok (.iload_n 1, 1) := by decide +kernel
theorem dX9_blowOne_52 : decode cX9_blowOne 52 = .ok (.iaload, 1) := by decide +kernel
theorem dX9_blowOne_53 : decode cX9_blowOne 53 = .ok (.goto 4, 3) := by decide +kernel
theorem dX9_blowOne_56 : decode cX9_blowOne 56 = .ok (.iconst 0, 1) := by decide +kernel
theorem dX9_blowOne_57 : decode cX9_blowOne 57 = .ok (.iastore, 1) := by decide +kernel
theorem dX9_blowOne_58 : decode cX9_blowOne 58 = .ok (.return_, 1) := by decide +kernel
theorem dX9_blow_0 : decode cX9_blow 0 = .ok (.iconst 0, 1) := by decide +kernel
theorem dX9_blow_1 : decode cX9_blow 1 = .ok (.istore_n 2, 1) := by decide +kernel
theorem dX9_blow_2 : decode cX9_blow 2 = .ok (.iload_n 2, 1) := by decide +kernel
theorem dX9_blow_3 : decode cX9_blow 3 = .ok (.bipush 8, 2) := by decide +kernel
theorem dX9_blow_5 : decode cX9_blow 5 = .ok (.if_icmp .ge 23, 3) := by decide +kernel
theorem dX9_blow_8 : decode cX9_blow 8 = .ok (.aload_n 0, 1) := by decide +kernel
theorem dX9_blow_9 : decode cX9_blow 9 = .ok (.iload_n 2, 1) := by decide +kernel
theorem dX9_blow_10 : decode cX9_blow 10 = .ok (.invokevirtual 137, 3) := by decide +kernel
theorem dX9_blow_13 : decode cX9_blow 13 = .ok (.ifCond .eq 9, 3) := by decide +kernel
theorem dX9_blow_16 : decode cX9_blow 16 = .ok (.aload_n 0, 1) := by decide +kernel
theorem dX9_blow_17 : decode cX9_blow 17 = .ok (.iload_n 2, 1) := by decide +kernel
theorem dX9_blow_18 : decode cX9_blow 18 = .ok (.iload_n 1, 1) := by decide +kernel
theorem dX9_blow_19 : decode cX9_blow 19 = .ok (.invokevirtual 147, 3) := by decide +kernel
theorem dX9_blow_22 : decode cX9_blow 22 = .ok (.iinc 2 1, 3) := by decide +kernel
theorem dX9_blow_25 : decode cX9_blow 25 = .ok (.goto (-23), 3) := by decide +kernel
theorem dX9_blow_28 : decode cX9_blow 28 = .ok (.return_, 1) := by decide +kernel
theorem dX9_comeDown_0 : decode cX9_comeDown 0 = .ok (.aload_n 0, 1) := by decide +kernel
theorem dX9_comeDown_1 : decode cX9_comeDown 1 = .ok (.dup, 1) := by decide +kernel
theorem dX9_comeDown_2 : decode cX9_comeDown 2 = .ok (.getfield 151, 3) := by decide +kernel
theorem dX9_comeDown_5 : decode cX9_comeDown 5 = .ok (.iconst 1, 1) := by decide +kernel
theorem dX9_comeDown_6 : decode cX9_comeDown 6 = .ok (.iadd, 1) := by decide +kernel
theorem dX9_comeDown_7 : decode cX9_comeDown 7 = .ok (.putfield 151, 3) := by decide +kernel
theorem dX9_comeDown_10 : decode cX9_comeDown 10 = .ok (.iconst 5, 1) := by decide +kernel
theorem dX9_comeDown_11 : decode cX9_comeDown 11 = .ok (.istore_n 2, 1) := by decide +kernel
theorem dX9_comeDown_12 : decode cX9_comeDown 12 = .ok (.iload_n 2, 1) := by decide +kernel
theorem dX9_comeDown_13 : decode cX9_comeDown 13 = .ok (.ifCond .lt 49, 3) := by decide +kernel
theorem dX9_comeDown_16 : decode cX9_comeDown 16 = .ok (.aload_n 0, 1) := by decide +kernel
theorem dX9_comeDown_17 : decode cX9_comeDown 17 = .ok (.getfield 22, 3) := by decide +kernel
theorem dX9_comeDown_20 : decode cX9_comeDown 20 = .ok (.iload_n 1, 1) := by decide +kernel
theorem dX9_comeDown_21 : decode cX9_comeDown 21 = .ok (.aload_n 0, 1) := by decide +kernel
theorem dX9_comeDown_22 : decode cX9_comeDown 22 = .ok (.getfield 25, 3) := by decide +kernel
theorem dX9_comeDown_25 : decode cX9_comeDown 25 = .ok (.iload_n 2, 1) := by decide +kernel
theorem dX9_comeDown_26 : decode cX9_comeDown 26 = .ok (.iaload, 1) := by decide +kernel
theorem dX9_comeDown_27 : decode cX9_comeDown 27 = .ok (.aload_n 0, 1) := by decide +kernel
theorem dX9_comeDown_28 : decode cX9_comeDown 28 = .ok (.getfield 13, 3) := by decide +kernel
theorem dX9_comeDown_31 : decode cX9_comeDown 31 = .ok (.iload_n 1, 1) := by decide +kernel
theorem dX9_comeDown_32 : decode cX9_comeDown 32 = .ok (.iaload, 1) := by decide +kernel
theorem dX9_comeDown_33 : decode cX9_comeDown 33 = .ok (.if_icmp .ne 16, 3) := by decide +kernel
theorem dX9_comeDown_36 : decode cX9_comeDown 36 = .ok (.aload_n 0, 1) := by decide +kernel
theorem dX9_comeDown_37 : decode cX9_comeDown 37 = .ok (.getfield 28, 3) := by decide +kernel
theorem dX9_comeDown_40 : decode cX9_comeDown 40 = .ok (.iload_n 2, 1) := by decide +kernel
theorem dX9_comeDown_41 : decode cX9_comeDown 41 = .ok (.iaload, 1) := by decide +kernel
theorem dX9_comeDown_42 : decode cX9_comeDown 42 = .ok (.ifCond .ne 7, 3) := by decide +kernel
theorem dX9_comeDown_45 : decode cX9_comeDown 45 = .ok (.iload_n 2, 1) := by decide +kernel
theorem dX9_comeDown_46 : decode cX9_comeDown 46 = .ok (.goto 9, 3) := by decide +kernel
theorem dX9_comeDown_49 : decode cX9_comeDown 49 = .ok (.aload_n 0, 1) := by decide +kernel
theorem dX9_comeDown_50 : decode cX9_comeDown 50 = .ok (.getfield 22, 3) := by decide +kernel
theorem dX9_comeDown_53 : decode cX9_comeDown 53 = .ok (.iload_n 1, 1) := by decide +kernel
theorem dX9_comeDown_54 : decode cX9_comeDown 54 = .ok (.iaload, 1) := by decide +kernel
theorem dX9_comeDown_55 : decode cX9_comeDown 55 = .ok (.iastore, 1) := by decide +kernel
theorem dX9_comeDown_56 : decode cX9_comeDown 56 = .ok (.iinc 2 (-1), 3) := by decide +kernel
theorem dX9_comeDown_59 : decode cX9_comeDown 59 = .ok (.goto (-47), 3) := by decide +kernel
theorem dX9_comeDown_62 : decode cX9_comeDown 62 = .ok (.aload_n 0, 1) := by decide +kernel
theorem dX9_comeDown_63 : decode cX9_comeDown 63 = .ok (.getfield 22, 3) := by decide +kernel
theorem dX9_comeDown_66 : decode cX9_comeDown 66 = .ok (.iload_n 1, 1) := by decide +kernel
theorem dX9_comeDown_67 : decode cX9_comeDown 67 = .ok (.iaload, 1) := by decide +kernel
theorem dX9_comeDown_68 : decode cX9_comeDown 68 = .ok (.aload_n 0, 1) := by decide +kernel
theorem dX9_comeDown_69 : decode cX9_comeDown 69 = .ok (.getfield 19, 3) := by decide +kernel
theorem dX9_comeDown_72 : decode cX9_comeDown 72 = .ok (.iload_n 1, 1) := by decide +kernel
theorem dX9_comeDown_73 : decode cX9_comeDown 73 = .ok (.iaload, 1) := by decide +kernel
theorem dX9_comeDown_74 : decode cX9_comeDown 74 = .ok (.if_icmp .ne 18, 3) := by decide +kernel
theorem dX9_comeDown_77 : decode cX9_comeDown 77 = .ok (.aload_n 0, 1) := by decide +kernel
theorem dX9_comeDown_78 : decode cX9_comeDown 78 = .ok (.getfield 154, 3) := by decide +kernel
theorem dX9_comeDown_81 : decode cX9_comeDown 81 = .ok (.ifCond .ge 11, 3) := by decide +kernel
theorem dX9_comeDown_84 : decode cX9_comeDown 84 = .ok (.aload_n 0, 1) := by decide +kernel
theorem dX9_comeDown_85 : decode cX9_comeDown 85 = .ok (.aload_n 0, 1) := by decide +kernel
theorem dX9_comeDown_86 : decode cX9_comeDown 86 = .ok (.getfield 157, 3) := by decide +kernel
theorem dX9_comeDown_89 : decode cX9_comeDown 89 = .ok (.putfield 154, 3) := by decide +kernel
theorem dX9_comeDown_92 : decode cX9_comeDown 92 = .ok (.return_, 1) := by decide +kernel
theorem dX9_fall_0 : decode cX9_fall 0 = .ok (.iconst 0, 1) := by decide +kernel
theorem dX9_fall_1 : decode cX9_fall 1 = .ok (.istore_n 1, 1) := by decide +kernel
theorem dX9_fall_2 : decode cX9_fall 2 = .ok (.iload_n 1, 1) := by decide +kernel
theorem dX9_fall_3 : decode cX9_fall 3 = .ok (.bipush 8, 2) := by decide +kernel
theorem dX9_fall_5 : decode cX9_fall 5 = .ok (.if_icmp .ge 41, 3) := by decide +kernel
theorem dX9_fall_8 : decode cX9_fall 8 = .ok (.aload_n 0, 1) := by decide +kernel
theorem dX9_fall_9 : decode cX9_fall 9 = .ok (.iload_n 1, 1) := by decide +kernel
theorem dX9_fall_10 : decode cX9_fall 10 = .ok (.invokevirtual 137, 3) := by decide +kernel
theorem dX9_fall_13 : decode cX9_fall 13 = .ok (.ifCond .eq 27, 3) := by decide +kernel
theorem dX9_fall_16 : decode cX9_fall 16 = .ok (.aload_n 0, 1) := by decide +kernel
theorem dX9_fall_17 : decode cX9_fall 17 = .ok (.getfield 16, 3) := by decide +kernel
theorem dX9_fall_20 : decode cX9_fall 20 = .ok (.iload_n 1, 1) := by decide +kernel
theorem dX9_fall_21 : decode cX9_fall 21 = .ok (.dup2, 1) := by decide +kernel
theorem dX9_fall_22 : decode cX9_fall 22 = .ok (.iaload, 1) := by decide +kernel
theorem dX9_fall_23 : decode cX9_fall 23 = .ok (.iconst 1, 1) := by decide +kernel
theorem dX9_fall_24 : decode cX9_fall 24 = .ok (.isub, 1) := by decide +kernel
theorem dX9_fall_25 : decode cX9_fall 25 = .ok (.iastore, 1) := by decide +kernel
theorem dX9_fall_26 : decode cX9_fall 26 = .ok (.aload_n 0, 1) := by decide +kernel
theorem dX9_fall_27 : decode cX9_fall 27 = .ok (.getfield 16, 3) := by decide +kernel
theorem dX9_fall_30 : decode cX9_fall 30 = .ok (.iload_n 1, 1) := by decide +kernel
theorem dX9_fall_31 : decode cX9_fall 31 = .ok (.iaload, 1) := by decide +kernel
theorem dX9_fall_32 : decode cX9_fall 32 = .ok (.ifCond .ne 8, 3) := by decide +kernel
theorem dX9_fall_35 : decode cX9_fall 35 = .ok (.aload_n 0, 1) := by decide +kernel
theorem dX9_fall_36 : decode cX9_fall 36 = .ok (.iload_n 1, 1) := by decide +kernel
theorem dX9_fall_37 : decode cX9_fall 37 = .ok (.invokevirtual 160, 3) := by decide +kernel
theorem dX9_fall_40 : decode cX9_fall 40 = .ok (.iinc 1 1, 3) := by decide +kernel
theorem dX9_fall_43 : decode cX9_fall 43 = .ok (.goto (-41), 3) := by decide +kernel
theorem dX9_fall_46 : decode cX9_fall 46 = .ok (.return_, 1) := by decide +kernel
theorem dX9_happen_0 : decode cX9_happen 0 = .ok (.iload_n 1, 1) := by decide +kernel
theorem dX9_happen_1 : decode cX9_happen 1 = .ok (.tableswitch 100 0 6 #[43, 43, 51, 59, 67, 74, 87], 43) := by decide +kernel
theorem dX9_happen_44 : decode cX9_happen 44 = .ok (.aload_n 0, 1) := by decide +kernel
theorem dX9_happen_45 : decode cX9_happen 45 = .ok (.iload_n 1, 1) := by decide +kernel
theorem dX9_happen_46 : decode cX9_happen 46 = .ok (.invokevirtual 164, 3) := by decide +kernel
theorem dX9_happen_49 : decode cX9_happen 49 = .ok (.goto 66, 3) := by decide +kernel
theorem dX9_happen_52 : decode cX9_happen 52 = .ok (.aload_n 0, 1) := by decide +kernel
theorem dX9_happen_53 : decode cX9_happen 53 = .ok (.iconst (-1), 1) := by decide +kernel
theorem dX9_happen_54 : decode cX9_happen 54 = .ok (.invokevirtual 167, 3) := by decide +kernel
theorem dX9_happen_57 : decode cX9_happen 57 = .ok (.goto 58, 3) := by decide +kernel
theorem dX9_happen_60 : decode cX9_happen 60 = .ok (.aload_n 0, 1) := by decide +kernel
theorem dX9_happen_61 : decode cX9_happen 61 = .ok (.iconst 1, 1) := by decide +kernel
theorem dX9_happen_62 : decode cX9_happen 62 = .ok (.invokevirtual 167, 3) := by decide +kernel
theorem dX9_happen_65 : decode cX9_happen 65 = .ok (.goto 50, 3) := by decide +kernel
theorem dX9_happen_68 : decode cX9_happen 68 = .ok (.aload_n 0, 1) := by decide +kernel
theorem dX9_happen_69 : decode cX9_happen 69 = .ok (.invokevirtual 170, 3) := by decide +kernel
theorem dX9_happen_72 : decode cX9_happen 72 = .ok (.goto 43, 3) := by decide +kernel
theorem dX9_happen_75 : decode cX9_happen 75 = .ok (.aload_n 0, 1) := by decide +kernel
theorem dX9_happen_76 : decode cX9_happen 76 = .ok (.getfield 25, 3) := by decide +kernel
theorem dX9_happen_79 : decode cX9_happen 79 = .ok (.iload_n 2, 1) := by decide +kernel
theorem dX9_happen_80 : decode cX9_happen 80 = .ok (.dup2, 1) := by decide +kernel
theorem dX9_happen_81 : decode cX9_happen 81 = .ok (.iaload, 1) := by decide +kernel
theorem dX9_happen_82 : decode cX9_happen 82 = .ok (.iconst 1, 1) := by decide +kernel
theorem dX9_happen_83 : decode cX9_happen 83 = .ok (.isub, 1) := by decide +kernel
theorem dX9_happen_84 : decode cX9_happen 84 = .ok (.iastore, 1) := by decide +kernel
theorem dX9_happen_85 : decode cX9_happen 85 = .ok (.goto 30, 3) := by decide +kernel
theorem dX9_happen_88 : decode cX9_happen 88 = .ok (.aload_n 0, 1) := by decide +kernel
theorem dX9_happen_89 : decode cX9_happen 89 = .ok (.getfield 25, 3) := by decide +kernel
theorem dX9_happen_92 : decode cX9_happen 92 = .ok (.iload_n 2, 1) := by decide +kernel
theorem dX9_happen_93 : decode cX9_happen 93 = .ok (.dup2, 1) := by decide +kernel
theorem dX9_happen_94 : decode cX9_happen 94 = .ok (.iaload, 1) := by decide +kernel
theorem dX9_happen_95 : decode cX9_happen 95 = .ok (.iconst 1, 1) := by decide +kernel
theorem dX9_happen_96 : decode cX9_happen 96 = .ok (.iadd, 1) := by decide +kernel
theorem dX9_happen_97 : decode cX9_happen 97 = .ok (.iastore, 1) := by decide +kernel
theorem dX9_happen_98 : decode cX9_happen 98 = .ok (.goto 17, 3) := by decide +kernel
theorem dX9_happen_101 : decode cX9_happen 101 = .ok (.aload_n 0, 1) := by decide +kernel
theorem dX9_happen_102 : decode cX9_happen 102 = .ok (.getfield 28, 3) := by decide +kernel
theorem dX9_happen_105 : decode cX9_happen 105 = .ok (.iload_n 2, 1) := by decide +kernel
theorem dX9_happen_106 : decode cX9_happen 106 = .ok (.iconst 1, 1) := by decide +kernel
theorem dX9_happen_107 : decode cX9_happen 107 = .ok (.aload_n 0, 1) := by decide +kernel
theorem dX9_happen_108 : decode cX9_happen 108 = .ok (.getfield 28, 3) := by decide +kernel
theorem dX9_happen_111 : decode cX9_happen 111 = .ok (.iload_n 2, 1) := by decide +kernel
theorem dX9_happen_112 : decode cX9_happen 112 = .ok (.iaload, 1) := by decide +kernel
theorem dX9_happen_113 : decode cX9_happen 113 = .ok (.isub, 1) := by decide +kernel
theorem dX9_happen_114 : decode cX9_happen 114 = .ok (.iastore, 1) := by decide +kernel
theorem dX9_happen_115 : decode cX9_happen 115 = .ok (.return_, 1) := by decide +kernel
theorem dX9_keepNow_0 : decode cX9_keepNow 0 = .ok (.iconst 0, 1) := by decide +kernel
theorem dX9_keepNow_1 : decode cX9_keepNow 1 = .ok (.istore_n 1, 1) := by decide +kernel
theorem dX9_keepNow_2 : decode cX9_keepNow 2 = .ok (.iload_n 1, 1) := by decide +kernel
theorem dX9_keepNow_3 : decode cX9_keepNow 3 = .ok (.bipush 8, 2) := by decide +kernel
theorem dX9_keepNow_5 : decode cX9_keepNow 5 = .ok (.if_icmp .ge 66, 3) := by decide +kernel
theorem dX9_keepNow_8 : decode cX9_keepNow 8 = .ok (.aload_n 0, 1) := by decide +kernel
theorem dX9_keepNow_9 : decode cX9_keepNow 9 = .ok (.getfield 49, 3) := by decide +kernel
theorem dX9_keepNow_12 : decode cX9_keepNow 12 = .ok (.iload_n 1, 1) := by decide +kernel
theorem dX9_keepNow_13 : decode cX9_keepNow 13 = .ok (.aload_n 0, 1) := by decide +kernel
theorem dX9_keepNow_14 : decode cX9_keepNow 14 = .ok (.getfield 7, 3) := by decide +kernel
theorem dX9_keepNow_17 : decode cX9_keepNow 17 = .ok (.iload_n 1, 1) := by decide +kernel
theorem dX9_keepNow_18 : decode cX9_keepNow 18 = .ok (.iaload, 1) := by decide +kernel
theorem dX9_keepNow_19 : decode cX9_keepNow 19 = .ok (.iastore, 1) := by decide +kernel
theorem dX9_keepNow_20 : decode cX9_keepNow 20 = .ok (.aload_n 0, 1) := by decide +kernel
theorem dX9_keepNow_21 : decode cX9_keepNow 21 = .ok (.getfield 49, 3) := by decide +kernel
theorem dX9_keepNow_24 : decode cX9_keepNow 24 = .ok (.bipush 8, 2) := by decide +kernel
theorem dX9_keepNow_26 : decode cX9_keepNow 26 = .ok (.iload_n 1, 1) := by decide +kernel
theorem dX9_keepNow_27 : decode cX9_keepNow 27 = .ok (.iadd, 1) := by decide +kernel
theorem dX9_keepNow_28 : decode cX9_keepNow 28 = .ok (.aload_n 0, 1) := by decide +kernel
theorem dX9_keepNow_29 : decode cX9_keepNow 29 = .ok (.getfield 13, 3) := by decide +kernel
theorem dX9_keepNow_32 : decode cX9_keepNow 32 = .ok (.iload_n 1, 1) := by decide +kernel
theorem dX9_keepNow_33 : decode cX9_keepNow 33 = .ok (.iaload, 1) := by decide +kernel
theorem dX9_keepNow_34 : decode cX9_keepNow 34 = .ok (.iastore, 1) := by decide +kernel
theorem dX9_keepNow_35 : decode cX9_keepNow 35 = .ok (.aload_n 0, 1) := by decide +kernel
theorem dX9_keepNow_36 : decode cX9_keepNow 36 = .ok (.getfield 49, 3) := by decide +kernel
theorem dX9_keepNow_39 : decode cX9_keepNow 39 = .ok (.bipush 16, 2) := by decide +kernel
theorem dX9_keepNow_41 : decode cX9_keepNow 41 = .ok (.iload_n 1, 1) := by decide +kernel
theorem dX9_keepNow_42 : decode cX9_keepNow 42 = .ok (.iadd, 1) := by decide +kernel
theorem dX9_keepNow_43 : decode cX9_keepNow 43 = .ok (.aload_n 0, 1) := by decide +kernel
theorem dX9_keepNow_44 : decode cX9_keepNow 44 = .ok (.getfield 16, 3) := by decide +kernel
theorem dX9_keepNow_47 : decode cX9_keepNow 47 = .ok (.iload_n 1, 1) := by decide +kernel
theorem dX9_keepNow_48 : decode cX9_keepNow 48 = .ok (.iaload, 1) := by decide +kernel
theorem dX9_keepNow_49 : decode cX9_keepNow 49 = .ok (.iastore, 1) := by decide +kernel
theorem dX9_keepNow_50 : decode cX9_keepNow 50 = .ok (.aload_n 0, 1) := by decide +kernel
theorem dX9_keepNow_51 : decode cX9_keepNow 51 = .ok (.getfield 49, 3) := by decide +kernel
theorem dX9_keepNow_54 : decode cX9_keepNow 54 = .ok (.bipush 24, 2) := by decide +kernel
theorem dX9_keepNow_56 : decode cX9_keepNow 56 = .ok (.iload_n 1, 1) := by decide +kernel
theorem dX9_keepNow_57 : decode cX9_keepNow 57 = .ok (.iadd, 1) := by decide +kernel
theorem dX9_keepNow_58 : decode cX9_keepNow 58 = .ok (.aload_n 0, 1) := by decide +kernel
theorem dX9_keepNow_59 : decode cX9_keepNow 59 = .ok (.getfield 22, 3) := by decide +kernel
theorem dX9_keepNow_62 : decode cX9_keepNow 62 = .ok (.iload_n 1, 1) := by decide +kernel
theorem dX9_keepNow_63 : decode cX9_keepNow 63 = .ok (.iaload, 1) := by decide +kernel
theorem dX9_keepNow_64 : decode cX9_keepNow 64 = .ok (.iastore, 1) := by decide +kernel
theorem dX9_keepNow_65 : decode cX9_keepNow 65 = .ok (.iinc 1 1, 3) := by decide +kernel
theorem dX9_keepNow_68 : decode cX9_keepNow 68 = .ok (.goto (-66), 3) := by decide +kernel
theorem dX9_keepNow_71 : decode cX9_keepNow 71 = .ok (.iconst 0, 1) := by decide +kernel
theorem dX9_keepNow_72 : decode cX9_keepNow 72 = .ok (.istore_n 1, 1) := by decide +kernel
theorem dX9_keepNow_73 : decode cX9_keepNow 73 = .ok (.iload_n 1, 1) := by decide +kernel
theorem dX9_keepNow_74 : decode cX9_keepNow 74 = .ok (.bipush 6, 2) := by decide +kernel
theorem dX9_keepNow_76 : decode cX9_keepNow 76 = .ok (.if_icmp .ge 39, 3) := by decide +kernel
theorem dX9_keepNow_79 : decode cX9_keepNow 79 = .ok (.aload_n 0, 1) := by decide +kernel
theorem dX9_keepNow_80 : decode cX9_keepNow 80 = .ok (.getfield 49, 3) := by decide +kernel
theorem dX9_keepNow_83 : decode cX9_keepNow 83 = .ok (.bipush 32, 2) := by decide +kernel
theorem dX9_keepNow_85 : decode cX9_keepNow 85 = .ok (.iload_n 1, 1) := by decide +kernel
theorem dX9_keepNow_86 : decode cX9_keepNow 86 = .ok (.iadd, 1) := by decide +kernel
theorem dX9_keepNow_87 : decode cX9_keepNow 87 = .ok (.aload_n 0, 1) := by decide +kernel
theorem dX9_keepNow_88 : decode cX9_keepNow 88 = .ok (.getfield 25, 3) := by decide +kernel
theorem dX9_keepNow_91 : decode cX9_keepNow 91 = .ok (.iload_n 1, 1) := by decide +kernel
theorem dX9_keepNow_92 : decode cX9_keepNow 92 = .ok (.iaload, 1) := by decide +kernel
theorem dX9_keepNow_93 : decode cX9_keepNow 93 = .ok (.iastore, 1) := by decide +kernel
theorem dX9_keepNow_94 : decode cX9_keepNow 94 = .ok (.aload_n 0, 1) := by decide +kernel
theorem dX9_keepNow_95 : decode cX9_keepNow 95 = .ok (.getfield 49, 3) := by decide +kernel
theorem dX9_keepNow_98 : decode cX9_keepNow 98 = .ok (.bipush 38, 2) := by decide +kernel
theorem dX9_keepNow_100 : decode cX9_keepNow 100 = .ok (.iload_n 1, 1) := by decide +kernel
theorem dX9_keepNow_101 : decode cX9_keepNow 101 = .ok (.iadd, 1) := by decide +kernel
theorem dX9_keepNow_102 : decode cX9_keepNow 102 = .ok (.aload_n 0, 1) := by decide +kernel
theorem dX9_keepNow_103 : decode cX9_keepNow 103 = .ok (.getfield 28, 3) := by decide +kernel
theorem dX9_keepNow_106 : decode cX9_keepNow 106 = .ok (.iload_n 1, 1) := by decide +kernel
theorem dX9_keepNow_107 : decode cX9_keepNow 107 = .ok (.iaload, 1) := by decide +kernel
theorem dX9_keepNow_108 : decode cX9_keepNow 108 = .ok (.iastore, 1) := by decide +kernel
theorem dX9_keepNow_109 : decode cX9_keepNow 109 = .ok (.iinc 1 1, 3) := by decide +kernel
theorem dX9_keepNow_112 : decode cX9_keepNow 112 = .ok (.goto (-39), 3) := by decide +kernel
theorem dX9_keepNow_115 : decode cX9_keepNow 115 = .ok (.return_, 1) := by decide +kernel
theorem dX9_back_0 : decode cX9_back 0 = .ok (.iconst 0, 1) := by decide +kernel
theorem dX9_back_1 : decode cX9_back 1 = .ok (.istore_n 2, 1) := by decide +kernel
theorem dX9_back_2 : decode cX9_back 2 = .ok (.iload_n 2, 1) := by decide +kernel
theorem dX9_back_3 : decode cX9_back 3 = .ok (.bipush 8, 2) := by decide +kernel
theorem dX9_back_5 : decode cX9_back 5 = .ok (.if_icmp .ge 66, 3) := by decide +kernel
theorem dX9_back_8 : decode cX9_back 8 = .ok (.aload_n 0, 1) := by decide +kernel
theorem dX9_back_9 : decode cX9_back 9 = .ok (.getfield 7, 3) := by decide +kernel
theorem dX9_back_12 : decode cX9_back 12 = .ok (.iload_n 2, 1) := by decide +kernel
theorem dX9_back_13 : decode cX9_back 13 = .ok (.aload_n 0, 1) := by decide +kernel
theorem dX9_back_14 : decode cX9_back 14 = .ok (.getfield 49, 3) := by decide +kernel
theorem dX9_back_17 : decode cX9_back 17 = .ok (.iload_n 2, 1) := by decide +kernel
theorem dX9_back_18 : decode cX9_back 18 = .ok (.iaload, 1) := by decide +kernel
theorem dX9_back_19 : decode cX9_back 19 = .ok (.iastore, 1) := by decide +kernel
theorem dX9_back_20 : decode cX9_back 20 = .ok (.aload_n 0, 1) := by decide +kernel
theorem dX9_back_21 : decode cX9_back 21 = .ok (.getfield 13, 3) := by decide +kernel
theorem dX9_back_24 : decode cX9_back 24 = .ok (.iload_n 2, 1) := by decide +kernel
theorem dX9_back_25 : decode cX9_back 25 = .ok (.aload_n 0, 1) := by decide +kernel
theorem dX9_back_26 : decode cX9_back 26 = .ok (.getfield 49, 3) := by decide +kernel
theorem dX9_back_29 : decode cX9_back 29 = .ok (.bipush 8, 2) := by decide +kernel
theorem dX9_back_31 : decode cX9_back 31 = .ok (.iload_n 2, 1) := by decide +kernel
theorem dX9_back_32 : decode cX9_back 32 = .ok (.iadd, 1) := by decide +kernel
theorem dX9_back_33 : decode cX9_back 33 = .ok (.iaload, 1) := by decide +kernel
theorem dX9_back_34 : decode cX9_back 34 = .ok (.iastore, 1) := by decide +kernel
theorem dX9_back_35 : decode cX9_back 35 = .ok (.aload_n 0, 1) := by decide +kernel
theorem dX9_back_36 : decode cX9_back 36 = .ok (.getfield 16, 3) := by decide +kernel
theorem dX9_back_39 : decode cX9_back 39 = .ok (.iload_n 2, 1) := by decide +kernel
theorem dX9_back_40 : decode cX9_back 40 = .ok (.aload_n 0, 1) := by decide +kernel
theorem dX9_back_41 : decode cX9_back 41 = .ok (.getfield 49, 3) := by decide +kernel
theorem dX9_back_44 : decode cX9_back 44 = .ok (.bipush 16, 2) := by decide +kernel
theorem dX9_back_46 : decode cX9_back 46 = .ok (.iload_n 2, 1) := by decide +kernel
theorem dX9_back_47 : decode cX9_back 47 = .ok (.iadd, 1) := by decide +kernel
theorem dX9_back_48 : decode cX9_back 48 = .ok (.iaload, 1) := by decide +kernel
theorem dX9_back_49 : decode cX9_back 49 = .ok (.iastore, 1) := by decide +kernel
theorem dX9_back_50 : decode cX9_back 50 = .ok (.aload_n 0, 1) := by decide +kernel
theorem dX9_back_51 : decode cX9_back 51 = .ok (.getfield 22, 3) := by decide +kernel
theorem dX9_back_54 : decode cX9_back 54 = .ok (.iload_n 2, 1) := by decide +kernel
theorem dX9_back_55 : decode cX9_back 55 = .ok (.aload_n 0, 1) := by decide +kernel
theorem dX9_back_56 : decode cX9_back 56 = .ok (.getfield 49, 3) := by decide +kernel
theorem dX9_back_59 : decode cX9_back 59 = .ok (.bipush 24, 2) := by decide +kernel
theorem dX9_back_61 : decode cX9_back 61 = .ok (.iload_n 2, 1) := by decide +kernel
theorem dX9_back_62 : decode cX9_back 62 = .ok (.iadd, 1) := by decide +kernel
theorem dX9_back_63 : decode cX9_back 63 = .ok (.iaload, 1) := by decide +kernel
theorem dX9_back_64 : decode cX9_back 64 = .ok (.iastore, 1) := by decide +kernel
theorem dX9_back_65 : decode cX9_back 65 = .ok (.iinc 2 1, 3) := by decide +kernel
theorem dX9_back_68 : decode cX9_back 68 = .ok (.goto (-66), 3) := by decide +kernel
theorem dX9_back_71 : decode cX9_back 71 = .ok (.iconst 0, 1) := by decide +kernel
theorem dX9_back_72 : decode cX9_back 72 = .ok (.istore_n 2, 1) := by decide +kernel
theorem dX9_back_73 : decode cX9_back 73 = .ok (.iload_n 2, 1) := by decide +kernel
theorem dX9_back_74 : decode cX9_back 74 = .ok (.bipush 6, 2) := by decide +kernel
theorem dX9_back_76 : decode cX9_back 76 = .ok (.if_icmp .ge 39, 3) := by decide +kernel
theorem dX9_back_79 : decode cX9_back 79 = .ok (.aload_n 0, 1) := by decide +kernel
theorem dX9_back_80 : decode cX9_back 80 = .ok (.getfield 25, 3) := by decide +kernel
theorem dX9_back_83 : decode cX9_back 83 = .ok (.iload_n 2, 1) := by decide +kernel
theorem dX9_back_84 : decode cX9_back 84 = .ok (.aload_n 0, 1) := by decide +kernel
theorem dX9_back_85 : decode cX9_back 85 = .ok (.getfield 49, 3) := by decide +kernel
theorem dX9_back_88 : decode cX9_back 88 = .ok (.bipush 32, 2) := by decide +kernel
theorem dX9_back_90 : decode cX9_back 90 = .ok (.iload_n 2, 1) := by decide +kernel
theorem dX9_back_91 : decode cX9_back 91 = .ok (.iadd, 1) := by decide +kernel
theorem dX9_back_92 : decode cX9_back 92 = .ok (.iaload, 1) := by decide +kernel
theorem dX9_back_93 : decode cX9_back 93 = .ok (.iastore, 1) := by decide +kernel
theorem dX9_back_94 : decode cX9_back 94 = .ok (.aload_n 0, 1) := by decide +kernel
theorem dX9_back_95 : decode cX9_back 95 = .ok (.getfield 28, 3) := by decide +kernel
theorem dX9_back_98 : decode cX9_back 98 = .ok (.iload_n 2, 1) := by decide +kernel
theorem dX9_back_99 : decode cX9_back 99 = .ok (.aload_n 0, 1) := by decide +kernel
theorem dX9_back_100 : decode cX9_back 100 = .ok (.getfield 49, 3) := by decide +kernel
theorem dX9_back_103 : decode cX9_back 103 = .ok (.bipush 38, 2) := by decide +kernel
theorem dX9_back_105 : decode cX9_back 105 = .ok (.iload_n 2, 1) := by decide +kernel
theorem dX9_back_106 : decode cX9_back 106 = .ok (.iadd, 1) := by decide +kernel
theorem dX9_back_107 : decode cX9_back 107 = .ok (.iaload, 1) := by decide +kernel
theorem dX9_back_108 : decode cX9_back 108 = .ok (.iastore, 1) := by decide +kernel
theorem dX9_back_109 : decode cX9_back 109 = .ok (.iinc 2 1, 3) := by decide +kernel
theorem dX9_back_112 : decode cX9_back 112 = .ok (.goto (-39), 3) := by decide +kernel
theorem dX9_back_115 : decode cX9_back 115 = .ok (.iload_n 1, 1) := by decide +kernel
theorem dX9_back_116 : decode cX9_back 116 = .ok (.ireturn, 1) := by decide +kernel
theorem dX9_goDays_0 : decode cX9_goDays 0 = .ok (.aload_n 0, 1) := by decide +kernel
theorem dX9_goDays_1 : decode cX9_goDays 1 = .ok (.iconst 0, 1) := by decide +kernel
theorem dX9_goDays_2 : decode cX9_goDays 2 = .ok (.putfield 151, 3) := by decide +kernel
theorem dX9_goDays_5 : decode cX9_goDays 5 = .ok (.aload_n 0, 1) := by decide +kernel
theorem dX9_goDays_6 : decode cX9_goDays 6 = .ok (.bipush (-6), 2) := by decide +kernel
theorem dX9_goDays_8 : decode cX9_goDays 8 = .ok (.putfield 154, 3) := by decide +kernel
theorem dX9_goDays_11 : decode cX9_goDays 11 = .ok (.aload_n 0, 1) := by decide +kernel
theorem dX9_goDays_12 : decode cX9_goDays 12 = .ok (.bipush (-6), 2) := by decide +kernel
theorem dX9_goDays_14 : decode cX9_goDays 14 = .ok (.putfield 173, 3) := by decide +kernel
theorem dX9_goDays_17 : decode cX9_goDays 17 = .ok (.aload_n 0, 1) := by decide +kernel
theorem dX9_goDays_18 : decode cX9_goDays 18 = .ok (.bipush (-6), 2) := by decide +kernel
theorem dX9_goDays_20 : decode cX9_goDays 20 = .ok (.putfield 176, 3) := by decide +kernel
theorem dX9_goDays_23 : decode cX9_goDays 23 = .ok (.iconst 0, 1) := by decide +kernel
theorem dX9_goDays_24 : decode cX9_goDays 24 = .ok (.istore_n 1, 1) := by decide +kernel
theorem dX9_goDays_25 : decode cX9_goDays 25 = .ok (.iload_n 1, 1) := by decide +kernel
theorem dX9_goDays_26 : decode cX9_goDays 26 = .ok (.aload_n 0, 1) := by decide +kernel
theorem dX9_goDays_27 : decode cX9_goDays 27 = .ok (.getfield 123, 3) := by decide +kernel
theorem dX9_goDays_30 : decode cX9_goDays 30 = .ok (.if_icmp .ge 86, 3) := by decide +kernel
theorem dX9_goDays_33 : decode cX9_goDays 33 = .ok (.aload_n 0, 1) := by decide +kernel
theorem dX9_goDays_34 : decode cX9_goDays 34 = .ok (.getfield 173, 3) := by decide +kernel
theorem dX9_goDays_37 : decode cX9_goDays 37 = .ok (.ifCond .ge 79, 3) := by decide +kernel
theorem dX9_goDays_40 : decode cX9_goDays 40 = .ok (.aload_n 0, 1) := by decide +kernel
theorem dX9_goDays_41 : decode cX9_goDays 41 = .ok (.iload_n 1, 1) := by decide +kernel
theorem dX9_goDays_42 : decode cX9_goDays 42 = .ok (.putfield 157, 3) := by decide +kernel
theorem dX9_goDays_45 : decode cX9_goDays 45 = .ok (.aload_n 0, 1) := by decide +kernel
theorem dX9_goDays_46 : decode cX9_goDays 46 = .ok (.aload_n 0, 1) := by decide +kernel
theorem dX9_goDays_47 : decode cX9_goDays 47 = .ok (.getfield 43, 3) := by decide +kernel
theorem dX9_goDays_50 : decode cX9_goDays 50 = .ok (.iload_n 1, 1) := by decide +kernel
theorem dX9_goDays_51 : decode cX9_goDays 51 = .ok (.iaload, 1) := by decide +kernel
theorem dX9_goDays_52 : decode cX9_goDays 52 = .ok (.aload_n 0, 1) := by decide +kernel
theorem dX9_goDays_53 : decode cX9_goDays 53 = .ok (.getfield 46, 3) := by decide +kernel
theorem dX9_goDays_56 : decode cX9_goDays 56 = .ok (.iload_n 1, 1) := by decide +kernel
theorem dX9_goDays_57 : decode cX9_goDays 57 = .ok (.iaload, 1) := by decide +kernel
theorem dX9_goDays_58 : decode cX9_goDays 58 = .ok (.invokevirtual 179, 3) := by decide +kernel
theorem dX9_goDays_61 : decode cX9_goDays 61 = .ok (.istore_n 2, 1) := by decide +kernel
theorem dX9_goDays_62 : decode cX9_goDays 62 = .ok (.aload_n 0, 1) := by decide +kernel
theorem dX9_goDays_63 : decode cX9_goDays 63 = .ok (.iload_n 2, 1) := by decide +kernel
theorem dX9_goDays_64 : decode cX9_goDays 64 = .ok (.ifCond .le 7, 3) := by decide +kernel
theorem dX9_goDays_67 : decode cX9_goDays 67 = .ok (.iload_n 1, 1) := by decide +kernel
theorem dX9_goDays_68 : decode cX9_goDays 68 = .ok (.goto 5, 3) := by decide +kernel
theorem dX9_goDays_71 : decode cX9_goDays 71 = .ok (.bipush (-6), 2) := by decide +kernel
theorem dX9_goDays_73 : decode cX9_goDays 73 = .ok (.putfield 173, 3) := by decide +kernel
theorem dX9_goDays_76 : decode cX9_goDays 76 = .ok (.aload_n 0, 1) := by decide +kernel
theorem dX9_goDays_77 : decode cX9_goDays 77 = .ok (.iload_n 2, 1) := by decide +kernel
theorem dX9_goDays_78 : decode cX9_goDays 78 = .ok (.ifCond .le 7, 3) := by decide +kernel
theorem dX9_goDays_81 : decode cX9_goDays 81 = .ok (.iload_n 2, 1) := by decide +kernel
theorem dX9_goDays_82 : decode cX9_goDays 82 = .ok (.goto 5, 3) := by decide +kernel
theorem dX9_goDays_85 : decode cX9_goDays 85 = .ok (.bipush (-6), 2) := by decide +kernel
theorem dX9_goDays_87 : decode cX9_goDays 87 = .ok (.putfield 176, 3) := by decide +kernel
theorem dX9_goDays_90 : decode cX9_goDays 90 = .ok (.iload_n 2, 1) := by decide +kernel
theorem dX9_goDays_91 : decode cX9_goDays 91 = .ok (.ifCond .ne 19, 3) := by decide +kernel
theorem dX9_goDays_94 : decode cX9_goDays 94 = .ok (.aload_n 0, 1) := by decide +kernel
theorem dX9_goDays_95 : decode cX9_goDays 95 = .ok (.aload_n 0, 1) := by decide +kernel
theorem dX9_goDays_96 : decode cX9_goDays 96 = .ok (.getfield 43, 3) := by decide +kernel
theorem dX9_goDays_99 : decode cX9_goDays 99 = .ok (.iload_n 1, 1) := by decide +kernel
theorem dX9_goDays_100 : decode cX9_goDays 100 = .ok (.iaload, 1) := by decide +kernel
theorem dX9_goDays_101 : decode cX9_goDays 101 = .ok (.aload_n 0, 1) := by decide +kernel
theorem dX9_goDays_102 : decode cX9_goDays 102 = .ok (.getfield 46, 3) := by decide +kernel
theorem dX9_goDays_105 : decode cX9_goDays 105 = .ok (.iload_n 1, 1) := by decide +kernel
theorem dX9_goDays_106 : decode cX9_goDays 106 = .ok (.iaload, 1) := by decide +kernel
theorem dX9_goDays_107 : decode cX9_goDays 107 = .ok (.invokevirtual 182, 3) := by decide +kernel
theorem dX9_goDays_110 : decode cX9_goDays 110 = .ok (.iinc 1 1, 3) := by decide +kernel
theorem dX9_goDays_113 : decode cX9_goDays 113 = .ok (.goto (-88), 3) := by decide +kernel
theorem dX9_goDays_116 : decode cX9_goDays 116 = .ok (.return_, 1) := by decide +kernel
theorem dX9_refusal_0 : decode cX9_refusal 0 = .ok (.aload_n 0, 1) := by decide +kernel
theorem dX9_refusal_1 : decode cX9_refusal 1 = .ok (.invokevirtual 185, 3) := by decide +kernel
theorem dX9_refusal_4 : decode cX9_refusal 4 = .ok (.aload_n 0, 1) := by decide +kernel
theorem dX9_refusal_5 : decode cX9_refusal 5 = .ok (.invokevirtual 188, 3) := by decide +kernel
theorem dX9_refusal_8 : decode cX9_refusal 8 = .ok (.ifCond .lt 6, 3) := by decide +kernel
theorem dX9_refusal_11 : decode cX9_refusal 11 = .ok (.bipush (-5), 2) := by decide +kernel
theorem dX9_refusal_13 : decode cX9_refusal 13 = .ok (.ireturn, 1) := by decide +kernel
theorem dX9_refusal_14 : decode cX9_refusal 14 = .ok (.aload_n 0, 1) := by decide +kernel
theorem dX9_refusal_15 : decode cX9_refusal 15 = .ok (.invokevirtual 191, 3) := by decide +kernel
theorem dX9_refusal_18 : decode cX9_refusal 18 = .ok (.aload_n 0, 1) := by decide +kernel
theorem dX9_refusal_19 : decode cX9_refusal 19 = .ok (.getfield 173, 3) := by decide +kernel
theorem dX9_refusal_22 : decode cX9_refusal 22 = .ok (.ifCond .lt 8, 3) := by decide +kernel
theorem dX9_refusal_25 : decode cX9_refusal 25 = .ok (.bipush (-3), 2) := by decide +kernel
theorem dX9_refusal_27 : decode cX9_refusal 27 = .ok (.goto 5, 3) := by decide +kernel
theorem dX9_refusal_30 : decode cX9_refusal 30 = .ok (.bipush (-6), 2) := by decide +kernel
theorem dX9_refusal_32 : decode cX9_refusal 32 = .ok (.ireturn, 1) := by decide +kernel
theorem dX9_judge_0 : decode cX9_judge 0 = .ok (.iload_n 1, 1) := by decide +kernel
theorem dX9_judge_1 : decode cX9_judge 1 = .ok (.i2l, 1) := by decide +kernel
theorem dX9_judge_2 : decode cX9_judge 2 = .ok (.lconst 0, 1) := by decide +kernel
theorem dX9_judge_3 : decode cX9_judge 3 = .ok (.ldc2_w 194, 3) := by decide +kernel
theorem dX9_judge_6 : decode cX9_judge 6 = .ok (.invokestatic 86, 3) := by decide +kernel
theorem dX9_judge_9 : decode cX9_judge 9 = .ok (.ifCond .ne 6, 3) := by decide +kernel
theorem dX9_judge_12 : decode cX9_judge 12 = .ok (.bipush (-2), 2) := by decide +kernel
theorem dX9_judge_14 : decode cX9_judge 14 = .ok (.ireturn, 1) := by decide +kernel
theorem dX9_judge_15 : decode cX9_judge 15 = .ok (.aload_n 0, 1) := by decide +kernel
theorem dX9_judge_16 : decode cX9_judge 16 = .ok (.aload_n 0, 1) := by decide +kernel
theorem dX9_judge_17 : decode cX9_judge 17 = .ok (.invokevirtual 196, 3) := by decide +kernel
theorem dX9_judge_20 : decode cX9_judge 20 = .ok (.invokevirtual 199, 3) := by decide +kernel
theorem dX9_judge_23 : decode cX9_judge 23 = .ok (.istore_n 2, 1) := by decide +kernel
theorem dX9_judge_24 : decode cX9_judge 24 = .ok (.iload_n 2, 1) := by decide +kernel
theorem dX9_judge_25 : decode cX9_judge 25 = .ok (.bipush (-5), 2) := by decide +kernel
theorem dX9_judge_27 : decode cX9_judge 27 = .ok (.if_icmp .eq 14, 3) := by decide +kernel
theorem dX9_judge_30 : decode cX9_judge 30 = .ok (.iload_n 1, 1) := by decide +kernel
theorem dX9_judge_31 : decode cX9_judge 31 = .ok (.iconst 1, 1) := by decide +kernel
theorem dX9_judge_32 : decode cX9_judge 32 = .ok (.if_icmp .le 11, 3) := by decide +kernel
theorem dX9_judge_35 : decode cX9_judge 35 = .ok (.iload_n 2, 1) := by decide +kernel
theorem dX9_judge_36 : decode cX9_judge 36 = .ok (.bipush (-3), 2) := by decide +kernel
theorem dX9_judge_38 : decode cX9_judge 38 = .ok (.if_icmp .ne 5, 3) := by decide +kernel
theorem dX9_judge_41 : decode cX9_judge 41 = .ok (.iload_n 2, 1) := by decide +kernel
theorem dX9_judge_42 : decode cX9_judge 42 = .ok (.ireturn, 1) := by decide +kernel
theorem dX9_judge_43 : decode cX9_judge 43 = .ok (.iload_n 1, 1) := by decide +kernel
theorem dX9_judge_44 : decode cX9_judge 44 = .ok (.ifCond .ne 10, 3) := by decide +kernel
theorem dX9_judge_47 : decode cX9_judge 47 = .ok (.aload_n 0, 1) := by decide +kernel
theorem dX9_judge_48 : decode cX9_judge 48 = .ok (.getfield 173, 3) := by decide +kernel
theorem dX9_judge_51 : decode cX9_judge 51 = .ok (.goto 19, 3) := by decide +kernel
theorem dX9_judge_54 : decode cX9_judge 54 = .ok (.iload_n 1, 1) := by decide +kernel
theorem dX9_judge_55 : decode cX9_judge 55 = .ok (.iconst 1, 1) := by decide +kernel
theorem dX9_judge_56 : decode cX9_judge 56 = .ok (.if_icmp .ne 10, 3) := by decide +kernel
theorem dX9_judge_59 : decode cX9_judge 59 = .ok (.aload_n 0, 1) := by decide +kernel
theorem dX9_judge_60 : decode cX9_judge 60 = .ok (.getfield 176, 3) := by decide +kernel
theorem dX9_judge_63 : decode cX9_judge 63 = .ok (.goto 7, 3) := by decide +kernel
theorem dX9_judge_66 : decode cX9_judge 66 = .ok (.aload_n 0, 1) := by decide +kernel
theorem dX9_judge_67 : decode cX9_judge 67 = .ok (.getfield 151, 3) := by decide +kernel
theorem dX9_judge_70 : decode cX9_judge 70 = .ok (.ireturn, 1) := by decide +kernel
theorem dX9_ofFlake_0 : decode cX9_ofFlake 0 = .ok (.iload_n 2, 1) := by decide +kernel
theorem dX9_ofFlake_1 : decode cX9_ofFlake 1 = .ok (.tableswitch 48 0 2 #[27, 34, 41], 27) := by decide +kernel
theorem dX9_ofFlake_28 : decode cX9_ofFlake 28 = .ok (.aload_n 0, 1) := by decide +kernel
theorem dX9_ofFlake_29 : decode cX9_ofFlake 29 = .ok (.getfield 7, 3) := by decide +kernel
theorem dX9_ofFlake_32 : decode cX9_ofFlake 32 = .ok (.iload_n 1, 1) := by decide +kernel
theorem dX9_ofFlake_33 : decode cX9_ofFlake 33 = .ok (.iaload, 1) := by decide +kernel
theorem dX9_ofFlake_34 : decode cX9_ofFlake 34 = .ok (.ireturn, 1) := by decide +kernel
theorem dX9_ofFlake_35 : decode cX9_ofFlake 35 = .ok (.aload_n 0, 1) := by decide +kernel
theorem dX9_ofFlake_36 : decode cX9_ofFlake 36 = .ok (.getfield 13, 3) := by decide +kernel
theorem dX9_ofFlake_39 : decode cX9_ofFlake 39 = .ok (.iload_n 1, 1) := by decide +kernel
theorem dX9_ofFlake_40 : decode cX9_ofFlake 40 = .ok (.iaload, 1) := by decide +kernel
theorem dX9_ofFlake_41 : decode cX9_ofFlake 41 = .ok (.ireturn, 1) := by decide +kernel
theorem dX9_ofFlake_42 : decode cX9_ofFlake 42 = .ok (.aload_n 0, 1) := by decide +kernel
theorem dX9_ofFlake_43 : decode cX9_ofFlake 43 = .ok (.getfield 16, 3) := by decide +kernel
theorem dX9_ofFlake_46 : decode cX9_ofFlake 46 = .ok (.iload_n 1, 1) := by decide +kernel
theorem dX9_ofFlake_47 : decode cX9_ofFlake 47 = .ok (.iaload, 1) := by decide +kernel
theorem dX9_ofFlake_48 : decode cX9_ofFlake 48 = .ok (.ireturn, 1) := by decide +kernel
theorem dX9_ofFlake_49 : decode cX9_ofFlake 49 = .ok (.aload_n 0, 1) := by decide +kernel
theorem dX9_ofFlake_50 : decode cX9_ofFlake 50 = .ok (.getfield 22, 3) := by decide +kernel
theorem dX9_ofFlake_53 : decode cX9_ofFlake 53 = .ok (.iload_n 1, 1) := by decide +kernel
theorem dX9_ofFlake_54 : decode cX9_ofFlake 54 = .ok (.iaload, 1) := by decide +kernel
theorem dX9_ofFlake_55 : decode cX9_ofFlake 55 = .ok (.ireturn, 1) := by decide +kernel
theorem dX9_behind_0 : decode cX9_behind 0 = .ok (.aload_n 0, 1) := by decide +kernel
theorem dX9_behind_1 : decode cX9_behind 1 = .ok (.iload_n 1, 1) := by decide +kernel
theorem dX9_behind_2 : decode cX9_behind 2 = .ok (.invokevirtual 113, 3) := by decide +kernel
theorem dX9_behind_5 : decode cX9_behind 5 = .ok (.ifCond .ne 5, 3) := by decide +kernel
theorem dX9_behind_8 : decode cX9_behind 8 = .ok (.iconst (-1), 1) := by decide +kernel
theorem dX9_behind_9 : decode cX9_behind 9 = .ok (.ireturn, 1) := by decide +kernel
theorem dX9_behind_10 : decode cX9_behind 10 = .ok (.iload_n 2, 1) := by decide +kernel
theorem dX9_behind_11 : decode cX9_behind 11 = .ok (.i2l, 1) := by decide +kernel
theorem dX9_behind_12 : decode cX9_behind 12 = .ok (.lconst 0, 1) := by decide +kernel
theorem dX9_behind_13 : decode cX9_behind 13 = .ok (.ldc2_w 202, 3) := by decide +kernel
theorem dX9_behind_16 : decode cX9_behind 16 = .ok (.invokestatic 86, 3) := by decide +kernel
theorem dX9_behind_19 : decode cX9_behind 19 = .ok (.ifCond .ne 6, 3) := by decide +kernel
theorem dX9_behind_22 : decode cX9_behind 22 = .ok (.bipush (-2), 2) := by decide +kernel
theorem dX9_behind_24 : decode cX9_behind 24 = .ok (.ireturn, 1) := by decide +kernel
theorem dX9_behind_25 : decode cX9_behind 25 = .ok (.aload_n 0, 1) := by decide +kernel
theorem dX9_behind_26 : decode cX9_behind 26 = .ok (.invokevirtual 196, 3) := by decide +kernel
theorem dX9_behind_29 : decode cX9_behind 29 = .ok (.istore_n 3, 1) := by decide +kernel
theorem dX9_behind_30 : decode cX9_behind 30 = .ok (.aload_n 0, 1) := by decide +kernel
theorem dX9_behind_31 : decode cX9_behind 31 = .ok (.iload_n 3, 1) := by decide +kernel
theorem dX9_behind_32 : decode cX9_behind 32 = .ok (.bipush (-6), 2) := by decide +kernel
theorem dX9_behind_34 : decode cX9_behind 34 = .ok (.if_icmp .eq 7, 3) := by decide +kernel
theorem dX9_behind_37 : decode cX9_behind 37 = .ok (.iload_n 3, 1) := by decide +kernel
theorem dX9_behind_38 : decode cX9_behind 38 = .ok (.goto 9, 3) := by decide +kernel
theorem dX9_behind_41 : decode cX9_behind 41 = .ok (.aload_n 0, 1) := by decide +kernel
theorem dX9_behind_42 : decode cX9_behind 42 = .ok (.iload_n 1, 1) := by decide +kernel
theorem dX9_behind_43 : decode cX9_behind 43 = .ok (.iload_n 2, 1) := by decide +kernel
theorem dX9_behind_44 : decode cX9_behind 44 = .ok (.invokevirtual 204, 3) := by decide +kernel
theorem dX9_behind_47 : decode cX9_behind 47 = .ok (.invokevirtual 199, 3) := by decide +kernel
theorem dX9_behind_50 : decode cX9_behind 50 = .ok (.ireturn, 1) := by decide +kernel
theorem dX9_flakesOf_0 : decode cX9_flakesOf 0 = .ok (.iconst 0, 1) := by decide +kernel
theorem dX9_flakesOf_1 : decode cX9_flakesOf 1 = .ok (.istore_n 2, 1) := by decide +kernel
theorem dX9_flakesOf_2 : decode cX9_flakesOf 2 = .ok (.iconst 0, 1) := by decide +kernel
theorem dX9_flakesOf_3 : decode cX9_flakesOf 3 = .ok (.istore_n 3, 1) := by decide +kernel
theorem dX9_flakesOf_4 : decode cX9_flakesOf 4 = .ok (.iload_n 3, 1) := by decide +kernel
theorem dX9_flakesOf_5 : decode cX9_flakesOf 5 = .ok (.bipush 8, 2) := by decide +kernel
theorem dX9_flakesOf_7 : decode cX9_flakesOf 7 = .ok (.if_icmp .ge 37, 3) := by decide +kernel
theorem dX9_flakesOf_10 : decode cX9_flakesOf 10 = .ok (.iload_n 2, 1) := by decide +kernel
theorem dX9_flakesOf_11 : decode cX9_flakesOf 11 = .ok (.aload_n 0, 1) := by decide +kernel
theorem dX9_flakesOf_12 : decode cX9_flakesOf 12 = .ok (.iload_n 3, 1) := by decide +kernel
theorem dX9_flakesOf_13 : decode cX9_flakesOf 13 = .ok (.invokevirtual 113, 3) := by decide +kernel
theorem dX9_flakesOf_16 : decode cX9_flakesOf 16 = .ok (.ifCond .eq 19, 3) := by decide +kernel
theorem dX9_flakesOf_19 : decode cX9_flakesOf 19 = .ok (.aload_n 0, 1) := by decide +kernel
theorem dX9_flakesOf_20 : decode cX9_flakesOf 20 = .ok (.getfield 22, 3) := by decide +kernel
theorem dX9_flakesOf_23 : decode cX9_flakesOf 23 = .ok (.iload_n 3, 1) := by decide +kernel
theorem dX9_flakesOf_24 : decode cX9_flakesOf 24 = .ok (.iaload, 1) := by decide +kernel
theorem dX9_flakesOf_25 : decode cX9_flakesOf 25 = .ok (.iload_n 1, 1) := by decide +kernel
theorem dX9_flakesOf_26 : decode cX9_flakesOf 26 = .ok (.if_icmp .ne 9, 3) := by decide +kernel
theorem dX9_flakesOf_29 : decode cX9_flakesOf 29 = .ok (.iconst 1, 1) := by decide +kernel
theorem dX9_flakesOf_30 : decode cX9_flakesOf 30 = .ok (.iload_n 3, 1) := by decide +kernel
theorem dX9_flakesOf_31 : decode cX9_flakesOf 31 = .ok (.ishl, 1) := by decide +kernel
theorem dX9_flakesOf_32 : decode cX9_flakesOf 32 = .ok (.goto 4, 3) := by decide +kernel
theorem dX9_flakesOf_35 : decode cX9_flakesOf 35 = .ok (.iconst 0, 1) := by decide +kernel
theorem dX9_flakesOf_36 : decode cX9_flakesOf 36 = .ok (.ior, 1) := by decide +kernel
theorem dX9_flakesOf_37 : decode cX9_flakesOf 37 = .ok (.istore_n 2, 1) := by decide +kernel
theorem dX9_flakesOf_38 : decode cX9_flakesOf 38 = .ok (.iinc 3 1, 3) := by decide +kernel
theorem dX9_flakesOf_41 : decode cX9_flakesOf 41 = .ok (.goto (-37), 3) := by decide +kernel
theorem dX9_flakesOf_44 : decode cX9_flakesOf 44 = .ok (.iload_n 2, 1) := by decide +kernel
theorem dX9_flakesOf_45 : decode cX9_flakesOf 45 = .ok (.ireturn, 1) := by decide +kernel
theorem dX9_stands_0 : decode cX9_stands 0 = .ok (.iload_n 1, 1) := by decide +kernel
theorem dX9_stands_1 : decode cX9_stands 1 = .ok (.invokestatic 98, 3) := by decide +kernel
theorem dX9_stands_4 : decode cX9_stands 4 = .ok (.ifCond .ne 5, 3) := by decide +kernel
theorem dX9_stands_7 : decode cX9_stands 7 = .ok (.iconst (-1), 1) := by decide +kernel
theorem dX9_stands_8 : decode cX9_stands 8 = .ok (.ireturn, 1) := by decide +kernel
theorem dX9_stands_9 : decode cX9_stands 9 = .ok (.iload_n 2, 1) := by decide +kernel
theorem dX9_stands_10 : decode cX9_stands 10 = .ok (.i2l, 1) := by decide +kernel
theorem dX9_stands_11 : decode cX9_stands 11 = .ok (.lconst 0, 1) := by decide +kernel
theorem dX9_stands_12 : decode cX9_stands 12 = .ok (.ldc2_w 194, 3) := by decide +kernel
theorem dX9_stands_15 : decode cX9_stands 15 = .ok (.invokestatic 86, 3) := by decide +kernel
theorem dX9_stands_18 : decode cX9_stands 18 = .ok (.ifCond .ne 6, 3) := by decide +kernel
theorem dX9_stands_21 : decode cX9_stands 21 = .ok (.bipush (-2), 2) := by decide +kernel
theorem dX9_stands_23 : decode cX9_stands 23 = .ok (.ireturn, 1) := by decide +kernel
theorem dX9_stands_24 : decode cX9_stands 24 = .ok (.aload_n 0, 1) := by decide +kernel
theorem dX9_stands_25 : decode cX9_stands 25 = .ok (.invokevirtual 196, 3) := by decide +kernel
theorem dX9_stands_28 : decode cX9_stands 28 = .ok (.istore_n 3, 1) := by decide +kernel
theorem dX9_stands_29 : decode cX9_stands 29 = .ok (.iload_n 2, 1) := by decide +kernel
theorem dX9_stands_30 : decode cX9_stands 30 = .ok (.ifCond .ne 12, 3) := by decide +kernel
theorem dX9_stands_33 : decode cX9_stands 33 = .ok (.aload_n 0, 1) := by decide +kernel
theorem dX9_stands_34 : decode cX9_stands 34 = .ok (.getfield 25, 3) := by decide +kernel
theorem dX9_stands_37 : decode cX9_stands 37 = .ok (.iload_n 1, 1) := by decide +kernel
theorem dX9_stands_38 : decode cX9_stands 38 = .ok (.iaload, 1) := by decide +kernel
theorem dX9_stands_39 : decode cX9_stands 39 = .ok (.goto 22, 3) := by decide +kernel
theorem dX9_stands_42 : decode cX9_stands 42 = .ok (.iload_n 2, 1) := by decide +kernel
theorem dX9_stands_43 : decode cX9_stands 43 = .ok (.iconst 1, 1) := by decide +kernel
theorem dX9_stands_44 : decode cX9_stands 44 = .ok (.if_icmp .ne 12, 3) := by decide +kernel
theorem dX9_stands_47 : decode cX9_stands 47 = .ok (.aload_n 0, 1) := by decide +kernel
theorem dX9_stands_48 : decode cX9_stands 48 = .ok (.getfield 28, 3) := by decide +kernel
theorem dX9_stands_51 : decode cX9_stands 51 = .ok (.iload_n 1, 1) := by decide +kernel
theorem dX9_stands_52 : decode cX9_stands 52 = .ok (.iaload, 1) := by decide +kernel
theorem dX9_stands_53 : decode cX9_stands 53 = .ok (.goto 8, 3) := by decide +kernel
theorem dX9_stands_56 : decode cX9_stands 56 = .ok (.aload_n 0, 1) := by decide +kernel
theorem dX9_stands_57 : decode cX9_stands 57 = .ok (.iload_n 1, 1) := by decide +kernel
theorem dX9_stands_58 : decode cX9_stands 58 = .ok (.invokevirtual 207, 3) := by decide +kernel
theorem dX9_stands_61 : decode cX9_stands 61 = .ok (.istore 4, 2) := by decide +kernel
theorem dX9_stands_63 : decode cX9_stands 63 = .ok (.aload_n 0, 1) := by decide +kernel
theorem dX9_stands_64 : decode cX9_stands 64 = .ok (.iload_n 3, 1) := by decide +kernel
theorem dX9_stands_65 : decode cX9_stands 65 = .ok (.bipush (-6), 2) := by decide +kernel
theorem dX9_stands_67 : decode cX9_stands 67 = .ok (.if_icmp .eq 7, 3) := by decide +kernel
theorem dX9_stands_70 : decode cX9_stands 70 = .ok (.iload_n 3, 1) := by decide +kernel
theorem dX9_stands_71 : decode cX9_stands 71 = .ok (.goto 5, 3) := by decide +kernel
theorem dX9_stands_74 : decode cX9_stands 74 = .ok (.iload 4, 2) := by decide +kernel
theorem dX9_stands_76 : decode cX9_stands 76 = .ok (.invokevirtual 199, 3) := by decide +kernel
theorem dX9_stands_79 : decode cX9_stands 79 = .ok (.ireturn, 1) := by decide +kernel
theorem dX9_postedNow_0 : decode cX9_postedNow 0 = .ok (.iconst 0, 1) := by decide +kernel
theorem dX9_postedNow_1 : decode cX9_postedNow 1 = .ok (.istore_n 1, 1) := by decide +kernel
theorem dX9_postedNow_2 : decode cX9_postedNow 2 = .ok (.iconst 0, 1) := by decide +kernel
theorem dX9_postedNow_3 : decode cX9_postedNow 3 = .ok (.istore_n 2, 1) := by decide +kernel
theorem dX9_postedNow_4 : decode cX9_postedNow 4 = .ok (.iload_n 2, 1) := by decide +kernel
theorem dX9_postedNow_5 : decode cX9_postedNow 5 = .ok (.bipush 8, 2) := by decide +kernel
theorem dX9_postedNow_7 : decode cX9_postedNow 7 = .ok (.if_icmp .ge 42, 3) := by decide +kernel
theorem dX9_postedNow_10 : decode cX9_postedNow 10 = .ok (.iload_n 1, 1) := by decide +kernel
theorem dX9_postedNow_11 : decode cX9_postedNow 11 = .ok (.aload_n 0, 1) := by decide +kernel
theorem dX9_postedNow_12 : decode cX9_postedNow 12 = .ok (.iload_n 2, 1) := by decide +kernel
theorem dX9_postedNow_13 : decode cX9_postedNow 13 = .ok (.invokevirtual 113, 3) := by decide +kernel
theorem dX9_postedNow_16 : decode cX9_postedNow 16 = .ok (.ifCond .eq 24, 3) := by decide +kernel
theorem dX9_postedNow_19 : decode cX9_postedNow 19 = .ok (.aload_n 0, 1) := by decide +kernel
theorem dX9_postedNow_20 : decode cX9_postedNow 20 = .ok (.getfield 22, 3) := by decide +kernel
theorem dX9_postedNow_23 : decode cX9_postedNow 23 = .ok (.iload_n 2, 1) := by decide +kernel
theorem dX9_postedNow_24 : decode cX9_postedNow 24 = .ok (.iaload, 1) := by decide +kernel
theorem dX9_postedNow_25 : decode cX9_postedNow 25 = .ok (.aload_n 0, 1) := by decide +kernel
theorem dX9_postedNow_26 : decode cX9_postedNow 26 = .ok (.getfield 19, 3) := by decide +kernel
theorem dX9_postedNow_29 : decode cX9_postedNow 29 = .ok (.iload_n 2, 1) := by decide +kernel
theorem dX9_postedNow_30 : decode cX9_postedNow 30 = .ok (.iaload, 1) := by decide +kernel
theorem dX9_postedNow_31 : decode cX9_postedNow 31 = .ok (.if_icmp .ne 9, 3) := by decide +kernel
theorem dX9_postedNow_34 : decode cX9_postedNow 34 = .ok (.iconst 1, 1) := by decide +kernel
theorem dX9_postedNow_35 : decode cX9_postedNow 35 = .ok (.iload_n 2, 1) := by decide +kernel
theorem dX9_postedNow_36 : decode cX9_postedNow 36 = .ok (.ishl, 1) := by decide +kernel
theorem dX9_postedNow_37 : decode cX9_postedNow 37 = .ok (.goto 4, 3) := by decide +kernel
theorem dX9_postedNow_40 : decode cX9_postedNow 40 = .ok (.iconst 0, 1) := by decide +kernel
theorem dX9_postedNow_41 : decode cX9_postedNow 41 = .ok (.ior, 1) := by decide +kernel
theorem dX9_postedNow_42 : decode cX9_postedNow 42 = .ok (.istore_n 1, 1) := by decide +kernel
theorem dX9_postedNow_43 : decode cX9_postedNow 43 = .ok (.iinc 2 1, 3) := by decide +kernel
theorem dX9_postedNow_46 : decode cX9_postedNow 46 = .ok (.goto (-42), 3) := by decide +kernel
theorem dX9_postedNow_49 : decode cX9_postedNow 49 = .ok (.iload_n 1, 1) := by decide +kernel
theorem dX9_postedNow_50 : decode cX9_postedNow 50 = .ok (.ireturn, 1) := by decide +kernel
theorem dX9_riverNow_0 : decode cX9_riverNow 0 = .ok (.iconst 0, 1) := by decide +kernel
theorem dX9_riverNow_1 : decode cX9_riverNow 1 = .ok (.istore_n 1, 1) := by decide +kernel
theorem dX9_riverNow_2 : decode cX9_riverNow 2 = .ok (.iconst 0, 1) := by decide +kernel
theorem dX9_riverNow_3 : decode cX9_riverNow 3 = .ok (.istore_n 2, 1) := by decide +kernel
theorem dX9_riverNow_4 : decode cX9_riverNow 4 = .ok (.iload_n 2, 1) := by decide +kernel
theorem dX9_riverNow_5 : decode cX9_riverNow 5 = .ok (.bipush 8, 2) := by decide +kernel
theorem dX9_riverNow_7 : decode cX9_riverNow 7 = .ok (.if_icmp .ge 36, 3) := by decide +kernel
theorem dX9_riverNow_10 : decode cX9_riverNow 10 = .ok (.iload_n 1, 1) := by decide +kernel
theorem dX9_riverNow_11 : decode cX9_riverNow 11 = .ok (.aload_n 0, 1) := by decide +kernel
theorem dX9_riverNow_12 : decode cX9_riverNow 12 = .ok (.iload_n 2, 1) := by decide +kernel
theorem dX9_riverNow_13 : decode cX9_riverNow 13 = .ok (.invokevirtual 113, 3) := by decide +kernel
theorem dX9_riverNow_16 : decode cX9_riverNow 16 = .ok (.ifCond .eq 18, 3) := by decide +kernel
theorem dX9_riverNow_19 : decode cX9_riverNow 19 = .ok (.aload_n 0, 1) := by decide +kernel
theorem dX9_riverNow_20 : decode cX9_riverNow 20 = .ok (.getfield 13, 3) := by decide +kernel
theorem dX9_riverNow_23 : decode cX9_riverNow 23 = .ok (.iload_n 2, 1) := by decide +kernel
theorem dX9_riverNow_24 : decode cX9_riverNow 24 = .ok (.iaload, 1) := by decide +kernel
theorem dX9_riverNow_25 : decode cX9_riverNow 25 = .ok (.ifCond .ge 9, 3) := by decide +kernel
theorem dX9_riverNow_28 : decode cX9_riverNow 28 = .ok (.iconst 1, 1) := by decide +kernel
theorem dX9_riverNow_29 : decode cX9_riverNow 29 = .ok (.iload_n 2, 1) := by decide +kernel
theorem dX9_riverNow_30 : decode cX9_riverNow 30 = .ok (.ishl, 1) := by decide +kernel
theorem dX9_riverNow_31 : decode cX9_riverNow 31 = .ok (.goto 4, 3) := by decide +kernel
theorem dX9_riverNow_34 : decode cX9_riverNow 34 = .ok (.iconst 0, 1) := by decide +kernel
theorem dX9_riverNow_35 : decode cX9_riverNow 35 = .ok (.ior, 1) := by decide +kernel
theorem dX9_riverNow_36 : decode cX9_riverNow 36 = .ok (.istore_n 1, 1) := by decide +kernel
theorem dX9_riverNow_37 : decode cX9_riverNow 37 = .ok (.iinc 2 1, 3) := by decide +kernel
theorem dX9_riverNow_40 : decode cX9_riverNow 40 = .ok (.goto (-36), 3) := by decide +kernel
theorem dX9_riverNow_43 : decode cX9_riverNow 43 = .ok (.iload_n 1, 1) := by decide +kernel
theorem dX9_riverNow_44 : decode cX9_riverNow 44 = .ok (.ireturn, 1) := by decide +kernel
theorem dX9_posted_0 : decode cX9_posted 0 = .ok (.iload_n 1, 1) := by decide +kernel
theorem dX9_posted_1 : decode cX9_posted 1 = .ok (.i2l, 1) := by decide +kernel
theorem dX9_posted_2 : decode cX9_posted 2 = .ok (.lconst 0, 1) := by decide +kernel
theorem dX9_posted_3 : decode cX9_posted 3 = .ok (.ldc2_w 194, 3) := by decide +kernel
theorem dX9_posted_6 : decode cX9_posted 6 = .ok (.invokestatic 86, 3) := by decide +kernel
theorem dX9_posted_9 : decode cX9_posted 9 = .ok (.ifCond .ne 6, 3) := by decide +kernel
theorem dX9_posted_12 : decode cX9_posted 12 = .ok (.bipush (-2), 2) := by decide +kernel
theorem dX9_posted_14 : decode cX9_posted 14 = .ok (.ireturn, 1) := by decide +kernel
theorem dX9_posted_15 : decode cX9_posted 15 = .ok (.aload_n 0, 1) := by decide +kernel
theorem dX9_posted_16 : decode cX9_posted 16 = .ok (.invokevirtual 196, 3) := by decide +kernel
theorem dX9_posted_19 : decode cX9_posted 19 = .ok (.istore_n 2, 1) := by decide +kernel
theorem dX9_posted_20 : decode cX9_posted 20 = .ok (.iload_n 1, 1) := by decide +kernel
theorem dX9_posted_21 : decode cX9_posted 21 = .ok (.ifCond .ne 10, 3) := by decide +kernel
theorem dX9_posted_24 : decode cX9_posted 24 = .ok (.aload_n 0, 1) := by decide +kernel
theorem dX9_posted_25 : decode cX9_posted 25 = .ok (.invokevirtual 210, 3) := by decide +kernel
theorem dX9_posted_28 : decode cX9_posted 28 = .ok (.goto 22, 3) := by decide +kernel
theorem dX9_posted_31 : decode cX9_posted 31 = .ok (.iload_n 1, 1) := by decide +kernel
theorem dX9_posted_32 : decode cX9_posted 32 = .ok (.iconst 1, 1) := by decide +kernel
theorem dX9_posted_33 : decode cX9_posted 33 = .ok (.if_icmp .ne 10, 3) := by decide +kernel
theorem dX9_posted_36 : decode cX9_posted 36 = .ok (.aload_n 0, 1) := by decide +kernel
theorem dX9_posted_37 : decode cX9_posted 37 = .ok (.getfield 154, 3) := by decide +kernel
theorem dX9_posted_40 : decode cX9_posted 40 = .ok (.goto 10, 3) := by decide +kernel
theorem dX9_posted_43 : decode cX9_posted 43 = .ok (.aload_n 0, 1) := by decide +kernel
theorem dX9_posted_44 : decode cX9_posted 44 = .ok (.invokevirtual 213, 3) := by decide +kernel
theorem dX9_posted_47 : decode cX9_posted 47 = .ok (.invokestatic 109, 3) := by decide +kernel
theorem dX9_posted_50 : decode cX9_posted 50 = .ok (.istore_n 3, 1) := by decide +kernel
theorem dX9_posted_51 : decode cX9_posted 51 = .ok (.aload_n 0, 1) := by decide +kernel
theorem dX9_posted_52 : decode cX9_posted 52 = .ok (.iload_n 2, 1) := by decide +kernel
theorem dX9_posted_53 : decode cX9_posted 53 = .ok (.bipush (-6), 2) := by decide +kernel
theorem dX9_posted_55 : decode cX9_posted 55 = .ok (.if_icmp .eq 7, 3) := by decide +kernel
theorem dX9_posted_58 : decode cX9_posted 58 = .ok (.iload_n 2, 1) := by decide +kernel
theorem dX9_posted_59 : decode cX9_posted 59 = .ok (.goto 4, 3) := by decide +kernel
theorem dX9_posted_62 : decode cX9_posted 62 = .ok (.iload_n 3, 1) := by decide +kernel
theorem dX9_posted_63 : decode cX9_posted 63 = .ok (.invokevirtual 199, 3) := by decide +kernel
theorem dX9_posted_66 : decode cX9_posted 66 = .ok (.ireturn, 1) := by decide +kernel
theorem dX9_done_0 : decode cX9_done 0 = .ok (.aload_n 0, 1) := by decide +kernel
theorem dX9_done_1 : decode cX9_done 1 = .ok (.invokevirtual 196, 3) := by decide +kernel
theorem dX9_done_4 : decode cX9_done 4 = .ok (.istore_n 1, 1) := by decide +kernel
theorem dX9_done_5 : decode cX9_done 5 = .ok (.iload_n 1, 1) := by decide +kernel
theorem dX9_done_6 : decode cX9_done 6 = .ok (.bipush (-6), 2) := by decide +kernel
theorem dX9_done_8 : decode cX9_done 8 = .ok (.if_icmp .eq 9, 3) := by decide +kernel
theorem dX9_done_11 : decode cX9_done 11 = .ok (.aload_n 0, 1) := by decide +kernel
theorem dX9_done_12 : decode cX9_done 12 = .ok (.iload_n 1, 1) := by decide +kernel
theorem dX9_done_13 : decode cX9_done 13 = .ok (.invokevirtual 199, 3) := by decide +kernel
theorem dX9_done_16 : decode cX9_done 16 = .ok (.ireturn, 1) := by decide +kernel
theorem dX9_done_17 : decode cX9_done 17 = .ok (.aload_n 0, 1) := by decide +kernel
theorem dX9_done_18 : decode cX9_done 18 = .ok (.iconst 0, 1) := by decide +kernel
theorem dX9_done_19 : decode cX9_done 19 = .ok (.putfield 120, 3) := by decide +kernel
theorem dX9_done_22 : decode cX9_done 22 = .ok (.aload_n 0, 1) := by decide +kernel
theorem dX9_done_23 : decode cX9_done 23 = .ok (.getfield 123, 3) := by decide +kernel
theorem dX9_done_26 : decode cX9_done 26 = .ok (.ireturn, 1) := by decide +kernel
theorem dX9_says_0 : decode cX9_says 0 = .ok (.iload_n 1, 1) := by decide +kernel
theorem dX9_says_1 : decode cX9_says 1 = .ok (.invokestatic 102, 3) := by decide +kernel
theorem dX9_says_4 : decode cX9_says 4 = .ok (.ifCond .ne 6, 3) := by decide +kernel
theorem dX9_says_7 : decode cX9_says 7 = .ok (.bipush (-2), 2) := by decide +kernel
theorem dX9_says_9 : decode cX9_says 9 = .ok (.ireturn, 1) := by decide +kernel
theorem dX9_says_10 : decode cX9_says 10 = .ok (.iconst 0, 1) := by decide +kernel
theorem dX9_says_11 : decode cX9_says 11 = .ok (.istore_n 2, 1) := by decide +kernel
theorem dX9_says_12 : decode cX9_says 12 = .ok (.iconst 0, 1) := by decide +kernel
theorem dX9_says_13 : decode cX9_says 13 = .ok (.istore_n 3, 1) := by decide +kernel
theorem dX9_says_14 : decode cX9_says 14 = .ok (.iconst 0, 1) := by decide +kernel
theorem dX9_says_15 : decode cX9_says 15 = .ok (.istore 4, 2) := by decide +kernel
theorem dX9_says_17 : decode cX9_says 17 = .ok (.iload 4, 2) := by decide +kernel
theorem dX9_says_19 : decode cX9_says 19 = .ok (.bipush 8, 2) := by decide +kernel
theorem dX9_says_21 : decode cX9_says 21 = .ok (.if_icmp .ge 70, 3) := by decide +kernel
theorem dX9_says_24 : decode cX9_says 24 = .ok (.iinc 3 1, 3) := by decide +kernel
theorem dX9_says_27 : decode cX9_says 27 = .ok (.iload 4, 2) := by decide +kernel
theorem dX9_says_29 : decode cX9_says 29 = .ok (.bipush 7, 2) := by decide +kernel
theorem dX9_says_31 : decode cX9_says 31 = .ok (.if_icmp .eq 20, 3) := by decide +kernel
theorem dX9_says_34 : decode cX9_says 34 = .ok (.iload_n 1, 1) := by decide +kernel
theorem dX9_says_35 : decode cX9_says 35 = .ok (.iload 4, 2) := by decide +kernel
theorem dX9_says_37 : decode cX9_says 37 = .ok (.ishr, 1) := by decide +kernel
theorem dX9_says_38 : decode cX9_says 38 = .ok (.iconst 1, 1) := by decide +kernel
theorem dX9_says_39 : decode cX9_says 39 = .ok (.iand, 1) := by decide +kernel
theorem dX9_says_40 : decode cX9_says 40 = .ok (.iload_n 1, 1) := by decide +kernel
theorem dX9_says_41 : decode cX9_says 41 = .ok (.iload 4, 2) := by decide +kernel
theorem dX9_says_43 : decode cX9_says 43 = .ok (.iconst 1, 1) := by decide +kernel
theorem dX9_says_44 : decode cX9_says 44 = .ok (.iadd, 1) := by decide +kernel
theorem dX9_says_45 : decode cX9_says 45 = .ok (.ishr, 1) := by decide +kernel
theorem dX9_says_46 : decode cX9_says 46 = .ok (.iconst 1, 1) := by decide +kernel
theorem dX9_says_47 : decode cX9_says 47 = .ok (.iand, 1) := by decide +kernel
theorem dX9_says_48 : decode cX9_says 48 = .ok (.if_icmp .eq 7, 3) := by decide +kernel
theorem dX9_says_51 : decode cX9_says 51 = .ok (.iconst 1, 1) := by decide +kernel
theorem dX9_says_52 : decode cX9_says 52 = .ok (.goto 4, 3) := by decide +kernel
theorem dX9_says_55 : decode cX9_says 55 = .ok (.iconst 0, 1) := by decide +kernel
theorem dX9_says_56 : decode cX9_says 56 = .ok (.istore 5, 2) := by decide +kernel
theorem dX9_says_58 : decode cX9_says 58 = .ok (.iload 5, 2) := by decide +kernel
theorem dX9_says_60 : decode cX9_says 60 = .ok (.ifCond .eq 12, 3) := by decide +kernel
theorem dX9_says_63 : decode cX9_says 63 = .ok (.bipush 10, 2) := by decide +kernel
theorem dX9_says_65 : decode cX9_says 65 = .ok (.iload_n 2, 1) := by decide +kernel
theorem dX9_says_66 : decode cX9_says 66 = .ok (.imul, 1) := by decide +kernel
theorem dX9_says_67 : decode cX9_says 67 = .ok (.iload_n 3, 1) := by decide +kernel
theorem dX9_says_68 : decode cX9_says 68 = .ok (.iadd, 1) := by decide +kernel
theorem dX9_says_69 : decode cX9_says 69 = .ok (.goto 4, 3) := by decide +kernel
theorem dX9_says_72 : decode cX9_says 72 = .ok (.iload_n 2, 1) := by decide +kernel
theorem dX9_says_73 : decode cX9_says 73 = .ok (.istore_n 2, 1) := by decide +kernel
theorem dX9_says_74 : decode cX9_says 74 = .ok (.iload 5, 2) := by decide +kernel
theorem dX9_says_76 : decode cX9_says 76 = .ok (.ifCond .eq 7, 3) := by decide +kernel
theorem dX9_says_79 : decode cX9_says 79 = .ok (.iconst 0, 1) := by decide +kernel
theorem dX9_says_80 : decode cX9_says 80 = .ok (.goto 4, 3) := by decide +kernel
theorem dX9_says_83 : decode cX9_says 83 = .ok (.iload_n 3, 1) := by decide +kernel
theorem dX9_says_84 : decode cX9_says 84 = .ok (.istore_n 3, 1) := by decide +kernel
theorem dX9_says_85 : decode cX9_says 85 = .ok (.iinc 4 1, 3) := by decide +kernel
theorem dX9_says_88 : decode cX9_says 88 = .ok (.goto (-71), 3) := by decide +kernel
theorem dX9_says_91 : decode cX9_says 91 = .ok (.iload_n 2, 1) := by decide +kernel
theorem dX9_says_92 : decode cX9_says 92 = .ok (.ireturn, 1) := by decide +kernel
theorem dX9_findWays_0 : decode cX9_findWays 0 = .ok (.iconst 0, 1) := by decide +kernel
theorem dX9_findWays_1 : decode cX9_findWays 1 = .ok (.istore_n 3, 1) := by decide +kernel
theorem dX9_findWays_2 : decode cX9_findWays 2 = .ok (.iload_n 3, 1) := by decide +kernel
theorem dX9_findWays_3 : decode cX9_findWays 3 = .ok (.sipush 256, 3) := by decide +kernel
theorem dX9_findWays_6 : decode cX9_findWays 6 = .ok (.if_icmp .ge 25, 3) := by decide +kernel
theorem dX9_findWays_9 : decode cX9_findWays 9 = .ok (.aload_n 0, 1) := by decide +kernel
theorem dX9_findWays_10 : decode cX9_findWays 10 = .ok (.getfield 52, 3) := by decide +kernel
theorem dX9_findWays_13 : decode cX9_findWays 13 = .ok (.iload_n 3, 1) := by decide +kernel
theorem dX9_findWays_14 : decode cX9_findWays 14 = .ok (.iload_n 3, 1) := by decide +kernel
theorem dX9_findWays_15 : decode cX9_findWays 15 = .ok (.iload_n 1, 1) := by decide +kernel
theorem dX9_findWays_16 : decode cX9_findWays 16 = .ok (.if_icmp .ne 7, 3) := by decide +kernel
theorem dX9_findWays_19 : decode cX9_findWays 19 = .ok (.lconst 1, 1) := by decide +kernel
theorem dX9_findWays_20 : decode cX9_findWays 20 = .ok (.goto 4, 3) := by decide +kernel
theorem dX9_findWays_23 : decode cX9_findWays 23 = .ok (.lconst 0, 1) := by decide +kernel
theorem dX9_findWays_24 : decode cX9_findWays 24 = .ok (.lastore, 1) := by decide +kernel
theorem dX9_findWays_25 : decode cX9_findWays 25 = .ok (.iinc 3 1, 3) := by decide +kernel
theorem dX9_findWays_28 : decode cX9_findWays 28 = .ok (.goto (-26), 3) := by decide +kernel
theorem dX9_findWays_31 : decode cX9_findWays 31 = .ok (.iconst 1, 1) := by decide +kernel
theorem dX9_findWays_32 : decode cX9_findWays 32 = .ok (.istore_n 3, 1) := by decide +kernel
theorem dX9_findWays_33 : decode cX9_findWays 33 = .ok (.iload_n 3, 1) := by decide +kernel
theorem dX9_findWays_34 : decode cX9_findWays 34 = .ok (.iload_n 2, 1) := by decide +kernel
theorem dX9_findWays_35 : decode cX9_findWays 35 = .ok (.if_icmp .gt 87, 3) := by decide +kernel
theorem dX9_findWays_38 : decode cX9_findWays 38 = .ok (.iconst 0, 1) := by decide +kernel
theorem dX9_findWays_39 : decode cX9_findWays 39 = .ok (.istore 4, 2) := by decide +kernel
theorem dX9_findWays_41 : decode cX9_findWays 41 = .ok (.iload 4, 2) := by decide +kernel
theorem dX9_findWays_43 : decode cX9_findWays 43 = .ok (.sipush 256, 3) := by decide +kernel
theorem dX9_findWays_46 : decode cX9_findWays 46 = .ok (.if_icmp .ge 70, 3) := by decide +kernel
theorem dX9_findWays_49 : decode cX9_findWays 49 = .ok (.sipush 256, 3) := by decide +kernel
theorem dX9_findWays_52 : decode cX9_findWays 52 = .ok (.iload_n 3, 1) := by decide +kernel
theorem dX9_findWays_53 : decode cX9_findWays 53 = .ok (.iconst 1, 1) := by decide +kernel
theorem dX9_findWays_54 : decode cX9_findWays 54 = .ok (.isub, 1) := by decide +kernel
theorem dX9_findWays_55 : decode cX9_findWays 55 = .ok (.imul, 1) := by decide +kernel
theorem dX9_findWays_56 : decode cX9_findWays 56 = .ok (.istore 5, 2) := by decide +kernel
theorem dX9_findWays_58 : decode cX9_findWays 58 = .ok (.aload_n 0, 1) := by decide +kernel
theorem dX9_findWays_59 : decode cX9_findWays 59 = .ok (.getfield 52, 3) := by decide +kernel
theorem dX9_findWays_62 : decode cX9_findWays 62 = .ok (.sipush 256, 3) := by decide +kernel
theorem dX9_findWays_65 : decode cX9_findWays 65 = .ok (.iload_n 3, 1) := by decide +kernel
theorem dX9_findWays_66 : decode cX9_findWays 66 = .ok (.imul, 1) := by decide +kernel
theorem dX9_findWays_67 : decode cX9_findWays 67 = .ok (.iload 4, 2) := by decide +kernel
theorem dX9_findWays_69 : decode cX9_findWays 69 = .ok (.iadd, 1) := by decide +kernel
theorem dX9_findWays_70 : decode cX9_findWays 70 = .ok (.aload_n 0, 1) := by decide +kernel
theorem dX9_findWays_71 : decode cX9_findWays 71 = .ok (.getfield 52, 3) := by decide +kernel
theorem dX9_findWays_74 : decode cX9_findWays 74 = .ok (.iload 5, 2) := by decide +kernel
theorem dX9_findWays_76 : decode cX9_findWays 76 = .ok (.iload 4, 2) := by decide +kernel
theorem dX9_findWays_78 : decode cX9_findWays 78 = .ok (.aload_n 0, 1) := by decide +kernel
theorem dX9_findWays_79 : decode cX9_findWays 79 = .ok (.getfield 31, 3) := by decide +kernel
theorem dX9_findWays_82 : decode cX9_findWays 82 = .ok (.iconst 0, 1) := by decide +kernel
theorem dX9_findWays_83 : decode cX9_findWays 83 = .ok (.iaload, 1) := by decide +kernel
theorem dX9_findWays_84 : decode cX9_findWays 84 = .ok (.invokestatic 144, 3) := by decide +kernel
theorem dX9_findWays_87 : decode cX9_findWays 87 = .ok (.iadd, 1) := by decide +kernel
theorem dX9_findWays_88 : decode cX9_findWays 88 = .ok (.laload, 1) := by decide +kernel
theorem dX9_findWays_89 : decode cX9_findWays 89 = .ok (.aload_n 0, 1) := by decide +kernel
theorem dX9_findWays_90 : decode cX9_findWays 90 = .ok (.getfield 52, 3) := by decide +kernel
theorem dX9_findWays_93 : decode cX9_findWays 93 = .ok (.iload 5, 2) := by decide +kernel
theorem dX9_findWays_95 : decode cX9_findWays 95 = .ok (.iload 4, 2) := by decide +kernel
theorem dX9_findWays_97 : decode cX9_findWays 97 = .ok (.aload_n 0, 1) := by decide +kernel
theorem dX9_findWays_98 : decode cX9_findWays 98 = .ok (.getfield 31, 3) := by decide +kernel
theorem dX9_findWays_101 : decode cX9_findWays 101 = .ok (.iconst 1, 1) := by decide +kernel
theorem dX9_findWays_102 : decode cX9_findWays 102 = .ok (.iaload, 1) := by decide +kernel
theorem dX9_findWays_103 : decode cX9_findWays 103 = .ok (.invokestatic 144, 3) := by decide +kernel
theorem dX9_findWays_106 : decode cX9_findWays 106 = .ok (.iadd, 1) := by decide +kernel
theorem dX9_findWays_107 : decode cX9_findWays 107 = .ok (.laload, 1) := by decide +kernel
theorem dX9_findWays_108 : decode cX9_findWays 108 = .ok (.ladd, 1) := by decide +kernel
theorem dX9_findWays_109 : decode cX9_findWays 109 = .ok (.lastore, 1) := by decide +kernel
theorem dX9_findWays_110 : decode cX9_findWays 110 = .ok (.iinc 4 1, 3) := by decide +kernel
theorem dX9_findWays_113 : decode cX9_findWays 113 = .ok (.goto (-72), 3) := by decide +kernel
theorem dX9_findWays_116 : decode cX9_findWays 116 = .ok (.iinc 3 1, 3) := by decide +kernel
theorem dX9_findWays_119 : decode cX9_findWays 119 = .ok (.goto (-86), 3) := by decide +kernel
theorem dX9_findWays_122 : decode cX9_findWays 122 = .ok (.return_, 1) := by decide +kernel
theorem dX9_firstAirs_0 : decode cX9_firstAirs 0 = .ok (.lconst 0, 1) := by decide +kernel
theorem dX9_firstAirs_1 : decode cX9_firstAirs 1 = .ok (.lstore_n 3, 1) := by decide +kernel
theorem dX9_firstAirs_2 : decode cX9_firstAirs 2 = .ok (.iload_n 1, 1) := by decide +kernel
theorem dX9_firstAirs_3 : decode cX9_firstAirs 3 = .ok (.istore 5, 2) := by decide +kernel
theorem dX9_firstAirs_5 : decode cX9_firstAirs 5 = .ok (.iload_n 2, 1) := by decide +kernel
theorem dX9_firstAirs_6 : decode cX9_firstAirs 6 = .ok (.istore 6, 2) := by decide +kernel
theorem dX9_firstAirs_8 : decode cX9_firstAirs 8 = .ok (.iload 6, 2) := by decide +kernel
theorem dX9_firstAirs_10 : decode cX9_firstAirs 10 = .ok (.ifCond .le 91, 3) := by decide +kernel
theorem dX9_firstAirs_13 : decode cX9_firstAirs 13 = .ok (.iload 5, 2) := by decide +kernel
theorem dX9_firstAirs_15 : decode cX9_firstAirs 15 = .ok (.aload_n 0, 1) := by decide +kernel
theorem dX9_firstAirs_16 : decode cX9_firstAirs 16 = .ok (.getfield 31, 3) := by decide +kernel
theorem dX9_firstAirs_19 : decode cX9_firstAirs 19 = .ok (.iconst 0, 1) := by decide +kernel
theorem dX9_firstAirs_20 : decode cX9_firstAirs 20 = .ok (.iaload, 1) := by decide +kernel
theorem dX9_firstAirs_21 : decode cX9_firstAirs 21 = .ok (.invokestatic 144, 3) := by decide +kernel
theorem dX9_firstAirs_24 : decode cX9_firstAirs 24 = .ok (.istore 7, 2) := by decide +kernel
theorem dX9_firstAirs_26 : decode cX9_firstAirs 26 = .ok (.aload_n 0, 1) := by decide +kernel
theorem dX9_firstAirs_27 : decode cX9_firstAirs 27 = .ok (.getfield 52, 3) := by decide +kernel
theorem dX9_firstAirs_30 : decode cX9_firstAirs 30 = .ok (.sipush 256, 3) := by decide +kernel
theorem dX9_firstAirs_33 : decode cX9_firstAirs 33 = .ok (.iload 6, 2) := by decide +kernel
theorem dX9_firstAirs_35 : decode cX9_firstAirs 35 = .ok (.iconst 1, 1) := by decide +kernel
theorem dX9_firstAirs_36 : decode cX9_firstAirs 36 = .ok (.isub, 1) := by decide +kernel
theorem dX9_firstAirs_37 : decode cX9_firstAirs 37 = .ok (.imul, 1) := by decide +kernel
theorem dX9_firstAirs_38 : decode cX9_firstAirs 38 = .ok (.iload 7, 2) := by decide +kernel
theorem dX9_firstAirs_40 : decode cX9_firstAirs 40 = .ok (.iadd, 1) := by decide +kernel
theorem dX9_firstAirs_41 : decode cX9_firstAirs 41 = .ok (.laload, 1) := by decide +kernel
theorem dX9_firstAirs_42 : decode cX9_firstAirs 42 = .ok (.lconst 0, 1) := by decide +kernel
theorem dX9_firstAirs_43 : decode cX9_firstAirs 43 = .ok (.lcmp, 1) := by decide +kernel
theorem dX9_firstAirs_44 : decode cX9_firstAirs 44 = .ok (.ifCond .le 7, 3) := by decide +kernel
theorem dX9_firstAirs_47 : decode cX9_firstAirs 47 = .ok (.iconst 1, 1) := by decide +kernel
theorem dX9_firstAirs_48 : decode cX9_firstAirs 48 = .ok (.goto 4, 3) := by decide +kernel
theorem dX9_firstAirs_51 : decode cX9_firstAirs 51 = .ok (.iconst 0, 1) := by decide +kernel
theorem dX9_firstAirs_52 : decode cX9_firstAirs 52 = .ok (.istore 8, 2) := by decide +kernel
theorem dX9_firstAirs_54 : decode cX9_firstAirs 54 = .ok (.ldc2_w 216, 3) := by decide +kernel
theorem dX9_firstAirs_57 : decode cX9_firstAirs 57 = .ok (.lload_n 3, 1) := by decide +kernel
theorem dX9_firstAirs_58 : decode cX9_firstAirs 58 = .ok (.lmul, 1) := by decide +kernel
theorem dX9_firstAirs_59 : decode cX9_firstAirs 59 = .ok (.iload 8, 2) := by decide +kernel
theorem dX9_firstAirs_61 : decode cX9_firstAirs 61 = .ok (.ifCond .eq 7, 3) := by decide +kernel
theorem dX9_firstAirs_64 : decode cX9_firstAirs 64 = .ok (.iconst 1, 1) := by decide +kernel
theorem dX9_firstAirs_65 : decode cX9_firstAirs 65 = .ok (.goto 4, 3) := by decide +kernel
theorem dX9_firstAirs_68 : decode cX9_firstAirs 68 = .ok (.iconst 2, 1) := by decide +kernel
theorem dX9_firstAirs_69 : decode cX9_firstAirs 69 = .ok (.i2l, 1) := by decide +kernel
theorem dX9_firstAirs_70 : decode cX9_firstAirs 70 = .ok (.ladd, 1) := by decide +kernel
theorem dX9_firstAirs_71 : decode cX9_firstAirs 71 = .ok (.lstore_n 3, 1) := by decide +kernel
theorem dX9_firstAirs_72 : decode cX9_firstAirs 72 = .ok (.iload 8, 2) := by decide +kernel
theorem dX9_firstAirs_74 : decode cX9_firstAirs 74 = .ok (.ifCond .eq 8, 3) := by decide +kernel
theorem dX9_firstAirs_77 : decode cX9_firstAirs 77 = .ok (.iload 7, 2) := by decide +kernel
theorem dX9_firstAirs_79 : decode cX9_firstAirs 79 = .ok (.goto 14, 3) := by decide +kernel
theorem dX9_firstAirs_82 : decode cX9_firstAirs 82 = .ok (.iload 5, 2) := by decide +kernel
theorem dX9_firstAirs_84 : decode cX9_firstAirs 84 = .ok (.aload_n 0, 1) := by decide +kernel
theorem dX9_firstAirs_85 : decode cX9_firstAirs 85 = .ok (.getfield 31, 3) := by decide +kernel
theorem dX9_firstAirs_88 : decode cX9_firstAirs 88 = .ok (.iconst 1, 1) := by decide +kernel
theorem dX9_firstAirs_89 : decode cX9_firstAirs 89 = .ok (.iaload, 1) := by decide +kernel
theorem dX9_firstAirs_90 : decode cX9_firstAirs 90 = .ok (.invokestatic 144, 3) := by decide +kernel
theorem dX9_firstAirs_93 : decode cX9_firstAirs 93 = .ok (.istore 5, 2) := by decide +kernel
theorem dX9_firstAirs_95 : decode cX9_firstAirs 95 = .ok (.iinc 6 (-1), 3) := by decide +kernel
theorem dX9_firstAirs_98 : decode cX9_firstAirs 98 = .ok (.goto (-90), 3) := by decide +kernel
theorem dX9_firstAirs_101 : decode cX9_firstAirs 101 = .ok (.lload_n 3, 1) := by decide +kernel
theorem dX9_firstAirs_102 : decode cX9_firstAirs 102 = .ok (.lreturn, 1) := by decide +kernel
theorem dX9_grew_0 : decode cX9_grew 0 = .ok (.iload_n 1, 1) := by decide +kernel
theorem dX9_grew_1 : decode cX9_grew 1 = .ok (.invokestatic 102, 3) := by decide +kernel
theorem dX9_grew_4 : decode cX9_grew 4 = .ok (.ifCond .eq 33, 3) := by decide +kernel
theorem dX9_grew_7 : decode cX9_grew 7 = .ok (.iload_n 2, 1) := by decide +kernel
theorem dX9_grew_8 : decode cX9_grew 8 = .ok (.invokestatic 102, 3) := by decide +kernel
theorem dX9_grew_11 : decode cX9_grew 11 = .ok (.ifCond .eq 26, 3) := by decide +kernel
theorem dX9_grew_14 : decode cX9_grew 14 = .ok (.iload_n 3, 1) := by decide +kernel
theorem dX9_grew_15 : decode cX9_grew 15 = .ok (.i2l, 1) := by decide +kernel
theorem dX9_grew_16 : decode cX9_grew 16 = .ok (.lconst 0, 1) := by decide +kernel
theorem dX9_grew_17 : decode cX9_grew 17 = .ok (.ldc2_w 216, 3) := by decide +kernel
theorem dX9_grew_20 : decode cX9_grew 20 = .ok (.invokestatic 86, 3) := by decide +kernel
theorem dX9_grew_23 : decode cX9_grew 23 = .ok (.ifCond .eq 14, 3) := by decide +kernel
theorem dX9_grew_26 : decode cX9_grew 26 = .ok (.iload 4, 2) := by decide +kernel
theorem dX9_grew_28 : decode cX9_grew 28 = .ok (.i2l, 1) := by decide +kernel
theorem dX9_grew_29 : decode cX9_grew 29 = .ok (.lconst 0, 1) := by decide +kernel
theorem dX9_grew_30 : decode cX9_grew 30 = .ok (.lconst 1, 1) := by decide +kernel
theorem dX9_grew_31 : decode cX9_grew 31 = .ok (.invokestatic 86, 3) := by decide +kernel
theorem dX9_grew_34 : decode cX9_grew 34 = .ok (.ifCond .ne 7, 3) := by decide +kernel
theorem dX9_grew_37 : decode cX9_grew 37 = .ok (.ldc2_w 218, 3) := by decide +kernel
theorem dX9_grew_40 : decode cX9_grew 40 = .ok (.lreturn, 1) := by decide +kernel
theorem dX9_grew_41 : decode cX9_grew 41 = .ok (.aload_n 0, 1) := by decide +kernel
theorem dX9_grew_42 : decode cX9_grew 42 = .ok (.iload_n 2, 1) := by decide +kernel
theorem dX9_grew_43 : decode cX9_grew 43 = .ok (.iload_n 3, 1) := by decide +kernel
theorem dX9_grew_44 : decode cX9_grew 44 = .ok (.invokevirtual 220, 3) := by decide +kernel
theorem dX9_grew_47 : decode cX9_grew 47 = .ok (.aload_n 0, 1) := by decide +kernel
theorem dX9_grew_48 : decode cX9_grew 48 = .ok (.getfield 52, 3) := by decide +kernel
theorem dX9_grew_51 : decode cX9_grew 51 = .ok (.sipush 256, 3) := by decide +kernel
theorem dX9_grew_54 : decode cX9_grew 54 = .ok (.iload_n 3, 1) := by decide +kernel
theorem dX9_grew_55 : decode cX9_grew 55 = .ok (.imul, 1) := by decide +kernel
theorem dX9_grew_56 : decode cX9_grew 56 = .ok (.iload_n 1, 1) := by decide +kernel
theorem dX9_grew_57 : decode cX9_grew 57 = .ok (.iadd, 1) := by decide +kernel
theorem dX9_grew_58 : decode cX9_grew 58 = .ok (.laload, 1) := by decide +kernel
theorem dX9_grew_59 : decode cX9_grew 59 = .ok (.lstore 5, 2) := by decide +kernel
theorem dX9_grew_61 : decode cX9_grew 61 = .ok (.iload 4, 2) := by decide +kernel
theorem dX9_grew_63 : decode cX9_grew 63 = .ok (.ifCond .ne 8, 3) := by decide +kernel
theorem dX9_grew_66 : decode cX9_grew 66 = .ok (.lload 5, 2) := by decide +kernel
theorem dX9_grew_68 : decode cX9_grew 68 = .ok (.goto 22, 3) := by decide +kernel
theorem dX9_grew_71 : decode cX9_grew 71 = .ok (.lload 5, 2) := by decide +kernel
theorem dX9_grew_73 : decode cX9_grew 73 = .ok (.lconst 0, 1) := by decide +kernel
theorem dX9_grew_74 : decode cX9_grew 74 = .ok (.lcmp, 1) := by decide +kernel
theorem dX9_grew_75 : decode cX9_grew 75 = .ok (.ifCond .ne 9, 3) := by decide +kernel
theorem dX9_grew_78 : decode cX9_grew 78 = .ok (.ldc2_w 223, 3) := by decide +kernel
theorem dX9_grew_81 : decode cX9_grew 81 = .ok (.goto 9, 3) := by decide +kernel
theorem dX9_grew_84 : decode cX9_grew 84 = .ok (.aload_n 0, 1) := by decide +kernel
theorem dX9_grew_85 : decode cX9_grew 85 = .ok (.iload_n 1, 1) := by decide +kernel
theorem dX9_grew_86 : decode cX9_grew 86 = .ok (.iload_n 3, 1) := by decide +kernel
theorem dX9_grew_87 : decode cX9_grew 87 = .ok (.invokevirtual 225, 3) := by decide +kernel
theorem dX9_grew_90 : decode cX9_grew 90 = .ok (.lreturn, 1) := by decide +kernel
theorem dX9_findOff_0 : decode cX9_findOff 0 = .ok (.iconst 0, 1) := by decide +kernel
theorem dX9_findOff_1 : decode cX9_findOff 1 = .ok (.istore_n 2, 1) := by decide +kernel
theorem dX9_findOff_2 : decode cX9_findOff 2 = .ok (.iconst 0, 1) := by decide +kernel
theorem dX9_findOff_3 : decode cX9_findOff 3 = .ok (.istore_n 3, 1) := by decide +kernel
theorem dX9_findOff_4 : decode cX9_findOff 4 = .ok (.iload_n 3, 1) := by decide +kernel
theorem dX9_findOff_5 : decode cX9_findOff 5 = .ok (.sipush 256, 3) := by decide +kernel
theorem dX9_findOff_8 : decode cX9_findOff 8 = .ok (.if_icmp .ge 101, 3) := by decide +kernel
theorem dX9_findOff_11 : decode cX9_findOff 11 = .ok (.aload_n 0, 1) := by decide +kernel
theorem dX9_findOff_12 : decode cX9_findOff 12 = .ok (.getfield 56, 3) := by decide +kernel
theorem dX9_findOff_15 : decode cX9_findOff 15 = .ok (.iload_n 3, 1) := by decide +kernel
theorem dX9_findOff_16 : decode cX9_findOff 16 = .ok (.iaload, 1) := by decide +kernel
theorem dX9_findOff_17 : decode cX9_findOff 17 = .ok (.ifCond .ge 45, 3) := by decide +kernel
theorem dX9_findOff_20 : decode cX9_findOff 20 = .ok (.aload_n 0, 1) := by decide +kernel
theorem dX9_findOff_21 : decode cX9_findOff 21 = .ok (.getfield 56, 3) := by decide +kernel
theorem dX9_findOff_24 : decode cX9_findOff 24 = .ok (.iload_n 3, 1) := by decide +kernel
theorem dX9_findOff_25 : decode cX9_findOff 25 = .ok (.aload_n 0, 1) := by decide +kernel
theorem dX9_findOff_26 : decode cX9_findOff 26 = .ok (.getfield 31, 3) := by decide +kernel
theorem dX9_findOff_29 : decode cX9_findOff 29 = .ok (.iconst 0, 1) := by decide +kernel
theorem dX9_findOff_30 : decode cX9_findOff 30 = .ok (.iaload, 1) := by decide +kernel
theorem dX9_findOff_31 : decode cX9_findOff 31 = .ok (.invokestatic 144, 3) := by decide +kernel
theorem dX9_findOff_34 : decode cX9_findOff 34 = .ok (.iaload, 1) := by decide +kernel
theorem dX9_findOff_35 : decode cX9_findOff 35 = .ok (.iload_n 1, 1) := by decide +kernel
theorem dX9_findOff_36 : decode cX9_findOff 36 = .ok (.if_icmp .eq 22, 3) := by decide +kernel
theorem dX9_findOff_39 : decode cX9_findOff 39 = .ok (.aload_n 0, 1) := by decide +kernel
theorem dX9_findOff_40 : decode cX9_findOff 40 = .ok (.getfield 56, 3) := by decide +kernel
theorem dX9_findOff_43 : decode cX9_findOff 43 = .ok (.iload_n 3, 1) := by decide +kernel
theorem dX9_findOff_44 : decode cX9_findOff 44 = .ok (.aload_n 0, 1) := by decide +kernel
theorem dX9_findOff_45 : decode cX9_findOff 45 = .ok (.getfield 31, 3) := by decide +kernel
theorem dX9_findOff_48 : decode cX9_findOff 48 = .ok (.iconst 1, 1) := by decide +kernel
theorem dX9_findOff_49 : decode cX9_findOff 49 = .ok (.iaload, 1) := by decide +kernel
theorem dX9_findOff_50 : decode cX9_findOff 50 = .ok (.invokestatic 144, 3) := by decide +kernel
theorem dX9_findOff_53 : decode cX9_findOff 53 = .ok (.iaload, 1) := by decide +kernel
theorem dX9_findOff_54 : decode cX9_findOff 54 = .ok (.iload_n 1, 1) := by decide +kernel
theorem dX9_findOff_55 : decode cX9_findOff 55 = .ok (.if_icmp .ne 7, 3) := by decide +kernel
theorem dX9_findOff_58 : decode cX9_findOff 58 = .ok (.iconst 1, 1) := by decide +kernel
theorem dX9_findOff_59 : decode cX9_findOff 59 = .ok (.goto 4, 3) := by decide +kernel
theorem dX9_findOff_62 : decode cX9_findOff 62 = .ok (.iconst 0, 1) := by decide +kernel
theorem dX9_findOff_63 : decode cX9_findOff 63 = .ok (.istore 4, 2) := by decide +kernel
theorem dX9_findOff_65 : decode cX9_findOff 65 = .ok (.aload_n 0, 1) := by decide +kernel
theorem dX9_findOff_66 : decode cX9_findOff 66 = .ok (.getfield 56, 3) := by decide +kernel
theorem dX9_findOff_69 : decode cX9_findOff 69 = .ok (.iload_n 3, 1) := by decide +kernel
theorem dX9_findOff_70 : decode cX9_findOff 70 = .ok (.iload 4, 2) := by decide +kernel
theorem dX9_findOff_72 : decode cX9_findOff 72 = .ok (.ifCond .eq 9, 3) := by decide +kernel
theorem dX9_findOff_75 : decode cX9_findOff 75 = .ok (.iload_n 1, 1) := by decide +kernel
theorem dX9_findOff_76 : decode cX9_findOff 76 = .ok (.iconst 1, 1) := by decide +kernel
theorem dX9_findOff_77 : decode cX9_findOff 77 = .ok (.iadd, 1) := by decide +kernel
theorem dX9_findOff_78 : decode cX9_findOff 78 = .ok (.goto 9, 3) := by decide +kernel
theorem dX9_findOff_81 : decode cX9_findOff 81 = .ok (.aload_n 0, 1) := by decide +kernel
theorem dX9_findOff_82 : decode cX9_findOff 82 = .ok (.getfield 56, 3) := by decide +kernel
theorem dX9_findOff_85 : decode cX9_findOff 85 = .ok (.iload_n 3, 1) := by decide +kernel
theorem dX9_findOff_86 : decode cX9_findOff 86 = .ok (.iaload, 1) := by decide +kernel
theorem dX9_findOff_87 : decode cX9_findOff 87 = .ok (.iastore, 1) := by decide +kernel
theorem dX9_findOff_88 : decode cX9_findOff 88 = .ok (.iload_n 2, 1) := by decide +kernel
theorem dX9_findOff_89 : decode cX9_findOff 89 = .ok (.ifCond .ne 8, 3) := by decide +kernel
theorem dX9_findOff_92 : decode cX9_findOff 92 = .ok (.iload 4, 2) := by decide +kernel
theorem dX9_findOff_94 : decode cX9_findOff 94 = .ok (.ifCond .eq 7, 3) := by decide +kernel
theorem dX9_findOff_97 : decode cX9_findOff 97 = .ok (.iconst 1, 1) := by decide +kernel
theorem dX9_findOff_98 : decode cX9_findOff 98 = .ok (.goto 4, 3) := by decide +kernel
theorem dX9_findOff_101 : decode cX9_findOff 101 = .ok (.iconst 0, 1) := by decide +kernel
theorem dX9_findOff_102 : decode cX9_findOff 102 = .ok (.istore_n 2, 1) := by decide +kernel
theorem dX9_findOff_103 : decode cX9_findOff 103 = .ok (.iinc 3 1, 3) := by decide +kernel
theorem dX9_findOff_106 : decode cX9_findOff 106 = .ok (.goto (-102), 3) := by decide +kernel
theorem dX9_findOff_109 : decode cX9_findOff 109 = .ok (.iload_n 2, 1) := by decide +kernel
theorem dX9_findOff_110 : decode cX9_findOff 110 = .ok (.ireturn, 1) := by decide +kernel
theorem dX9_soon_0 : decode cX9_soon 0 = .ok (.iload_n 1, 1) := by decide +kernel
theorem dX9_soon_1 : decode cX9_soon 1 = .ok (.invokestatic 102, 3) := by decide +kernel
theorem dX9_soon_4 : decode cX9_soon 4 = .ok (.ifCond .eq 10, 3) := by decide +kernel
theorem dX9_soon_7 : decode cX9_soon 7 = .ok (.iload_n 2, 1) := by decide +kernel
theorem dX9_soon_8 : decode cX9_soon 8 = .ok (.invokestatic 102, 3) := by decide +kernel
theorem dX9_soon_11 : decode cX9_soon 11 = .ok (.ifCond .ne 6, 3) := by decide +kernel
theorem dX9_soon_14 : decode cX9_soon 14 = .ok (.bipush (-2), 2) := by decide +kernel
theorem dX9_soon_16 : decode cX9_soon 16 = .ok (.ireturn, 1) := by decide +kernel
theorem dX9_soon_17 : decode cX9_soon 17 = .ok (.iconst 0, 1) := by decide +kernel
theorem dX9_soon_18 : decode cX9_soon 18 = .ok (.istore_n 3, 1) := by decide +kernel
theorem dX9_soon_19 : decode cX9_soon 19 = .ok (.iload_n 3, 1) := by decide +kernel
theorem dX9_soon_20 : decode cX9_soon 20 = .ok (.sipush 256, 3) := by decide +kernel
theorem dX9_soon_23 : decode cX9_soon 23 = .ok (.if_icmp .ge 26, 3) := by decide +kernel
theorem dX9_soon_26 : decode cX9_soon 26 = .ok (.aload_n 0, 1) := by decide +kernel
theorem dX9_soon_27 : decode cX9_soon 27 = .ok (.getfield 56, 3) := by decide +kernel
theorem dX9_soon_30 : decode cX9_soon 30 = .ok (.iload_n 3, 1) := by decide +kernel
theorem dX9_soon_31 : decode cX9_soon 31 = .ok (.iload_n 3, 1) := by decide +kernel
theorem dX9_soon_32 : decode cX9_soon 32 = .ok (.iload_n 2, 1) := by decide +kernel
theorem dX9_soon_33 : decode cX9_soon 33 = .ok (.if_icmp .ne 7, 3) := by decide +kernel
theorem dX9_soon_36 : decode cX9_soon 36 = .ok (.iconst 0, 1) := by decide +kernel
theorem dX9_soon_37 : decode cX9_soon 37 = .ok (.goto 5, 3) := by decide +kernel
theorem dX9_soon_40 : decode cX9_soon 40 = .ok (.bipush (-6), 2) := by decide +kernel
theorem dX9_soon_42 : decode cX9_soon 42 = .ok (.iastore, 1) := by decide +kernel
theorem dX9_soon_43 : decode cX9_soon 43 = .ok (.iinc 3 1, 3) := by decide +kernel
theorem dX9_soon_46 : decode cX9_soon 46 = .ok (.goto (-27), 3) := by decide +kernel
theorem dX9_soon_49 : decode cX9_soon 49 = .ok (.iconst 0, 1) := by decide +kernel
theorem dX9_soon_50 : decode cX9_soon 50 = .ok (.istore_n 3, 1) := by decide +kernel
theorem dX9_soon_51 : decode cX9_soon 51 = .ok (.aload_n 0, 1) := by decide +kernel
theorem dX9_soon_52 : decode cX9_soon 52 = .ok (.iload_n 3, 1) := by decide +kernel
theorem dX9_soon_53 : decode cX9_soon 53 = .ok (.invokevirtual 229, 3) := by decide +kernel
theorem dX9_soon_56 : decode cX9_soon 56 = .ok (.ifCond .eq 9, 3) := by decide +kernel
theorem dX9_soon_59 : decode cX9_soon 59 = .ok (.iinc 3 1, 3) := by decide +kernel
theorem dX9_soon_62 : decode cX9_soon 62 = .ok (.goto (-11), 3) := by decide +kernel
theorem dX9_soon_65 : decode cX9_soon 65 = .ok (.aload_n 0, 1) := by decide +kernel
theorem dX9_soon_66 : decode cX9_soon 66 = .ok (.getfield 56, 3) := by decide +kernel
theorem dX9_soon_69 : decode cX9_soon 69 = .ok (.iload_n 1, 1) := by decide +kernel
theorem dX9_soon_70 : decode cX9_soon 70 = .ok (.iaload, 1) := by decide +kernel
theorem dX9_soon_71 : decode cX9_soon 71 = .ok (.ireturn, 1) := by decide +kernel
theorem dX9_canGet_0 : decode cX9_canGet 0 = .ok (.aload_n 0, 1) := by decide +kernel
theorem dX9_canGet_1 : decode cX9_canGet 1 = .ok (.getfield 25, 3) := by decide +kernel
theorem dX9_canGet_4 : decode cX9_canGet 4 = .ok (.iload_n 1, 1) := by decide +kernel
theorem dX9_canGet_5 : decode cX9_canGet 5 = .ok (.iaload, 1) := by decide +kernel
theorem dX9_canGet_6 : decode cX9_canGet 6 = .ok (.aload_n 0, 1) := by decide +kernel
theorem dX9_canGet_7 : decode cX9_canGet 7 = .ok (.getfield 13, 3) := by decide +kernel
theorem dX9_canGet_10 : decode cX9_canGet 10 = .ok (.iload_n 2, 1) := by decide +kernel
theorem dX9_canGet_11 : decode cX9_canGet 11 = .ok (.iaload, 1) := by decide +kernel
theorem dX9_canGet_12 : decode cX9_canGet 12 = .ok (.isub, 1) := by decide +kernel
theorem dX9_canGet_13 : decode cX9_canGet 13 = .ok (.istore_n 3, 1) := by decide +kernel
theorem dX9_canGet_14 : decode cX9_canGet 14 = .ok (.aload_n 0, 1) := by decide +kernel
theorem dX9_canGet_15 : decode cX9_canGet 15 = .ok (.iload_n 2, 1) := by decide +kernel
theorem dX9_canGet_16 : decode cX9_canGet 16 = .ok (.invokevirtual 137, 3) := by decide +kernel
theorem dX9_canGet_19 : decode cX9_canGet 19 = .ok (.ifCond .eq 28, 3) := by decide +kernel
theorem dX9_canGet_22 : decode cX9_canGet 22 = .ok (.iload_n 3, 1) := by decide +kernel
theorem dX9_canGet_23 : decode cX9_canGet 23 = .ok (.aload_n 0, 1) := by decide +kernel
theorem dX9_canGet_24 : decode cX9_canGet 24 = .ok (.getfield 16, 3) := by decide +kernel
theorem dX9_canGet_27 : decode cX9_canGet 27 = .ok (.iload_n 2, 1) := by decide +kernel
theorem dX9_canGet_28 : decode cX9_canGet 28 = .ok (.iaload, 1) := by decide +kernel
theorem dX9_canGet_29 : decode cX9_canGet 29 = .ok (.if_icmp .gt 18, 3) := by decide +kernel
theorem dX9_canGet_32 : decode cX9_canGet 32 = .ok (.iload_n 3, 1) := by decide +kernel
theorem dX9_canGet_33 : decode cX9_canGet 33 = .ok (.ineg, 1) := by decide +kernel
theorem dX9_canGet_34 : decode cX9_canGet 34 = .ok (.aload_n 0, 1) := by decide +kernel
theorem dX9_canGet_35 : decode cX9_canGet 35 = .ok (.getfield 16, 3) := by decide +kernel
theorem dX9_canGet_38 : decode cX9_canGet 38 = .ok (.iload_n 2, 1) := by decide +kernel
theorem dX9_canGet_39 : decode cX9_canGet 39 = .ok (.iaload, 1) := by decide +kernel
theorem dX9_canGet_40 : decode cX9_canGet 40 = .ok (.if_icmp .gt 7, 3) := by decide +kernel
theorem dX9_canGet_43 : decode cX9_canGet 43 = .ok (.iconst 1, 1) := by decide +kernel
theorem dX9_canGet_44 : decode cX9_canGet 44 = .ok (.goto 4, 3) := by decide +kernel
theorem dX9_canGet_47 : decode cX9_canGet 47 = .ok (.iconst 0, 1) := by decide +kernel
theorem dX9_canGet_48 : decode cX9_canGet 48 = .ok (.ireturn, 1) := by decide +kernel
theorem dX9_canGetOwn_0 : decode cX9_canGetOwn 0 = .ok (.iconst 0, 1) := by decide +kernel
theorem dX9_canGetOwn_1 : decode cX9_canGetOwn 1 = .ok (.istore_n 2, 1) := by decide +kernel
theorem dX9_canGetOwn_2 : decode cX9_canGetOwn 2 = .ok (.iconst 0, 1) := by decide +kernel
theorem dX9_canGetOwn_3 : decode cX9_canGetOwn 3 = .ok (.istore_n 3, 1) := by decide +kernel
theorem dX9_canGetOwn_4 : decode cX9_canGetOwn 4 = .ok (.iload_n 3, 1) := by decide +kernel
theorem dX9_canGetOwn_5 : decode cX9_canGetOwn 5 = .ok (.bipush 8, 2) := by decide +kernel
theorem dX9_canGetOwn_7 : decode cX9_canGetOwn 7 = .ok (.if_icmp .ge 46, 3) := by decide +kernel
theorem dX9_canGetOwn_10 : decode cX9_canGetOwn 10 = .ok (.iload_n 2, 1) := by decide +kernel
theorem dX9_canGetOwn_11 : decode cX9_canGetOwn 11 = .ok (.ifCond .ne 30, 3) := by decide +kernel
theorem dX9_canGetOwn_14 : decode cX9_canGetOwn 14 = .ok (.aload_n 0, 1) := by decide +kernel
theorem dX9_canGetOwn_15 : decode cX9_canGetOwn 15 = .ok (.iload_n 3, 1) := by decide +kernel
theorem dX9_canGetOwn_16 : decode cX9_canGetOwn 16 = .ok (.invokevirtual 137, 3) := by decide +kernel
theorem dX9_canGetOwn_19 : decode cX9_canGetOwn 19 = .ok (.ifCond .eq 26, 3) := by decide +kernel
theorem dX9_canGetOwn_22 : decode cX9_canGetOwn 22 = .ok (.aload_n 0, 1) := by decide +kernel
theorem dX9_canGetOwn_23 : decode cX9_canGetOwn 23 = .ok (.getfield 19, 3) := by decide +kernel
theorem dX9_canGetOwn_26 : decode cX9_canGetOwn 26 = .ok (.iload_n 3, 1) := by decide +kernel
theorem dX9_canGetOwn_27 : decode cX9_canGetOwn 27 = .ok (.iaload, 1) := by decide +kernel
theorem dX9_canGetOwn_28 : decode cX9_canGetOwn 28 = .ok (.iload_n 1, 1) := by decide +kernel
theorem dX9_canGetOwn_29 : decode cX9_canGetOwn 29 = .ok (.if_icmp .ne 16, 3) := by decide +kernel
theorem dX9_canGetOwn_32 : decode cX9_canGetOwn 32 = .ok (.aload_n 0, 1) := by decide +kernel
theorem dX9_canGetOwn_33 : decode cX9_canGetOwn 33 = .ok (.iload_n 1, 1) := by decide +kernel
theorem dX9_canGetOwn_34 : decode cX9_canGetOwn 34 = .ok (.iload_n 3, 1) := by decide +kernel
theorem dX9_canGetOwn_35 : decode cX9_canGetOwn 35 = .ok (.invokevirtual 232, 3) := by decide +kernel
theorem dX9_canGetOwn_38 : decode cX9_canGetOwn 38 = .ok (.ifCond .eq 7, 3) := by decide +kernel
theorem dX9_canGetOwn_41 : decode cX9_canGetOwn 41 = .ok (.iconst 1, 1) := by decide +kernel
theorem dX9_canGetOwn_42 : decode cX9_canGetOwn 42 = .ok (.goto 4, 3) := by decide +kernel
theorem dX9_canGetOwn_45 : decode cX9_canGetOwn 45 = .ok (.iconst 0, 1) := by decide +kernel
theorem dX9_canGetOwn_46 : decode cX9_canGetOwn 46 = .ok (.istore_n 2, 1) := by decide +kernel
theorem dX9_canGetOwn_47 : decode cX9_canGetOwn 47 = .ok (.iinc 3 1, 3) := by decide +kernel
theorem dX9_canGetOwn_50 : decode cX9_canGetOwn 50 = .ok (.goto (-46), 3) := by decide +kernel
theorem dX9_canGetOwn_53 : decode cX9_canGetOwn 53 = .ok (.iload_n 2, 1) := by decide +kernel
theorem dX9_canGetOwn_54 : decode cX9_canGetOwn 54 = .ok (.ireturn, 1) := by decide +kernel
theorem dX9_addFlake_0 : decode cX9_addFlake 0 = .ok (.bipush 63, 2) := by decide +kernel
theorem dX9_addFlake_2 : decode cX9_addFlake 2 = .ok (.istore_n 2, 1) := by decide +kernel
theorem dX9_addFlake_3 : decode cX9_addFlake 3 = .ok (.iload_n 2, 1) := by decide +kernel
theorem dX9_addFlake_4 : decode cX9_addFlake 4 = .ok (.ifCond .le 105, 3) := by decide +kernel
theorem dX9_addFlake_7 : decode cX9_addFlake 7 = .ok (.aload_n 0, 1) := by decide +kernel
theorem dX9_addFlake_8 : decode cX9_addFlake 8 = .ok (.getfield 59, 3) := by decide +kernel
theorem dX9_addFlake_11 : decode cX9_addFlake 11 = .ok (.iload_n 2, 1) := by decide +kernel
theorem dX9_addFlake_12 : decode cX9_addFlake 12 = .ok (.iaload, 1) := by decide +kernel
theorem dX9_addFlake_13 : decode cX9_addFlake 13 = .ok (.istore_n 3, 1) := by decide +kernel
theorem dX9_addFlake_14 : decode cX9_addFlake 14 = .ok (.iconst 0, 1) := by decide +kernel
theorem dX9_addFlake_15 : decode cX9_addFlake 15 = .ok (.istore 4, 2) := by decide +kernel
theorem dX9_addFlake_17 : decode cX9_addFlake 17 = .ok (.iload 4, 2) := by decide +kernel
theorem dX9_addFlake_19 : decode cX9_addFlake 19 = .ok (.bipush 6, 2) := by decide +kernel
theorem dX9_addFlake_21 : decode cX9_addFlake 21 = .ok (.if_icmp .ge 75, 3) := by decide +kernel
theorem dX9_addFlake_24 : decode cX9_addFlake 24 = .ok (.iload_n 2, 1) := by decide +kernel
theorem dX9_addFlake_25 : decode cX9_addFlake 25 = .ok (.iload 4, 2) := by decide +kernel
theorem dX9_addFlake_27 : decode cX9_addFlake 27 = .ok (.ishr, 1) := by decide +kernel
theorem dX9_addFlake_28 : decode cX9_addFlake 28 = .ok (.iconst 1, 1) := by decide +kernel
theorem dX9_addFlake_29 : decode cX9_addFlake 29 = .ok (.iand, 1) := by decide +kernel
theorem dX9_addFlake_30 : decode cX9_addFlake 30 = .ok (.iconst 1, 1) := by decide +kernel
theorem dX9_addFlake_31 : decode cX9_addFlake 31 = .ok (.if_icmp .ne 17, 3) := by decide +kernel
theorem dX9_addFlake_34 : decode cX9_addFlake 34 = .ok (.aload_n 0, 1) := by decide +kernel
theorem dX9_addFlake_35 : decode cX9_addFlake 35 = .ok (.iload 4, 2) := by decide +kernel
theorem dX9_addFlake_37 : decode cX9_addFlake 37 = .ok (.iload_n 1, 1) := by decide +kernel
theorem dX9_addFlake_38 : decode cX9_addFlake 38 = .ok (.invokevirtual 232, 3) := by decide +kernel
theorem dX9_addFlake_41 : decode cX9_addFlake 41 = .ok (.ifCond .eq 7, 3) := by decide +kernel
theorem dX9_addFlake_44 : decode cX9_addFlake 44 = .ok (.iconst 1, 1) := by decide +kernel
theorem dX9_addFlake_45 : decode cX9_addFlake 45 = .ok (.goto 4, 3) := by decide +kernel
theorem dX9_addFlake_48 : decode cX9_addFlake 48 = .ok (.iconst 0, 1) := by decide +kernel
theorem dX9_addFlake_49 : decode cX9_addFlake 49 = .ok (.istore 5, 2) := by decide +kernel
theorem dX9_addFlake_51 : decode cX9_addFlake 51 = .ok (.iload 5, 2) := by decide +kernel
theorem dX9_addFlake_53 : decode cX9_addFlake 53 = .ok (.ifCond .eq 21, 3) := by decide +kernel
theorem dX9_addFlake_56 : decode cX9_addFlake 56 = .ok (.aload_n 0, 1) := by decide +kernel
theorem dX9_addFlake_57 : decode cX9_addFlake 57 = .ok (.getfield 59, 3) := by decide +kernel
theorem dX9_addFlake_60 : decode cX9_addFlake 60 = .ok (.iload_n 2, 1) := by decide +kernel
theorem dX9_addFlake_61 : decode cX9_addFlake 61 = .ok (.iconst 1, 1) := by decide +kernel
theorem dX9_addFlake_62 : decode cX9_addFlake 62 = .ok (.iload 4, 2) := by decide +kernel
theorem dX9_addFlake_64 : decode cX9_addFlake 64 = .ok (.ishl, 1) := by decide +kernel
theorem dX9_addFlake_65 : decode cX9_addFlake 65 = .ok (.iconst (-1), 1) := by decide +kernel
theorem dX9_addFlake_66 : decode cX9_addFlake 66 = .ok (.ixor, 1) := by decide +kernel
theorem dX9_addFlake_67 : decode cX9_addFlake 67 = .ok (.iand, 1) := by decide +kernel
theorem dX9_addFlake_68 : decode cX9_addFlake 68 = .ok (.iaload, 1) := by decide +kernel
theorem dX9_addFlake_69 : decode cX9_addFlake 69 = .ok (.iconst 1, 1) := by decide +kernel
theorem dX9_addFlake_70 : decode cX9_addFlake 70 = .ok (.iadd, 1) := by decide +kernel
theorem dX9_addFlake_71 : decode cX9_addFlake 71 = .ok (.goto 4, 3) := by decide +kernel
theorem dX9_addFlake_74 : decode cX9_addFlake 74 = .ok (.iconst 0, 1) := by decide +kernel
theorem dX9_addFlake_75 : decode cX9_addFlake 75 = .ok (.istore 6, 2) := by decide +kernel
theorem dX9_addFlake_77 : decode cX9_addFlake 77 = .ok (.iload 6, 2) := by decide +kernel
theorem dX9_addFlake_79 : decode cX9_addFlake 79 = .ok (.iload_n 3, 1) := by decide +kernel
theorem dX9_addFlake_80 : decode cX9_addFlake 80 = .ok (.if_icmp .le 8, 3) := by decide +kernel
theorem dX9_addFlake_83 : decode cX9_addFlake 83 = .ok (.iload 6, 2) := by decide +kernel
theorem dX9_addFlake_85 : decode cX9_addFlake 85 = .ok (.goto 4, 3) := by decide +kernel
theorem dX9_addFlake_88 : decode cX9_addFlake 88 = .ok (.iload_n 3, 1) := by decide +kernel
theorem dX9_addFlake_89 : decode cX9_addFlake 89 = .ok (.istore_n 3, 1) := by decide +kernel
theorem dX9_addFlake_90 : decode cX9_addFlake 90 = .ok (.iinc 4 1, 3) := by decide +kernel
theorem dX9_addFlake_93 : decode cX9_addFlake 93 = .ok (.goto (-76), 3) := by decide +kernel
theorem dX9_addFlake_96 : decode cX9_addFlake 96 = .ok (.aload_n 0, 1) := by decide +kernel
theorem dX9_addFlake_97 : decode cX9_addFlake 97 = .ok (.getfield 59, 3) := by decide +kernel
theorem dX9_addFlake_100 : decode cX9_addFlake 100 = .ok (.iload_n 2, 1) := by decide +kernel
theorem dX9_addFlake_101 : decode cX9_addFlake 101 = .ok (.iload_n 3, 1) := by decide +kernel
theorem dX9_addFlake_102 : decode cX9_addFlake 102 = .ok (.iastore, 1) := by decide +kernel
theorem dX9_addFlake_103 : decode cX9_addFlake 103 = .ok (.iinc 2 (-1), 3) := by decide +kernel
theorem dX9_addFlake_106 : decode cX9_addFlake 106 = .ok (.goto (-103), 3) := by decide +kernel
theorem dX9_addFlake_109 : decode cX9_addFlake 109 = .ok (.return_, 1) := by decide +kernel
theorem dX9_most_0 : decode cX9_most 0 = .ok (.iload_n 1, 1) := by decide +kernel
theorem dX9_most_1 : decode cX9_most 1 = .ok (.i2l, 1) := by decide +kernel
theorem dX9_most_2 : decode cX9_most 2 = .ok (.lconst 0, 1) := by decide +kernel
theorem dX9_most_3 : decode cX9_most 3 = .ok (.lconst 1, 1) := by decide +kernel
theorem dX9_most_4 : decode cX9_most 4 = .ok (.invokestatic 86, 3) := by decide +kernel
theorem dX9_most_7 : decode cX9_most 7 = .ok (.ifCond .ne 6, 3) := by decide +kernel
theorem dX9_most_10 : decode cX9_most 10 = .ok (.bipush (-2), 2) := by decide +kernel
theorem dX9_most_12 : decode cX9_most 12 = .ok (.ireturn, 1) := by decide +kernel
theorem dX9_most_13 : decode cX9_most 13 = .ok (.iload_n 1, 1) := by decide +kernel
theorem dX9_most_14 : decode cX9_most 14 = .ok (.ifCond .ne 37, 3) := by decide +kernel
theorem dX9_most_17 : decode cX9_most 17 = .ok (.iconst 0, 1) := by decide +kernel
theorem dX9_most_18 : decode cX9_most 18 = .ok (.istore_n 2, 1) := by decide +kernel
theorem dX9_most_19 : decode cX9_most 19 = .ok (.iconst 0, 1) := by decide +kernel
theorem dX9_most_20 : decode cX9_most 20 = .ok (.istore_n 3, 1) := by decide +kernel
theorem dX9_most_21 : decode cX9_most 21 = .ok (.iload_n 3, 1) := by decide +kernel
theorem dX9_most_22 : decode cX9_most 22 = .ok (.bipush 6, 2) := by decide +kernel
theorem dX9_most_24 : decode cX9_most 24 = .ok (.if_icmp .ge 25, 3) := by decide +kernel
theorem dX9_most_27 : decode cX9_most 27 = .ok (.iload_n 2, 1) := by decide +kernel
theorem dX9_most_28 : decode cX9_most 28 = .ok (.aload_n 0, 1) := by decide +kernel
theorem dX9_most_29 : decode cX9_most 29 = .ok (.iload_n 3, 1) := by decide +kernel
theorem dX9_most_30 : decode cX9_most 30 = .ok (.invokevirtual 236, 3) := by decide +kernel
theorem dX9_most_33 : decode cX9_most 33 = .ok (.ifCond .eq 7, 3) := by decide +kernel
theorem dX9_most_36 : decode cX9_most 36 = .ok (.iconst 1, 1) := by decide +kernel
theorem dX9_most_37 : decode cX9_most 37 = .ok (.goto 4, 3) := by decide +kernel
theorem dX9_most_40 : decode cX9_most 40 = .ok (.iconst 0, 1) := by decide +kernel
theorem dX9_most_41 : decode cX9_most 41 = .ok (.iadd, 1) := by decide +kernel
theorem dX9_most_42 : decode cX9_most 42 = .ok (.istore_n 2, 1) := by decide +kernel
theorem dX9_most_43 : decode cX9_most 43 = .ok (.iinc 3 1, 3) := by decide +kernel
theorem dX9_most_46 : decode cX9_most 46 = .ok (.goto (-25), 3) := by decide +kernel
theorem dX9_most_49 : decode cX9_most 49 = .ok (.iload_n 2, 1) := by decide +kernel
theorem dX9_most_50 : decode cX9_most 50 = .ok (.ireturn, 1) := by decide +kernel
theorem dX9_most_51 : decode cX9_most 51 = .ok (.iconst 0, 1) := by decide +kernel
theorem dX9_most_52 : decode cX9_most 52 = .ok (.istore_n 2, 1) := by decide +kernel
theorem dX9_most_53 : decode cX9_most 53 = .ok (.iload_n 2, 1) := by decide +kernel
theorem dX9_most_54 : decode cX9_most 54 = .ok (.bipush 64, 2) := by decide +kernel
theorem dX9_most_56 : decode cX9_most 56 = .ok (.if_icmp .ge 16, 3) := by decide +kernel
theorem dX9_most_59 : decode cX9_most 59 = .ok (.aload_n 0, 1) := by decide +kernel
theorem dX9_most_60 : decode cX9_most 60 = .ok (.getfield 59, 3) := by decide +kernel
theorem dX9_most_63 : decode cX9_most 63 = .ok (.iload_n 2, 1) := by decide +kernel
theorem dX9_most_64 : decode cX9_most 64 = .ok (.iconst 0, 1) := by decide +kernel
theorem dX9_most_65 : decode cX9_most 65 = .ok (.iastore, 1) := by decide +kernel
theorem dX9_most_66 : decode cX9_most 66 = .ok (.iinc 2 1, 3) := by decide +kernel
theorem dX9_most_69 : decode cX9_most 69 = .ok (.goto (-16), 3) := by decide +kernel
theorem dX9_most_72 : decode cX9_most 72 = .ok (.iconst 0, 1) := by decide +kernel
theorem dX9_most_73 : decode cX9_most 73 = .ok (.istore_n 2, 1) := by decide +kernel
theorem dX9_most_74 : decode cX9_most 74 = .ok (.iload_n 2, 1) := by decide +kernel
theorem dX9_most_75 : decode cX9_most 75 = .ok (.bipush 8, 2) := by decide +kernel
theorem dX9_most_77 : decode cX9_most 77 = .ok (.if_icmp .ge 22, 3) := by decide +kernel
theorem dX9_most_80 : decode cX9_most 80 = .ok (.aload_n 0, 1) := by decide +kernel
theorem dX9_most_81 : decode cX9_most 81 = .ok (.iload_n 2, 1) := by decide +kernel
theorem dX9_most_82 : decode cX9_most 82 = .ok (.invokevirtual 137, 3) := by decide +kernel
theorem dX9_most_85 : decode cX9_most 85 = .ok (.ifCond .eq 8, 3) := by decide +kernel
theorem dX9_most_88 : decode cX9_most 88 = .ok (.aload_n 0, 1) := by decide +kernel
theorem dX9_most_89 : decode cX9_most 89 = .ok (.iload_n 2, 1) := by decide +kernel
theorem dX9_most_90 : decode cX9_most 90 = .ok (.invokevirtual 239, 3) := by decide +kernel
theorem dX9_most_93 : decode cX9_most 93 = .ok (.iinc 2 1, 3) := by decide +kernel
theorem dX9_most_96 : decode cX9_most 96 = .ok (.goto (-22), 3) := by decide +kernel
theorem dX9_most_99 : decode cX9_most 99 = .ok (.aload_n 0, 1) := by decide +kernel
theorem dX9_most_100 : decode cX9_most 100 = .ok (.getfield 59, 3) := by decide +kernel
theorem dX9_most_103 : decode cX9_most 103 = .ok (.bipush 63, 2) := by decide +kernel
theorem dX9_most_105 : decode cX9_most 105 = .ok (.iaload, 1) := by decide +kernel
theorem dX9_most_106 : decode cX9_most 106 = .ok (.ireturn, 1) := by decide +kernel
theorem dX9_isFree_0 : decode cX9_isFree 0 = .ok (.iconst 1, 1) := by decide +kernel
theorem dX9_isFree_1 : decode cX9_isFree 1 = .ok (.istore_n 2, 1) := by decide +kernel
theorem dX9_isFree_2 : decode cX9_isFree 2 = .ok (.iconst 0, 1) := by decide +kernel
theorem dX9_isFree_3 : decode cX9_isFree 3 = .ok (.istore_n 3, 1) := by decide +kernel
theorem dX9_isFree_4 : decode cX9_isFree 4 = .ok (.iload_n 3, 1) := by decide +kernel
theorem dX9_isFree_5 : decode cX9_isFree 5 = .ok (.bipush 6, 2) := by decide +kernel
theorem dX9_isFree_7 : decode cX9_isFree 7 = .ok (.if_icmp .ge 29, 3) := by decide +kernel
theorem dX9_isFree_10 : decode cX9_isFree 10 = .ok (.iload_n 2, 1) := by decide +kernel
theorem dX9_isFree_11 : decode cX9_isFree 11 = .ok (.ifCond .eq 17, 3) := by decide +kernel
theorem dX9_isFree_14 : decode cX9_isFree 14 = .ok (.aload_n 0, 1) := by decide +kernel
theorem dX9_isFree_15 : decode cX9_isFree 15 = .ok (.getfield 25, 3) := by decide +kernel
theorem dX9_isFree_18 : decode cX9_isFree 18 = .ok (.iload_n 3, 1) := by decide +kernel
theorem dX9_isFree_19 : decode cX9_isFree 19 = .ok (.iaload, 1) := by decide +kernel
theorem dX9_isFree_20 : decode cX9_isFree 20 = .ok (.iload_n 1, 1) := by decide +kernel
theorem dX9_isFree_21 : decode cX9_isFree 21 = .ok (.if_icmp .eq 7, 3) := by decide +kernel
theorem dX9_isFree_24 : decode cX9_isFree 24 = .ok (.iconst 1, 1) := by decide +kernel
theorem dX9_isFree_25 : decode cX9_isFree 25 = .ok (.goto 4, 3) := by decide +kernel
theorem dX9_isFree_28 : decode cX9_isFree 28 = .ok (.iconst 0, 1) := by decide +kernel
theorem dX9_isFree_29 : decode cX9_isFree 29 = .ok (.istore_n 2, 1) := by decide +kernel
theorem dX9_isFree_30 : decode cX9_isFree 30 = .ok (.iinc 3 1, 3) := by decide +kernel
theorem dX9_isFree_33 : decode cX9_isFree 33 = .ok (.goto (-29), 3) := by decide +kernel
theorem dX9_isFree_36 : decode cX9_isFree 36 = .ok (.iconst 0, 1) := by decide +kernel
theorem dX9_isFree_37 : decode cX9_isFree 37 = .ok (.istore_n 3, 1) := by decide +kernel
theorem dX9_isFree_38 : decode cX9_isFree 38 = .ok (.iload_n 3, 1) := by decide +kernel
theorem dX9_isFree_39 : decode cX9_isFree 39 = .ok (.bipush 8, 2) := by decide +kernel
theorem dX9_isFree_41 : decode cX9_isFree 41 = .ok (.if_icmp .ge 67, 3) := by decide +kernel
theorem dX9_isFree_44 : decode cX9_isFree 44 = .ok (.aload_n 0, 1) := by decide +kernel
theorem dX9_isFree_45 : decode cX9_isFree 45 = .ok (.iload_n 3, 1) := by decide +kernel
theorem dX9_isFree_46 : decode cX9_isFree 46 = .ok (.invokevirtual 113, 3) := by decide +kernel
theorem dX9_isFree_49 : decode cX9_isFree 49 = .ok (.ifCond .eq 25, 3) := by decide +kernel
theorem dX9_isFree_52 : decode cX9_isFree 52 = .ok (.aload_n 0, 1) := by decide +kernel
theorem dX9_isFree_53 : decode cX9_isFree 53 = .ok (.getfield 16, 3) := by decide +kernel
theorem dX9_isFree_56 : decode cX9_isFree 56 = .ok (.iload_n 3, 1) := by decide +kernel
theorem dX9_isFree_57 : decode cX9_isFree 57 = .ok (.iaload, 1) := by decide +kernel
theorem dX9_isFree_58 : decode cX9_isFree 58 = .ok (.ifCond .ne 16, 3) := by decide +kernel
theorem dX9_isFree_61 : decode cX9_isFree 61 = .ok (.aload_n 0, 1) := by decide +kernel
theorem dX9_isFree_62 : decode cX9_isFree 62 = .ok (.getfield 22, 3) := by decide +kernel
theorem dX9_isFree_65 : decode cX9_isFree 65 = .ok (.iload_n 3, 1) := by decide +kernel
theorem dX9_isFree_66 : decode cX9_isFree 66 = .ok (.iaload, 1) := by decide +kernel
theorem dX9_isFree_67 : decode cX9_isFree 67 = .ok (.ifCond .ge 7, 3) := by decide +kernel
theorem dX9_isFree_70 : decode cX9_isFree 70 = .ok (.iconst 1, 1) := by decide +kernel
theorem dX9_isFree_71 : decode cX9_isFree 71 = .ok (.goto 4, 3) := by decide +kernel
theorem dX9_isFree_74 : decode cX9_isFree 74 = .ok (.iconst 0, 1) := by decide +kernel
theorem dX9_isFree_75 : decode cX9_isFree 75 = .ok (.istore 4, 2) := by decide +kernel
theorem dX9_isFree_77 : decode cX9_isFree 77 = .ok (.iload_n 2, 1) := by decide +kernel
theorem dX9_isFree_78 : decode cX9_isFree 78 = .ok (.ifCond .eq 22, 3) := by decide +kernel
theorem dX9_isFree_81 : decode cX9_isFree 81 = .ok (.iload 4, 2) := by decide +kernel
theorem dX9_isFree_83 : decode cX9_isFree 83 = .ok (.ifCond .eq 13, 3) := by decide +kernel
theorem dX9_isFree_86 : decode cX9_isFree 86 = .ok (.aload_n 0, 1) := by decide +kernel
theorem dX9_isFree_87 : decode cX9_isFree 87 = .ok (.getfield 13, 3) := by decide +kernel
theorem dX9_isFree_90 : decode cX9_isFree 90 = .ok (.iload_n 3, 1) := by decide +kernel
theorem dX9_isFree_91 : decode cX9_isFree 91 = .ok (.iaload, 1) := by decide +kernel
theorem dX9_isFree_92 : decode cX9_isFree 92 = .ok (.iload_n 1, 1) := by decide +kernel
theorem dX9_isFree_93 : decode cX9_isFree 93 = .ok (.if_icmp .eq 7, 3) := by decide +kernel
theorem dX9_isFree_96 : decode cX9_isFree 96 = .ok (.iconst 1, 1) := by decide +kernel
theorem dX9_isFree_97 : decode cX9_isFree 97 = .ok (.goto 4, 3) := by decide +kernel
theorem dX9_isFree_100 : decode cX9_isFree 100 = .ok (.iconst 0, 1) := by decide +kernel
theorem dX9_isFree_101 : decode cX9_isFree 101 = .ok (.istore_n 2, 1) := by decide +kernel
theorem dX9_isFree_102 : decode cX9_isFree 102 = .ok (.iinc 3 1, 3) := by decide +kernel
theorem dX9_isFree_105 : decode cX9_isFree 105 = .ok (.goto (-67), 3) := by decide +kernel
theorem dX9_isFree_108 : decode cX9_isFree 108 = .ok (.iload_n 2, 1) := by decide +kernel
theorem dX9_isFree_109 : decode cX9_isFree 109 = .ok (.ireturn, 1) := by decide +kernel
theorem dX9_patch_0 : decode cX9_patch 0 = .ok (.iload_n 1, 1) := by decide +kernel
theorem dX9_patch_1 : decode cX9_patch 1 = .ok (.i2l, 1) := by decide +kernel
theorem dX9_patch_2 : decode cX9_patch 2 = .ok (.lconst 0, 1) := by decide +kernel
theorem dX9_patch_3 : decode cX9_patch 3 = .ok (.lconst 1, 1) := by decide +kernel
theorem dX9_patch_4 : decode cX9_patch 4 = .ok (.invokestatic 86, 3) := by decide +kernel
theorem dX9_patch_7 : decode cX9_patch 7 = .ok (.ifCond .ne 6, 3) := by decide +kernel
theorem dX9_patch_10 : decode cX9_patch 10 = .ok (.bipush (-2), 2) := by decide +kernel
theorem dX9_patch_12 : decode cX9_patch 12 = .ok (.ireturn, 1) := by decide +kernel
theorem dX9_patch_13 : decode cX9_patch 13 = .ok (.iconst 0, 1) := by decide +kernel
theorem dX9_patch_14 : decode cX9_patch 14 = .ok (.istore_n 2, 1) := by decide +kernel
theorem dX9_patch_15 : decode cX9_patch 15 = .ok (.bipush (-6), 2) := by decide +kernel
theorem dX9_patch_17 : decode cX9_patch 17 = .ok (.istore_n 3, 1) := by decide +kernel
theorem dX9_patch_18 : decode cX9_patch 18 = .ok (.iconst 0, 1) := by decide +kernel
theorem dX9_patch_19 : decode cX9_patch 19 = .ok (.istore 4, 2) := by decide +kernel
theorem dX9_patch_21 : decode cX9_patch 21 = .ok (.iconst 0, 1) := by decide +kernel
theorem dX9_patch_22 : decode cX9_patch 22 = .ok (.istore 5, 2) := by decide +kernel
theorem dX9_patch_24 : decode cX9_patch 24 = .ok (.iload 5, 2) := by decide +kernel
theorem dX9_patch_26 : decode cX9_patch 26 = .ok (.bipush 16, 2) := by decide +kernel
theorem dX9_patch_28 : decode cX9_patch 28 = .ok (.if_icmp .ge 59, 3) := by decide +kernel
theorem dX9_patch_31 : decode cX9_patch 31 = .ok (.aload_n 0, 1) := by decide +kernel
theorem dX9_patch_32 : decode cX9_patch 32 = .ok (.iload 5, 2) := by decide +kernel
theorem dX9_patch_34 : decode cX9_patch 34 = .ok (.invokevirtual 242, 3) := by decide +kernel
theorem dX9_patch_37 : decode cX9_patch 37 = .ok (.ifCond .eq 10, 3) := by decide +kernel
theorem dX9_patch_40 : decode cX9_patch 40 = .ok (.iload 4, 2) := by decide +kernel
theorem dX9_patch_42 : decode cX9_patch 42 = .ok (.iconst 1, 1) := by decide +kernel
theorem dX9_patch_43 : decode cX9_patch 43 = .ok (.iadd, 1) := by decide +kernel
theorem dX9_patch_44 : decode cX9_patch 44 = .ok (.goto 4, 3) := by decide +kernel
theorem dX9_patch_47 : decode cX9_patch 47 = .ok (.iconst 0, 1) := by decide +kernel
theorem dX9_patch_48 : decode cX9_patch 48 = .ok (.istore 4, 2) := by decide +kernel
theorem dX9_patch_50 : decode cX9_patch 50 = .ok (.iload 4, 2) := by decide +kernel
theorem dX9_patch_52 : decode cX9_patch 52 = .ok (.iload_n 2, 1) := by decide +kernel
theorem dX9_patch_53 : decode cX9_patch 53 = .ok (.if_icmp .le 13, 3) := by decide +kernel
theorem dX9_patch_56 : decode cX9_patch 56 = .ok (.iload 5, 2) := by decide +kernel
theorem dX9_patch_58 : decode cX9_patch 58 = .ok (.iload 4, 2) := by decide +kernel
theorem dX9_patch_60 : decode cX9_patch 60 = .ok (.isub, 1) := by decide +kernel
theorem dX9_patch_61 : decode cX9_patch 61 = .ok (.iconst 1, 1) := by decide +kernel
theorem dX9_patch_62 : decode cX9_patch 62 = .ok (.iadd, 1) := by decide +kernel
theorem dX9_patch_63 : decode cX9_patch 63 = .ok (.goto 4, 3) := by decide +kernel
theorem dX9_patch_66 : decode cX9_patch 66 = .ok (.iload_n 3, 1) := by decide +kernel
theorem dX9_patch_67 : decode cX9_patch 67 = .ok (.istore_n 3, 1) := by decide +kernel
theorem dX9_patch_68 : decode cX9_patch 68 = .ok (.iload 4, 2) := by decide +kernel
theorem dX9_patch_70 : decode cX9_patch 70 = .ok (.iload_n 2, 1) := by decide +kernel
theorem dX9_patch_71 : decode cX9_patch 71 = .ok (.if_icmp .le 8, 3) := by decide +kernel
theorem dX9_patch_74 : decode cX9_patch 74 = .ok (.iload 4, 2) := by decide +kernel
theorem dX9_patch_76 : decode cX9_patch 76 = .ok (.goto 4, 3) := by decide +kernel
theorem dX9_patch_79 : decode cX9_patch 79 = .ok (.iload_n 2, 1) := by decide +kernel
theorem dX9_patch_80 : decode cX9_patch 80 = .ok (.istore_n 2, 1) := by decide +kernel
theorem dX9_patch_81 : decode cX9_patch 81 = .ok (.iinc 5 1, 3) := by decide +kernel
theorem dX9_patch_84 : decode cX9_patch 84 = .ok (.goto (-60), 3) := by decide +kernel
theorem dX9_patch_87 : decode cX9_patch 87 = .ok (.iload_n 1, 1) := by decide +kernel
theorem dX9_patch_88 : decode cX9_patch 88 = .ok (.ifCond .ne 7, 3) := by decide +kernel
theorem dX9_patch_91 : decode cX9_patch 91 = .ok (.iload_n 2, 1) := by decide +kernel
theorem dX9_patch_92 : decode cX9_patch 92 = .ok (.goto 4, 3) := by decide +kernel
theorem dX9_patch_95 : decode cX9_patch 95 = .ok (.iload_n 3, 1) := by decide +kernel
theorem dX9_patch_96 : decode cX9_patch 96 = .ok (.ireturn, 1) := by decide +kernel
theorem dX9_seen_0 : decode cX9_seen 0 = .ok (.iload_n 1, 1) := by decide +kernel
theorem dX9_seen_1 : decode cX9_seen 1 = .ok (.invokestatic 102, 3) := by decide +kernel
theorem dX9_seen_4 : decode cX9_seen 4 = .ok (.ifCond .eq 10, 3) := by decide +kernel
theorem dX9_seen_7 : decode cX9_seen 7 = .ok (.iload_n 2, 1) := by decide +kernel
theorem dX9_seen_8 : decode cX9_seen 8 = .ok (.invokestatic 102, 3) := by decide +kernel
theorem dX9_seen_11 : decode cX9_seen 11 = .ok (.ifCond .ne 6, 3) := by decide +kernel
theorem dX9_seen_14 : decode cX9_seen 14 = .ok (.bipush (-2), 2) := by decide +kernel
theorem dX9_seen_16 : decode cX9_seen 16 = .ok (.ireturn, 1) := by decide +kernel
theorem dX9_seen_17 : decode cX9_seen 17 = .ok (.aload_n 0, 1) := by decide +kernel
theorem dX9_seen_18 : decode cX9_seen 18 = .ok (.getfield 245, 3) := by decide +kernel
theorem dX9_seen_21 : decode cX9_seen 21 = .ok (.bipush 8, 2) := by decide +kernel
theorem dX9_seen_23 : decode cX9_seen 23 = .ok (.if_icmp .ne 6, 3) := by decide +kernel
theorem dX9_seen_26 : decode cX9_seen 26 = .ok (.bipush (-4), 2) := by decide +kernel
theorem dX9_seen_28 : decode cX9_seen 28 = .ok (.ireturn, 1) := by decide +kernel
theorem dX9_seen_29 : decode cX9_seen 29 = .ok (.aload_n 0, 1) := by decide +kernel
theorem dX9_seen_30 : decode cX9_seen 30 = .ok (.getfield 34, 3) := by decide +kernel
theorem dX9_seen_33 : decode cX9_seen 33 = .ok (.aload_n 0, 1) := by decide +kernel
theorem dX9_seen_34 : decode cX9_seen 34 = .ok (.getfield 245, 3) := by decide +kernel
theorem dX9_seen_37 : decode cX9_seen 37 = .ok (.iload_n 1, 1) := by decide +kernel
theorem dX9_seen_38 : decode cX9_seen 38 = .ok (.iastore, 1) := by decide +kernel
theorem dX9_seen_39 : decode cX9_seen 39 = .ok (.aload_n 0, 1) := by decide +kernel
theorem dX9_seen_40 : decode cX9_seen 40 = .ok (.getfield 37, 3) := by decide +kernel
theorem dX9_seen_43 : decode cX9_seen 43 = .ok (.aload_n 0, 1) := by decide +kernel
theorem dX9_seen_44 : decode cX9_seen 44 = .ok (.getfield 245, 3) := by decide +kernel
theorem dX9_seen_47 : decode cX9_seen 47 = .ok (.iload_n 2, 1) := by decide +kernel
theorem dX9_seen_48 : decode cX9_seen 48 = .ok (.iastore, 1) := by decide +kernel
theorem dX9_seen_49 : decode cX9_seen 49 = .ok (.aload_n 0, 1) := by decide +kernel
theorem dX9_seen_50 : decode cX9_seen 50 = .ok (.dup, 1) := by decide +kernel
theorem dX9_seen_51 : decode cX9_seen 51 = .ok (.getfield 245, 3) := by decide +kernel
theorem dX9_seen_54 : decode cX9_seen 54 = .ok (.iconst 1, 1) := by decide +kernel
theorem dX9_seen_55 : decode cX9_seen 55 = .ok (.iadd, 1) := by decide +kernel
theorem dX9_seen_56 : decode cX9_seen 56 = .ok (.putfield 245, 3) := by decide +kernel
theorem dX9_seen_59 : decode cX9_seen 59 = .ok (.aload_n 0, 1) := by decide +kernel
theorem dX9_seen_60 : decode cX9_seen 60 = .ok (.getfield 245, 3) := by decide +kernel
theorem dX9_seen_63 : decode cX9_seen 63 = .ok (.ireturn, 1) := by decide +kernel
theorem dX9_forget_0 : decode cX9_forget 0 = .ok (.aload_n 0, 1) := by decide +kernel
theorem dX9_forget_1 : decode cX9_forget 1 = .ok (.getfield 245, 3) := by decide +kernel
theorem dX9_forget_4 : decode cX9_forget 4 = .ok (.istore_n 1, 1) := by decide +kernel
theorem dX9_forget_5 : decode cX9_forget 5 = .ok (.aload_n 0, 1) := by decide +kernel
theorem dX9_forget_6 : decode cX9_forget 6 = .ok (.iconst 0, 1) := by decide +kernel
theorem dX9_forget_7 : decode cX9_forget 7 = .ok (.putfield 245, 3) := by decide +kernel
theorem dX9_forget_10 : decode cX9_forget 10 = .ok (.iload_n 1, 1) := by decide +kernel
theorem dX9_forget_11 : decode cX9_forget 11 = .ok (.ireturn, 1) := by decide +kernel
theorem dX9_fits_0 : decode cX9_fits 0 = .ok (.iconst 1, 1) := by decide +kernel
theorem dX9_fits_1 : decode cX9_fits 1 = .ok (.istore_n 2, 1) := by decide +kernel
theorem dX9_fits_2 : decode cX9_fits 2 = .ok (.iconst 0, 1) := by decide +kernel
theorem dX9_fits_3 : decode cX9_fits 3 = .ok (.istore_n 3, 1) := by decide +kernel
theorem dX9_fits_4 : decode cX9_fits 4 = .ok (.iload_n 3, 1) := by decide +kernel
theorem dX9_fits_5 : decode cX9_fits 5 = .ok (.aload_n 0, 1) := by decide +kernel
theorem dX9_fits_6 : decode cX9_fits 6 = .ok (.getfield 245, 3) := by decide +kernel
theorem dX9_fits_9 : decode cX9_fits 9 = .ok (.if_icmp .ge 38, 3) := by decide +kernel
theorem dX9_fits_12 : decode cX9_fits 12 = .ok (.iload_n 2, 1) := by decide +kernel
theorem dX9_fits_13 : decode cX9_fits 13 = .ok (.ifCond .eq 26, 3) := by decide +kernel
theorem dX9_fits_16 : decode cX9_fits 16 = .ok (.aload_n 0, 1) := by decide +kernel
theorem dX9_fits_17 : decode cX9_fits 17 = .ok (.getfield 34, 3) := by decide +kernel
theorem dX9_fits_20 : decode cX9_fits 20 = .ok (.iload_n 3, 1) := by decide +kernel
theorem dX9_fits_21 : decode cX9_fits 21 = .ok (.iaload, 1) := by decide +kernel
theorem dX9_fits_22 : decode cX9_fits 22 = .ok (.iload_n 1, 1) := by decide +kernel
theorem dX9_fits_23 : decode cX9_fits 23 = .ok (.invokestatic 144, 3) := by decide +kernel
theorem dX9_fits_26 : decode cX9_fits 26 = .ok (.aload_n 0, 1) := by decide +kernel
theorem dX9_fits_27 : decode cX9_fits 27 = .ok (.getfield 37, 3) := by decide +kernel
theorem dX9_fits_30 : decode cX9_fits 30 = .ok (.iload_n 3, 1) := by decide +kernel
theorem dX9_fits_31 : decode cX9_fits 31 = .ok (.iaload, 1) := by decide +kernel
theorem dX9_fits_32 : decode cX9_fits 32 = .ok (.if_icmp .ne 7, 3) := by decide +kernel
theorem dX9_fits_35 : decode cX9_fits 35 = .ok (.iconst 1, 1) := by decide +kernel
theorem dX9_fits_36 : decode cX9_fits 36 = .ok (.goto 4, 3) := by decide +kernel
theorem dX9_fits_39 : decode cX9_fits 39 = .ok (.iconst 0, 1) := by decide +kernel
theorem dX9_fits_40 : decode cX9_fits 40 = .ok (.istore_n 2, 1) := by decide +kernel
theorem dX9_fits_41 : decode cX9_fits 41 = .ok (.iinc 3 1, 3) := by decide +kernel
theorem dX9_fits_44 : decode cX9_fits 44 = .ok (.goto (-40), 3) := by decide +kernel
theorem dX9_fits_47 : decode cX9_fits 47 = .ok (.iload_n 2, 1) := by decide +kernel
theorem dX9_fits_48 : decode cX9_fits 48 = .ok (.ireturn, 1) := by decide +kernel
theorem dX9_laws_0 : decode cX9_laws 0 = .ok (.iconst 0, 1) := by decide +kernel
theorem dX9_laws_1 : decode cX9_laws 1 = .ok (.istore_n 2, 1) := by decide +kernel
theorem dX9_laws_2 : decode cX9_laws 2 = .ok (.iconst 0, 1) := by decide +kernel
theorem dX9_laws_3 : decode cX9_laws 3 = .ok (.istore_n 3, 1) := by decide +kernel
theorem dX9_laws_4 : decode cX9_laws 4 = .ok (.iload_n 3, 1) := by decide +kernel
theorem dX9_laws_5 : decode cX9_laws 5 = .ok (.sipush 256, 3) := by decide +kernel
theorem dX9_laws_8 : decode cX9_laws 8 = .ok (.if_icmp .ge 27, 3) := by decide +kernel
theorem dX9_laws_11 : decode cX9_laws 11 = .ok (.aload_n 0, 1) := by decide +kernel
theorem dX9_laws_12 : decode cX9_laws 12 = .ok (.iload_n 3, 1) := by decide +kernel
theorem dX9_laws_13 : decode cX9_laws 13 = .ok (.invokevirtual 248, 3) := by decide +kernel
theorem dX9_laws_16 : decode cX9_laws 16 = .ok (.ifCond .eq 13, 3) := by decide +kernel
theorem dX9_laws_19 : decode cX9_laws 19 = .ok (.iload_n 2, 1) := by decide +kernel
theorem dX9_laws_20 : decode cX9_laws 20 = .ok (.iload_n 1, 1) := by decide +kernel
theorem dX9_laws_21 : decode cX9_laws 21 = .ok (.if_icmp .ne 5, 3) := by decide +kernel
theorem dX9_laws_24 : decode cX9_laws 24 = .ok (.iload_n 3, 1) := by decide +kernel
theorem dX9_laws_25 : decode cX9_laws 25 = .ok (.ireturn, 1) := by decide +kernel
theorem dX9_laws_26 : decode cX9_laws 26 = .ok (.iinc 2 1, 3) := by decide +kernel
theorem dX9_laws_29 : decode cX9_laws 29 = .ok (.iinc 3 1, 3) := by decide +kernel
theorem dX9_laws_32 : decode cX9_laws 32 = .ok (.goto (-28), 3) := by decide +kernel
theorem dX9_laws_35 : decode cX9_laws 35 = .ok (.iload_n 1, 1) := by decide +kernel
theorem dX9_laws_36 : decode cX9_laws 36 = .ok (.iconst (-1), 1) := by decide +kernel
theorem dX9_laws_37 : decode cX9_laws 37 = .ok (.if_icmp .ne 7, 3) := by decide +kernel
theorem dX9_laws_40 : decode cX9_laws 40 = .ok (.iload_n 2, 1) := by decide +kernel
theorem dX9_laws_41 : decode cX9_laws 41 = .ok (.goto 5, 3) := by decide +kernel
theorem dX9_laws_44 : decode cX9_laws 44 = .ok (.bipush (-6), 2) := by decide +kernel
theorem dX9_laws_46 : decode cX9_laws 46 = .ok (.ireturn, 1) := by decide +kernel
theorem dX9_mostLeft_0 : decode cX9_mostLeft 0 = .ok (.iconst 0, 1) := by decide +kernel
theorem dX9_mostLeft_1 : decode cX9_mostLeft 1 = .ok (.istore_n 2, 1) := by decide +kernel
theorem dX9_mostLeft_2 : decode cX9_mostLeft 2 = .ok (.iconst 0, 1) := by decide +kernel
theorem dX9_mostLeft_3 : decode cX9_mostLeft 3 = .ok (.istore_n 3, 1) := by decide +kernel
theorem dX9_mostLeft_4 : decode cX9_mostLeft 4 = .ok (.iload_n 3, 1) := by decide +kernel
theorem dX9_mostLeft_5 : decode cX9_mostLeft 5 = .ok (.sipush 256, 3) := by decide +kernel
theorem dX9_mostLeft_8 : decode cX9_mostLeft 8 = .ok (.if_icmp .ge 16, 3) := by decide +kernel
theorem dX9_mostLeft_11 : decode cX9_mostLeft 11 = .ok (.aload_n 0, 1) := by decide +kernel
theorem dX9_mostLeft_12 : decode cX9_mostLeft 12 = .ok (.getfield 62, 3) := by decide +kernel
theorem dX9_mostLeft_15 : decode cX9_mostLeft 15 = .ok (.iload_n 3, 1) := by decide +kernel
theorem dX9_mostLeft_16 : decode cX9_mostLeft 16 = .ok (.iconst 0, 1) := by decide +kernel
theorem dX9_mostLeft_17 : decode cX9_mostLeft 17 = .ok (.iastore, 1) := by decide +kernel
theorem dX9_mostLeft_18 : decode cX9_mostLeft 18 = .ok (.iinc 3 1, 3) := by decide +kernel
theorem dX9_mostLeft_21 : decode cX9_mostLeft 21 = .ok (.goto (-17), 3) := by decide +kernel
theorem dX9_mostLeft_24 : decode cX9_mostLeft 24 = .ok (.iconst 0, 1) := by decide +kernel
theorem dX9_mostLeft_25 : decode cX9_mostLeft 25 = .ok (.istore_n 3, 1) := by decide +kernel
theorem dX9_mostLeft_26 : decode cX9_mostLeft 26 = .ok (.iload_n 3, 1) := by decide +kernel
theorem dX9_mostLeft_27 : decode cX9_mostLeft 27 = .ok (.sipush 256, 3) := by decide +kernel
theorem dX9_mostLeft_30 : decode cX9_mostLeft 30 = .ok (.if_icmp .ge 59, 3) := by decide +kernel
theorem dX9_mostLeft_33 : decode cX9_mostLeft 33 = .ok (.aload_n 0, 1) := by decide +kernel
theorem dX9_mostLeft_34 : decode cX9_mostLeft 34 = .ok (.getfield 65, 3) := by decide +kernel
theorem dX9_mostLeft_37 : decode cX9_mostLeft 37 = .ok (.iload_n 3, 1) := by decide +kernel
theorem dX9_mostLeft_38 : decode cX9_mostLeft 38 = .ok (.baload, 1) := by decide +kernel
theorem dX9_mostLeft_39 : decode cX9_mostLeft 39 = .ok (.ifCond .eq 44, 3) := by decide +kernel
theorem dX9_mostLeft_42 : decode cX9_mostLeft 42 = .ok (.iload_n 1, 1) := by decide +kernel
theorem dX9_mostLeft_43 : decode cX9_mostLeft 43 = .ok (.iload_n 3, 1) := by decide +kernel
theorem dX9_mostLeft_44 : decode cX9_mostLeft 44 = .ok (.invokestatic 144, 3) := by decide +kernel
theorem dX9_mostLeft_47 : decode cX9_mostLeft 47 = .ok (.istore 4, 2) := by decide +kernel
theorem dX9_mostLeft_49 : decode cX9_mostLeft 49 = .ok (.aload_n 0, 1) := by decide +kernel
theorem dX9_mostLeft_50 : decode cX9_mostLeft 50 = .ok (.getfield 62, 3) := by decide +kernel
theorem dX9_mostLeft_53 : decode cX9_mostLeft 53 = .ok (.iload 4, 2) := by decide +kernel
theorem dX9_mostLeft_55 : decode cX9_mostLeft 55 = .ok (.dup2, 1) := by decide +kernel
theorem dX9_mostLeft_56 : decode cX9_mostLeft 56 = .ok (.iaload, 1) := by decide +kernel
theorem dX9_mostLeft_57 : decode cX9_mostLeft 57 = .ok (.iconst 1, 1) := by decide +kernel
theorem dX9_mostLeft_58 : decode cX9_mostLeft 58 = .ok (.iadd, 1) := by decide +kernel
theorem dX9_mostLeft_59 : decode cX9_mostLeft 59 = .ok (.iastore, 1) := by decide +kernel
theorem dX9_mostLeft_60 : decode cX9_mostLeft 60 = .ok (.aload_n 0, 1) := by decide +kernel
theorem dX9_mostLeft_61 : decode cX9_mostLeft 61 = .ok (.getfield 62, 3) := by decide +kernel
theorem dX9_mostLeft_64 : decode cX9_mostLeft 64 = .ok (.iload 4, 2) := by decide +kernel
theorem dX9_mostLeft_66 : decode cX9_mostLeft 66 = .ok (.iaload, 1) := by decide +kernel
theorem dX9_mostLeft_67 : decode cX9_mostLeft 67 = .ok (.iload_n 2, 1) := by decide +kernel
theorem dX9_mostLeft_68 : decode cX9_mostLeft 68 = .ok (.if_icmp .le 13, 3) := by decide +kernel
theorem dX9_mostLeft_71 : decode cX9_mostLeft 71 = .ok (.aload_n 0, 1) := by decide +kernel
theorem dX9_mostLeft_72 : decode cX9_mostLeft 72 = .ok (.getfield 62, 3) := by decide +kernel
theorem dX9_mostLeft_75 : decode cX9_mostLeft 75 = .ok (.iload 4, 2) := by decide +kernel
theorem dX9_mostLeft_77 : decode cX9_mostLeft 77 = .ok (.iaload, 1) := by decide +kernel
theorem dX9_mostLeft_78 : decode cX9_mostLeft 78 = .ok (.goto 4, 3) := by decide +kernel
theorem dX9_mostLeft_81 : decode cX9_mostLeft 81 = .ok (.iload_n 2, 1) := by decide +kernel
theorem dX9_mostLeft_82 : decode cX9_mostLeft 82 = .ok (.istore_n 2, 1) := by decide +kernel
theorem dX9_mostLeft_83 : decode cX9_mostLeft 83 = .ok (.iinc 3 1, 3) := by decide +kernel
theorem dX9_mostLeft_86 : decode cX9_mostLeft 86 = .ok (.goto (-60), 3) := by decide +kernel
theorem dX9_mostLeft_89 : decode cX9_mostLeft 89 = .ok (.iload_n 2, 1) := by decide +kernel
theorem dX9_mostLeft_90 : decode cX9_mostLeft 90 = .ok (.ireturn, 1) := by decide +kernel
theorem dX9_look_0 : decode cX9_look 0 = .ok (.iload_n 1, 1) := by decide +kernel
theorem dX9_look_1 : decode cX9_look 1 = .ok (.i2l, 1) := by decide +kernel
theorem dX9_look_2 : decode cX9_look 2 = .ok (.lconst 0, 1) := by decide +kernel
theorem dX9_look_3 : decode cX9_look 3 = .ok (.lconst 1, 1) := by decide +kernel
theorem dX9_look_4 : decode cX9_look 4 = .ok (.invokestatic 86, 3) := by decide +kernel
theorem dX9_look_7 : decode cX9_look 7 = .ok (.ifCond .ne 6, 3) := by decide +kernel
theorem dX9_look_10 : decode cX9_look 10 = .ok (.bipush (-2), 2) := by decide +kernel
theorem dX9_look_12 : decode cX9_look 12 = .ok (.ireturn, 1) := by decide +kernel
theorem dX9_look_13 : decode cX9_look 13 = .ok (.iconst 0, 1) := by decide +kernel
theorem dX9_look_14 : decode cX9_look 14 = .ok (.istore_n 2, 1) := by decide +kernel
theorem dX9_look_15 : decode cX9_look 15 = .ok (.iload_n 2, 1) := by decide +kernel
theorem dX9_look_16 : decode cX9_look 16 = .ok (.sipush 256, 3) := by decide +kernel
theorem dX9_look_19 : decode cX9_look 19 = .ok (.if_icmp .ge 20, 3) := by decide +kernel
theorem dX9_look_22 : decode cX9_look 22 = .ok (.aload_n 0, 1) := by decide +kernel
theorem dX9_look_23 : decode cX9_look 23 = .ok (.getfield 65, 3) := by decide +kernel
theorem dX9_look_26 : decode cX9_look 26 = .ok (.iload_n 2, 1) := by decide +kernel
theorem dX9_look_27 : decode cX9_look 27 = .ok (.aload_n 0, 1) := by decide +kernel
theorem dX9_look_28 : decode cX9_look 28 = .ok (.iload_n 2, 1) := by decide +kernel
theorem dX9_look_29 : decode cX9_look 29 = .ok (.invokevirtual 248, 3) := by decide +kernel
theorem dX9_look_32 : decode cX9_look 32 = .ok (.bastore, 1) := by decide +kernel
theorem dX9_look_33 : decode cX9_look 33 = .ok (.iinc 2 1, 3) := by decide +kernel
theorem dX9_look_36 : decode cX9_look 36 = .ok (.goto (-21), 3) := by decide +kernel
theorem dX9_look_39 : decode cX9_look 39 = .ok (.iconst 0, 1) := by decide +kernel
theorem dX9_look_40 : decode cX9_look 40 = .ok (.istore_n 2, 1) := by decide +kernel
theorem dX9_look_41 : decode cX9_look 41 = .ok (.aload_n 0, 1) := by decide +kernel
theorem dX9_look_42 : decode cX9_look 42 = .ok (.iconst 0, 1) := by decide +kernel
theorem dX9_look_43 : decode cX9_look 43 = .ok (.invokevirtual 251, 3) := by decide +kernel
theorem dX9_look_46 : decode cX9_look 46 = .ok (.istore_n 3, 1) := by decide +kernel
theorem dX9_look_47 : decode cX9_look 47 = .ok (.iconst 1, 1) := by decide +kernel
theorem dX9_look_48 : decode cX9_look 48 = .ok (.istore 4, 2) := by decide +kernel
theorem dX9_look_50 : decode cX9_look 50 = .ok (.iload 4, 2) := by decide +kernel
theorem dX9_look_52 : decode cX9_look 52 = .ok (.sipush 256, 3) := by decide +kernel
theorem dX9_look_55 : decode cX9_look 55 = .ok (.if_icmp .ge 43, 3) := by decide +kernel
theorem dX9_look_58 : decode cX9_look 58 = .ok (.aload_n 0, 1) := by decide +kernel
theorem dX9_look_59 : decode cX9_look 59 = .ok (.iload 4, 2) := by decide +kernel
theorem dX9_look_61 : decode cX9_look 61 = .ok (.invokevirtual 251, 3) := by decide +kernel
theorem dX9_look_64 : decode cX9_look 64 = .ok (.istore 5, 2) := by decide +kernel
theorem dX9_look_66 : decode cX9_look 66 = .ok (.iload 5, 2) := by decide +kernel
theorem dX9_look_68 : decode cX9_look 68 = .ok (.iload_n 3, 1) := by decide +kernel
theorem dX9_look_69 : decode cX9_look 69 = .ok (.if_icmp .ge 8, 3) := by decide +kernel
theorem dX9_look_72 : decode cX9_look 72 = .ok (.iload 4, 2) := by decide +kernel
theorem dX9_look_74 : decode cX9_look 74 = .ok (.goto 4, 3) := by decide +kernel
theorem dX9_look_77 : decode cX9_look 77 = .ok (.iload_n 2, 1) := by decide +kernel
theorem dX9_look_78 : decode cX9_look 78 = .ok (.istore_n 2, 1) := by decide +kernel
theorem dX9_look_79 : decode cX9_look 79 = .ok (.iload 5, 2) := by decide +kernel
theorem dX9_look_81 : decode cX9_look 81 = .ok (.iload_n 3, 1) := by decide +kernel
theorem dX9_look_82 : decode cX9_look 82 = .ok (.if_icmp .ge 8, 3) := by decide +kernel
theorem dX9_look_85 : decode cX9_look 85 = .ok (.iload 5, 2) := by decide +kernel
theorem dX9_look_87 : decode cX9_look 87 = .ok (.goto 4, 3) := by decide +kernel
theorem dX9_look_90 : decode cX9_look 90 = .ok (.iload_n 3, 1) := by decide +kernel
theorem dX9_look_91 : decode cX9_look 91 = .ok (.istore_n 3, 1) := by decide +kernel
theorem dX9_look_92 : decode cX9_look 92 = .ok (.iinc 4 1, 3) := by decide +kernel
theorem dX9_look_95 : decode cX9_look 95 = .ok (.goto (-45), 3) := by decide +kernel
theorem dX9_look_98 : decode cX9_look 98 = .ok (.iload_n 3, 1) := by decide +kernel
theorem dX9_look_99 : decode cX9_look 99 = .ok (.ifCond .ne 8, 3) := by decide +kernel
theorem dX9_look_102 : decode cX9_look 102 = .ok (.bipush (-6), 2) := by decide +kernel
theorem dX9_look_104 : decode cX9_look 104 = .ok (.goto 12, 3) := by decide +kernel
theorem dX9_look_107 : decode cX9_look 107 = .ok (.iload_n 1, 1) := by decide +kernel
theorem dX9_look_108 : decode cX9_look 108 = .ok (.ifCond .ne 7, 3) := by decide +kernel
theorem dX9_look_111 : decode cX9_look 111 = .ok (.iload_n 2, 1) := by decide +kernel
theorem dX9_look_112 : decode cX9_look 112 = .ok (.goto 4, 3) := by decide +kernel
theorem dX9_look_115 : decode cX9_look 115 = .ok (.iload_n 3, 1) := by decide +kernel
theorem dX9_look_116 : decode cX9_look 116 = .ok (.ireturn, 1) := by decide +kernel
theorem dX9_gust_0 : decode cX9_gust 0 = .ok (.iconst 0, 1) := by decide +kernel
theorem dX9_gust_1 : decode cX9_gust 1 = .ok (.istore_n 3, 1) := by decide +kernel
theorem dX9_gust_2 : decode cX9_gust 2 = .ok (.iload_n 3, 1) := by decide +kernel
theorem dX9_gust_3 : decode cX9_gust 3 = .ok (.bipush 16, 2) := by decide +kernel
theorem dX9_gust_5 : decode cX9_gust 5 = .ok (.if_icmp .gt 35, 3) := by decide +kernel
theorem dX9_gust_8 : decode cX9_gust 8 = .ok (.aload_n 0, 1) := by decide +kernel
theorem dX9_gust_9 : decode cX9_gust 9 = .ok (.getfield 72, 3) := by decide +kernel
theorem dX9_gust_12 : decode cX9_gust 12 = .ok (.iload_n 3, 1) := by decide +kernel
theorem dX9_gust_13 : decode cX9_gust 13 = .ok (.iload_n 3, 1) := by decide +kernel
theorem dX9_gust_14 : decode cX9_gust 14 = .ok (.bipush 16, 2) := by decide +kernel
theorem dX9_gust_16 : decode cX9_gust 16 = .ok (.if_icmp .ne 16, 3) := by decide +kernel
theorem dX9_gust_19 : decode cX9_gust 19 = .ok (.ldc2_w 216, 3) := by decide +kernel
theorem dX9_gust_22 : decode cX9_gust 22 = .ok (.aload_n 0, 1) := by decide +kernel
theorem dX9_gust_23 : decode cX9_gust 23 = .ok (.getfield 69, 3) := by decide +kernel
theorem dX9_gust_26 : decode cX9_gust 26 = .ok (.iload_n 3, 1) := by decide +kernel
theorem dX9_gust_27 : decode cX9_gust 27 = .ok (.laload, 1) := by decide +kernel
theorem dX9_gust_28 : decode cX9_gust 28 = .ok (.lmul, 1) := by decide +kernel
theorem dX9_gust_29 : decode cX9_gust 29 = .ok (.goto 4, 3) := by decide +kernel
theorem dX9_gust_32 : decode cX9_gust 32 = .ok (.lconst 0, 1) := by decide +kernel
theorem dX9_gust_33 : decode cX9_gust 33 = .ok (.lastore, 1) := by decide +kernel
theorem dX9_gust_34 : decode cX9_gust 34 = .ok (.iinc 3 1, 3) := by decide +kernel
theorem dX9_gust_37 : decode cX9_gust 37 = .ok (.goto (-35), 3) := by decide +kernel
theorem dX9_gust_40 : decode cX9_gust 40 = .ok (.iconst 0, 1) := by decide +kernel
theorem dX9_gust_41 : decode cX9_gust 41 = .ok (.istore_n 3, 1) := by decide +kernel
theorem dX9_gust_42 : decode cX9_gust 42 = .ok (.iload_n 3, 1) := by decide +kernel
theorem dX9_gust_43 : decode cX9_gust 43 = .ok (.bipush 16, 2) := by decide +kernel
theorem dX9_gust_45 : decode cX9_gust 45 = .ok (.if_icmp .ge 83, 3) := by decide +kernel
theorem dX9_gust_48 : decode cX9_gust 48 = .ok (.aload_n 0, 1) := by decide +kernel
theorem dX9_gust_49 : decode cX9_gust 49 = .ok (.getfield 72, 3) := by decide +kernel
theorem dX9_gust_52 : decode cX9_gust 52 = .ok (.iload_n 3, 1) := by decide +kernel
theorem dX9_gust_53 : decode cX9_gust 53 = .ok (.ifCond .ne 8, 3) := by decide +kernel
theorem dX9_gust_56 : decode cX9_gust 56 = .ok (.bipush 16, 2) := by decide +kernel
theorem dX9_gust_58 : decode cX9_gust 58 = .ok (.goto 6, 3) := by decide +kernel
theorem dX9_gust_61 : decode cX9_gust 61 = .ok (.iload_n 3, 1) := by decide +kernel
theorem dX9_gust_62 : decode cX9_gust 62 = .ok (.iconst 1, 1) := by decide +kernel
theorem dX9_gust_63 : decode cX9_gust 63 = .ok (.isub, 1) := by decide +kernel
theorem dX9_gust_64 : decode cX9_gust 64 = .ok (.dup2, 1) := by decide +kernel
theorem dX9_gust_65 : decode cX9_gust 65 = .ok (.laload, 1) := by decide +kernel
theorem dX9_gust_66 : decode cX9_gust 66 = .ok (.iload_n 1, 1) := by decide +kernel
theorem dX9_gust_67 : decode cX9_gust 67 = .ok (.i2l, 1) := by decide +kernel
theorem dX9_gust_68 : decode cX9_gust 68 = .ok (.aload_n 0, 1) := by decide +kernel
theorem dX9_gust_69 : decode cX9_gust 69 = .ok (.getfield 69, 3) := by decide +kernel
theorem dX9_gust_72 : decode cX9_gust 72 = .ok (.iload_n 3, 1) := by decide +kernel
theorem dX9_gust_73 : decode cX9_gust 73 = .ok (.laload, 1) := by decide +kernel
theorem dX9_gust_74 : decode cX9_gust 74 = .ok (.lmul, 1) := by decide +kernel
theorem dX9_gust_75 : decode cX9_gust 75 = .ok (.ladd, 1) := by decide +kernel
theorem dX9_gust_76 : decode cX9_gust 76 = .ok (.lastore, 1) := by decide +kernel
theorem dX9_gust_77 : decode cX9_gust 77 = .ok (.aload_n 0, 1) := by decide +kernel
theorem dX9_gust_78 : decode cX9_gust 78 = .ok (.getfield 72, 3) := by decide +kernel
theorem dX9_gust_81 : decode cX9_gust 81 = .ok (.iload_n 3, 1) := by decide +kernel
theorem dX9_gust_82 : decode cX9_gust 82 = .ok (.iconst 1, 1) := by decide +kernel
theorem dX9_gust_83 : decode cX9_gust 83 = .ok (.iadd, 1) := by decide +kernel
theorem dX9_gust_84 : decode cX9_gust 84 = .ok (.dup2, 1) := by decide +kernel
theorem dX9_gust_85 : decode cX9_gust 85 = .ok (.laload, 1) := by decide +kernel
theorem dX9_gust_86 : decode cX9_gust 86 = .ok (.iload_n 2, 1) := by decide +kernel
theorem dX9_gust_87 : decode cX9_gust 87 = .ok (.i2l, 1) := by decide +kernel
theorem dX9_gust_88 : decode cX9_gust 88 = .ok (.aload_n 0, 1) := by decide +kernel
theorem dX9_gust_89 : decode cX9_gust 89 = .ok (.getfield 69, 3) := by decide +kernel
theorem dX9_gust_92 : decode cX9_gust 92 = .ok (.iload_n 3, 1) := by decide +kernel
theorem dX9_gust_93 : decode cX9_gust 93 = .ok (.laload, 1) := by decide +kernel
theorem dX9_gust_94 : decode cX9_gust 94 = .ok (.lmul, 1) := by decide +kernel
theorem dX9_gust_95 : decode cX9_gust 95 = .ok (.ladd, 1) := by decide +kernel
theorem dX9_gust_96 : decode cX9_gust 96 = .ok (.lastore, 1) := by decide +kernel
theorem dX9_gust_97 : decode cX9_gust 97 = .ok (.aload_n 0, 1) := by decide +kernel
theorem dX9_gust_98 : decode cX9_gust 98 = .ok (.getfield 72, 3) := by decide +kernel
theorem dX9_gust_101 : decode cX9_gust 101 = .ok (.iload_n 3, 1) := by decide +kernel
theorem dX9_gust_102 : decode cX9_gust 102 = .ok (.dup2, 1) := by decide +kernel
theorem dX9_gust_103 : decode cX9_gust 103 = .ok (.laload, 1) := by decide +kernel
theorem dX9_gust_104 : decode cX9_gust 104 = .ok (.ldc2_w 216, 3) := by decide +kernel
theorem dX9_gust_107 : decode cX9_gust 107 = .ok (.iload_n 1, 1) := by decide +kernel
theorem dX9_gust_108 : decode cX9_gust 108 = .ok (.i2l, 1) := by decide +kernel
theorem dX9_gust_109 : decode cX9_gust 109 = .ok (.lsub, 1) := by decide +kernel
theorem dX9_gust_110 : decode cX9_gust 110 = .ok (.iload_n 2, 1) := by decide +kernel
theorem dX9_gust_111 : decode cX9_gust 111 = .ok (.i2l, 1) := by decide +kernel
theorem dX9_gust_112 : decode cX9_gust 112 = .ok (.lsub, 1) := by decide +kernel
theorem dX9_gust_113 : decode cX9_gust 113 = .ok (.aload_n 0, 1) := by decide +kernel
theorem dX9_gust_114 : decode cX9_gust 114 = .ok (.getfield 69, 3) := by decide +kernel
theorem dX9_gust_117 : decode cX9_gust 117 = .ok (.iload_n 3, 1) := by decide +kernel
theorem dX9_gust_118 : decode cX9_gust 118 = .ok (.laload, 1) := by decide +kernel
theorem dX9_gust_119 : decode cX9_gust 119 = .ok (.lmul, 1) := by decide +kernel
theorem dX9_gust_120 : decode cX9_gust 120 = .ok (.ladd, 1) := by decide +kernel
theorem dX9_gust_121 : decode cX9_gust 121 = .ok (.lastore, 1) := by decide +kernel
theorem dX9_gust_122 : decode cX9_gust 122 = .ok (.iinc 3 1, 3) := by decide +kernel
theorem dX9_gust_125 : decode cX9_gust 125 = .ok (.goto (-83), 3) := by decide +kernel
theorem dX9_gust_128 : decode cX9_gust 128 = .ok (.iconst 0, 1) := by decide +kernel
theorem dX9_gust_129 : decode cX9_gust 129 = .ok (.istore_n 3, 1) := by decide +kernel
theorem dX9_gust_130 : decode cX9_gust 130 = .ok (.iload_n 3, 1) := by decide +kernel
theorem dX9_gust_131 : decode cX9_gust 131 = .ok (.bipush 16, 2) := by decide +kernel
theorem dX9_gust_133 : decode cX9_gust 133 = .ok (.if_icmp .gt 21, 3) := by decide +kernel
theorem dX9_gust_136 : decode cX9_gust 136 = .ok (.aload_n 0, 1) := by decide +kernel
theorem dX9_gust_137 : decode cX9_gust 137 = .ok (.getfield 69, 3) := by decide +kernel
theorem dX9_gust_140 : decode cX9_gust 140 = .ok (.iload_n 3, 1) := by decide +kernel
theorem dX9_gust_141 : decode cX9_gust 141 = .ok (.aload_n 0, 1) := by decide +kernel
theorem dX9_gust_142 : decode cX9_gust 142 = .ok (.getfield 72, 3) := by decide +kernel
theorem dX9_gust_145 : decode cX9_gust 145 = .ok (.iload_n 3, 1) := by decide +kernel
theorem dX9_gust_146 : decode cX9_gust 146 = .ok (.laload, 1) := by decide +kernel
theorem dX9_gust_147 : decode cX9_gust 147 = .ok (.lastore, 1) := by decide +kernel
theorem dX9_gust_148 : decode cX9_gust 148 = .ok (.iinc 3 1, 3) := by decide +kernel
theorem dX9_gust_151 : decode cX9_gust 151 = .ok (.goto (-21), 3) := by decide +kernel
theorem dX9_gust_154 : decode cX9_gust 154 = .ok (.return_, 1) := by decide +kernel
theorem dX9_lowest_0 : decode cX9_lowest 0 = .ok (.lload_n 2, 1) := by decide +kernel
theorem dX9_lowest_1 : decode cX9_lowest 1 = .ok (.lstore 5, 2) := by decide +kernel
theorem dX9_lowest_3 : decode cX9_lowest 3 = .ok (.lload_n 0, 1) := by decide +kernel
theorem dX9_lowest_4 : decode cX9_lowest 4 = .ok (.lstore 7, 2) := by decide +kernel
theorem dX9_lowest_6 : decode cX9_lowest 6 = .ok (.lload 7, 2) := by decide +kernel
theorem dX9_lowest_8 : decode cX9_lowest 8 = .ok (.lconst 0, 1) := by decide +kernel
theorem dX9_lowest_9 : decode cX9_lowest 9 = .ok (.lcmp, 1) := by decide +kernel
theorem dX9_lowest_10 : decode cX9_lowest 10 = .ok (.ifCond .eq 21, 3) := by decide +kernel
theorem dX9_lowest_13 : decode cX9_lowest 13 = .ok (.lload 5, 2) := by decide +kernel
theorem dX9_lowest_15 : decode cX9_lowest 15 = .ok (.lload 7, 2) := by decide +kernel
theorem dX9_lowest_17 : decode cX9_lowest 17 = .ok (.lrem, 1) := by decide +kernel
theorem dX9_lowest_18 : decode cX9_lowest 18 = .ok (.lstore 9, 2) := by decide +kernel
theorem dX9_lowest_20 : decode cX9_lowest 20 = .ok (.lload 7, 2) := by decide +kernel
theorem dX9_lowest_22 : decode cX9_lowest 22 = .ok (.lstore 5, 2) := by decide +kernel
theorem dX9_lowest_24 : decode cX9_lowest 24 = .ok (.lload 9, 2) := by decide +kernel
theorem dX9_lowest_26 : decode cX9_lowest 26 = .ok (.lstore 7, 2) := by decide +kernel
theorem dX9_lowest_28 : decode cX9_lowest 28 = .ok (.goto (-22), 3) := by decide +kernel
theorem dX9_lowest_31 : decode cX9_lowest 31 = .ok (.iload 4, 2) := by decide +kernel
theorem dX9_lowest_33 : decode cX9_lowest 33 = .ok (.ifCond .ne 10, 3) := by decide +kernel
theorem dX9_lowest_36 : decode cX9_lowest 36 = .ok (.lload_n 0, 1) := by decide +kernel
theorem dX9_lowest_37 : decode cX9_lowest 37 = .ok (.lload 5, 2) := by decide +kernel
theorem dX9_lowest_39 : decode cX9_lowest 39 = .ok (.ldiv, 1) := by decide +kernel
theorem dX9_lowest_40 : decode cX9_lowest 40 = .ok (.goto 7, 3) := by decide +kernel
theorem dX9_lowest_43 : decode cX9_lowest 43 = .ok (.lload_n 2, 1) := by decide +kernel
theorem dX9_lowest_44 : decode cX9_lowest 44 = .ok (.lload 5, 2) := by decide +kernel
theorem dX9_lowest_46 : decode cX9_lowest 46 = .ok (.ldiv, 1) := by decide +kernel
theorem dX9_lowest_47 : decode cX9_lowest 47 = .ok (.lreturn, 1) := by decide +kernel
theorem dX9_areGusts_0 : decode cX9_areGusts 0 = .ok (.iload_n 0, 1) := by decide +kernel
theorem dX9_areGusts_1 : decode cX9_areGusts 1 = .ok (.i2l, 1) := by decide +kernel
theorem dX9_areGusts_2 : decode cX9_areGusts 2 = .ok (.lconst 0, 1) := by decide +kernel
theorem dX9_areGusts_3 : decode cX9_areGusts 3 = .ok (.ldc2_w 105, 3) := by decide +kernel
theorem dX9_areGusts_6 : decode cX9_areGusts 6 = .ok (.invokestatic 86, 3) := by decide +kernel
theorem dX9_areGusts_9 : decode cX9_areGusts 9 = .ok (.ifCond .eq 73, 3) := by decide +kernel
theorem dX9_areGusts_12 : decode cX9_areGusts 12 = .ok (.iload_n 1, 1) := by decide +kernel
theorem dX9_areGusts_13 : decode cX9_areGusts 13 = .ok (.i2l, 1) := by decide +kernel
theorem dX9_areGusts_14 : decode cX9_areGusts 14 = .ok (.lconst 0, 1) := by decide +kernel
theorem dX9_areGusts_15 : decode cX9_areGusts 15 = .ok (.ldc2_w 254, 3) := by decide +kernel
theorem dX9_areGusts_18 : decode cX9_areGusts 18 = .ok (.invokestatic 86, 3) := by decide +kernel
theorem dX9_areGusts_21 : decode cX9_areGusts 21 = .ok (.ifCond .eq 61, 3) := by decide +kernel
theorem dX9_areGusts_24 : decode cX9_areGusts 24 = .ok (.iload_n 2, 1) := by decide +kernel
theorem dX9_areGusts_25 : decode cX9_areGusts 25 = .ok (.i2l, 1) := by decide +kernel
theorem dX9_areGusts_26 : decode cX9_areGusts 26 = .ok (.lconst 0, 1) := by decide +kernel
theorem dX9_areGusts_27 : decode cX9_areGusts 27 = .ok (.ldc2_w 216, 3) := by decide +kernel
theorem dX9_areGusts_30 : decode cX9_areGusts 30 = .ok (.invokestatic 86, 3) := by decide +kernel
theorem dX9_areGusts_33 : decode cX9_areGusts 33 = .ok (.ifCond .eq 49, 3) := by decide +kernel
theorem dX9_areGusts_36 : decode cX9_areGusts 36 = .ok (.iload_n 3, 1) := by decide +kernel
theorem dX9_areGusts_37 : decode cX9_areGusts 37 = .ok (.i2l, 1) := by decide +kernel
theorem dX9_areGusts_38 : decode cX9_areGusts 38 = .ok (.lconst 0, 1) := by decide +kernel
theorem dX9_areGusts_39 : decode cX9_areGusts 39 = .ok (.ldc2_w 216, 3) := by decide +kernel
theorem dX9_areGusts_42 : decode cX9_areGusts 42 = .ok (.invokestatic 86, 3) := by decide +kernel
theorem dX9_areGusts_45 : decode cX9_areGusts 45 = .ok (.ifCond .eq 37, 3) := by decide +kernel
theorem dX9_areGusts_48 : decode cX9_areGusts 48 = .ok (.iload_n 2, 1) := by decide +kernel
theorem dX9_areGusts_49 : decode cX9_areGusts 49 = .ok (.i2l, 1) := by decide +kernel
theorem dX9_areGusts_50 : decode cX9_areGusts 50 = .ok (.iload_n 3, 1) := by decide +kernel
theorem dX9_areGusts_51 : decode cX9_areGusts 51 = .ok (.i2l, 1) := by decide +kernel
theorem dX9_areGusts_52 : decode cX9_areGusts 52 = .ok (.ladd, 1) := by decide +kernel
theorem dX9_areGusts_53 : decode cX9_areGusts 53 = .ok (.lconst 0, 1) := by decide +kernel
theorem dX9_areGusts_54 : decode cX9_areGusts 54 = .ok (.ldc2_w 216, 3) := by decide +kernel
theorem dX9_areGusts_57 : decode cX9_areGusts 57 = .ok (.invokestatic 86, 3) := by decide +kernel
theorem dX9_areGusts_60 : decode cX9_areGusts 60 = .ok (.ifCond .eq 22, 3) := by decide +kernel
theorem dX9_areGusts_63 : decode cX9_areGusts 63 = .ok (.iload 4, 2) := by decide +kernel
theorem dX9_areGusts_65 : decode cX9_areGusts 65 = .ok (.i2l, 1) := by decide +kernel
theorem dX9_areGusts_66 : decode cX9_areGusts 66 = .ok (.ldc2_w 256, 3) := by decide +kernel
theorem dX9_areGusts_69 : decode cX9_areGusts 69 = .ok (.ldc2_w 105, 3) := by decide +kernel
theorem dX9_areGusts_72 : decode cX9_areGusts 72 = .ok (.invokestatic 86, 3) := by decide +kernel
theorem dX9_areGusts_75 : decode cX9_areGusts 75 = .ok (.ifCond .eq 7, 3) := by decide +kernel
theorem dX9_areGusts_78 : decode cX9_areGusts 78 = .ok (.iconst 1, 1) := by decide +kernel
theorem dX9_areGusts_79 : decode cX9_areGusts 79 = .ok (.goto 4, 3) := by decide +kernel
theorem dX9_areGusts_82 : decode cX9_areGusts 82 = .ok (.iconst 0, 1) := by decide +kernel
theorem dX9_areGusts_83 : decode cX9_areGusts 83 = .ok (.ireturn, 1) := by decide +kernel
theorem dX9_gusts_0 : decode cX9_gusts 0 = .ok (.iload_n 1, 1) := by decide +kernel
theorem dX9_gusts_1 : decode cX9_gusts 1 = .ok (.iload_n 2, 1) := by decide +kernel
theorem dX9_gusts_2 : decode cX9_gusts 2 = .ok (.iload_n 3, 1) := by decide +kernel
theorem dX9_gusts_3 : decode cX9_gusts 3 = .ok (.iload 4, 2) := by decide +kernel
theorem dX9_gusts_5 : decode cX9_gusts 5 = .ok (.iload 5, 2) := by decide +kernel
theorem dX9_gusts_7 : decode cX9_gusts 7 = .ok (.invokestatic 258, 3) := by decide +kernel
theorem dX9_gusts_10 : decode cX9_gusts 10 = .ok (.ifCond .eq 14, 3) := by decide +kernel
theorem dX9_gusts_13 : decode cX9_gusts 13 = .ok (.iload 6, 2) := by decide +kernel
theorem dX9_gusts_15 : decode cX9_gusts 15 = .ok (.i2l, 1) := by decide +kernel
theorem dX9_gusts_16 : decode cX9_gusts 16 = .ok (.lconst 0, 1) := by decide +kernel
theorem dX9_gusts_17 : decode cX9_gusts 17 = .ok (.lconst 1, 1) := by decide +kernel
theorem dX9_gusts_18 : decode cX9_gusts 18 = .ok (.invokestatic 86, 3) := by decide +kernel
theorem dX9_gusts_21 : decode cX9_gusts 21 = .ok (.ifCond .ne 7, 3) := by decide +kernel
theorem dX9_gusts_24 : decode cX9_gusts 24 = .ok (.ldc2_w 262, 3) := by decide +kernel
theorem dX9_gusts_27 : decode cX9_gusts 27 = .ok (.lreturn, 1) := by decide +kernel
theorem dX9_gusts_28 : decode cX9_gusts 28 = .ok (.iconst 0, 1) := by decide +kernel
theorem dX9_gusts_29 : decode cX9_gusts 29 = .ok (.istore 7, 2) := by decide +kernel
theorem dX9_gusts_31 : decode cX9_gusts 31 = .ok (.iload 7, 2) := by decide +kernel
theorem dX9_gusts_33 : decode cX9_gusts 33 = .ok (.bipush 16, 2) := by decide +kernel
theorem dX9_gusts_35 : decode cX9_gusts 35 = .ok (.if_icmp .gt 27, 3) := by decide +kernel
theorem dX9_gusts_38 : decode cX9_gusts 38 = .ok (.aload_n 0, 1) := by decide +kernel
theorem dX9_gusts_39 : decode cX9_gusts 39 = .ok (.getfield 69, 3) := by decide +kernel
theorem dX9_gusts_42 : decode cX9_gusts 42 = .ok (.iload 7, 2) := by decide +kernel
theorem dX9_gusts_44 : decode cX9_gusts 44 = .ok (.iload 7, 2) := by decide +kernel
theorem dX9_gusts_46 : decode cX9_gusts 46 = .ok (.iload_n 1, 1) := by decide +kernel
theorem dX9_gusts_47 : decode cX9_gusts 47 = .ok (.if_icmp .ne 7, 3) := by decide +kernel
theorem dX9_gusts_50 : decode cX9_gusts 50 = .ok (.lconst 1, 1) := by decide +kernel
theorem dX9_gusts_51 : decode cX9_gusts 51 = .ok (.goto 4, 3) := by decide +kernel
theorem dX9_gusts_54 : decode cX9_gusts 54 = .ok (.lconst 0, 1) := by decide +kernel
theorem dX9_gusts_55 : decode cX9_gusts 55 = .ok (.lastore, 1) := by decide +kernel
theorem dX9_gusts_56 : decode cX9_gusts 56 = .ok (.iinc 7 1, 3) := by decide +kernel
theorem dX9_gusts_59 : decode cX9_gusts 59 = .ok (.goto (-28), 3) := by decide +kernel
theorem dX9_gusts_62 : decode cX9_gusts 62 = .ok (.lconst 1, 1) := by decide +kernel
theorem dX9_gusts_63 : decode cX9_gusts 63 = .ok (.lstore 7, 2) := by decide +kernel
theorem dX9_gusts_65 : decode cX9_gusts 65 = .ok (.iconst 0, 1) := by decide +kernel
theorem dX9_gusts_66 : decode cX9_gusts 66 = .ok (.istore 9, 2) := by decide +kernel
theorem dX9_gusts_68 : decode cX9_gusts 68 = .ok (.iload 9, 2) := by decide +kernel
theorem dX9_gusts_70 : decode cX9_gusts 70 = .ok (.iload_n 2, 1) := by decide +kernel
theorem dX9_gusts_71 : decode cX9_gusts 71 = .ok (.if_icmp .ge 24, 3) := by decide +kernel
theorem dX9_gusts_74 : decode cX9_gusts 74 = .ok (.aload_n 0, 1) := by decide +kernel
theorem dX9_gusts_75 : decode cX9_gusts 75 = .ok (.iload_n 3, 1) := by decide +kernel
theorem dX9_gusts_76 : decode cX9_gusts 76 = .ok (.iload 4, 2) := by decide +kernel
theorem dX9_gusts_78 : decode cX9_gusts 78 = .ok (.invokevirtual 264, 3) := by decide +kernel
theorem dX9_gusts_81 : decode cX9_gusts 81 = .ok (.lload 7, 2) := by decide +kernel
theorem dX9_gusts_83 : decode cX9_gusts 83 = .ok (.ldc2_w 216, 3) := by decide +kernel
theorem dX9_gusts_86 : decode cX9_gusts 86 = .ok (.lmul, 1) := by decide +kernel
theorem dX9_gusts_87 : decode cX9_gusts 87 = .ok (.lstore 7, 2) := by decide +kernel
theorem dX9_gusts_89 : decode cX9_gusts 89 = .ok (.iinc 9 1, 3) := by decide +kernel
theorem dX9_gusts_92 : decode cX9_gusts 92 = .ok (.goto (-24), 3) := by decide +kernel
theorem dX9_gusts_95 : decode cX9_gusts 95 = .ok (.aload_n 0, 1) := by decide +kernel
theorem dX9_gusts_96 : decode cX9_gusts 96 = .ok (.getfield 69, 3) := by decide +kernel
theorem dX9_gusts_99 : decode cX9_gusts 99 = .ok (.iload 5, 2) := by decide +kernel
theorem dX9_gusts_101 : decode cX9_gusts 101 = .ok (.ifCond .ge 8, 3) := by decide +kernel
theorem dX9_gusts_104 : decode cX9_gusts 104 = .ok (.bipush 16, 2) := by decide +kernel
theorem dX9_gusts_106 : decode cX9_gusts 106 = .ok (.goto 5, 3) := by decide +kernel
theorem dX9_gusts_109 : decode cX9_gusts 109 = .ok (.iload 5, 2) := by decide +kernel
theorem dX9_gusts_111 : decode cX9_gusts 111 = .ok (.laload, 1) := by decide +kernel
theorem dX9_gusts_112 : decode cX9_gusts 112 = .ok (.lload 7, 2) := by decide +kernel
theorem dX9_gusts_114 : decode cX9_gusts 114 = .ok (.iload 6, 2) := by decide +kernel
theorem dX9_gusts_116 : decode cX9_gusts 116 = .ok (.invokestatic 267, 3) := by decide +kernel
theorem dX9_gusts_119 : decode cX9_gusts 119 = .ok (.lreturn, 1) := by decide +kernel
theorem dX9_bestTake_0 : decode cX9_bestTake 0 = .ok (.iconst 0, 1) := by decide +kernel
theorem dX9_bestTake_1 : decode cX9_bestTake 1 = .ok (.istore_n 3, 1) := by decide +kernel
theorem dX9_bestTake_2 : decode cX9_bestTake 2 = .ok (.iconst 3, 1) := by decide +kernel
theorem dX9_bestTake_3 : decode cX9_bestTake 3 = .ok (.istore 4, 2) := by decide +kernel
theorem dX9_bestTake_5 : decode cX9_bestTake 5 = .ok (.iload 4, 2) := by decide +kernel
theorem dX9_bestTake_7 : decode cX9_bestTake 7 = .ok (.ifCond .le 66, 3) := by decide +kernel
theorem dX9_bestTake_10 : decode cX9_bestTake 10 = .ok (.iload 4, 2) := by decide +kernel
theorem dX9_bestTake_12 : decode cX9_bestTake 12 = .ok (.iload_n 2, 1) := by decide +kernel
theorem dX9_bestTake_13 : decode cX9_bestTake 13 = .ok (.if_icmp .eq 13, 3) := by decide +kernel
theorem dX9_bestTake_16 : decode cX9_bestTake 16 = .ok (.iload 4, 2) := by decide +kernel
theorem dX9_bestTake_18 : decode cX9_bestTake 18 = .ok (.iload_n 1, 1) := by decide +kernel
theorem dX9_bestTake_19 : decode cX9_bestTake 19 = .ok (.if_icmp .gt 7, 3) := by decide +kernel
theorem dX9_bestTake_22 : decode cX9_bestTake 22 = .ok (.iconst 1, 1) := by decide +kernel
theorem dX9_bestTake_23 : decode cX9_bestTake 23 = .ok (.goto 4, 3) := by decide +kernel
theorem dX9_bestTake_26 : decode cX9_bestTake 26 = .ok (.iconst 0, 1) := by decide +kernel
theorem dX9_bestTake_27 : decode cX9_bestTake 27 = .ok (.istore 5, 2) := by decide +kernel
theorem dX9_bestTake_29 : decode cX9_bestTake 29 = .ok (.iload 5, 2) := by decide +kernel
theorem dX9_bestTake_31 : decode cX9_bestTake 31 = .ok (.ifCond .eq 34, 3) := by decide +kernel
theorem dX9_bestTake_34 : decode cX9_bestTake 34 = .ok (.aload_n 0, 1) := by decide +kernel
theorem dX9_bestTake_35 : decode cX9_bestTake 35 = .ok (.getfield 75, 3) := by decide +kernel
theorem dX9_bestTake_38 : decode cX9_bestTake 38 = .ok (.iconst 4, 1) := by decide +kernel
theorem dX9_bestTake_39 : decode cX9_bestTake 39 = .ok (.iload_n 1, 1) := by decide +kernel
theorem dX9_bestTake_40 : decode cX9_bestTake 40 = .ok (.iload 5, 2) := by decide +kernel
theorem dX9_bestTake_42 : decode cX9_bestTake 42 = .ok (.ifCond .eq 8, 3) := by decide +kernel
theorem dX9_bestTake_45 : decode cX9_bestTake 45 = .ok (.iload 4, 2) := by decide +kernel
theorem dX9_bestTake_47 : decode cX9_bestTake 47 = .ok (.goto 4, 3) := by decide +kernel
theorem dX9_bestTake_50 : decode cX9_bestTake 50 = .ok (.iconst 0, 1) := by decide +kernel
theorem dX9_bestTake_51 : decode cX9_bestTake 51 = .ok (.isub, 1) := by decide +kernel
theorem dX9_bestTake_52 : decode cX9_bestTake 52 = .ok (.imul, 1) := by decide +kernel
theorem dX9_bestTake_53 : decode cX9_bestTake 53 = .ok (.iload 4, 2) := by decide +kernel
theorem dX9_bestTake_55 : decode cX9_bestTake 55 = .ok (.iadd, 1) := by decide +kernel
theorem dX9_bestTake_56 : decode cX9_bestTake 56 = .ok (.iaload, 1) := by decide +kernel
theorem dX9_bestTake_57 : decode cX9_bestTake 57 = .ok (.ifCond .ne 8, 3) := by decide +kernel
theorem dX9_bestTake_60 : decode cX9_bestTake 60 = .ok (.iload 4, 2) := by decide +kernel
theorem dX9_bestTake_62 : decode cX9_bestTake 62 = .ok (.goto 4, 3) := by decide +kernel
theorem dX9_bestTake_65 : decode cX9_bestTake 65 = .ok (.iload_n 3, 1) := by decide +kernel
theorem dX9_bestTake_66 : decode cX9_bestTake 66 = .ok (.istore_n 3, 1) := by decide +kernel
theorem dX9_bestTake_67 : decode cX9_bestTake 67 = .ok (.iinc 4 (-1), 3) := by decide +kernel
theorem dX9_bestTake_70 : decode cX9_bestTake 70 = .ok (.goto (-65), 3) := by decide +kernel
theorem dX9_bestTake_73 : decode cX9_bestTake 73 = .ok (.iload_n 3, 1) := by decide +kernel
theorem dX9_bestTake_74 : decode cX9_bestTake 74 = .ok (.ireturn, 1) := by decide +kernel
theorem dX9_spoon_0 : decode cX9_spoon 0 = .ok (.iload_n 1, 1) := by decide +kernel
theorem dX9_spoon_1 : decode cX9_spoon 1 = .ok (.i2l, 1) := by decide +kernel
theorem dX9_spoon_2 : decode cX9_spoon 2 = .ok (.lconst 0, 1) := by decide +kernel
theorem dX9_spoon_3 : decode cX9_spoon 3 = .ok (.ldc2_w 271, 3) := by decide +kernel
theorem dX9_spoon_6 : decode cX9_spoon 6 = .ok (.invokestatic 86, 3) := by decide +kernel
theorem dX9_spoon_9 : decode cX9_spoon 9 = .ok (.ifCond .eq 13, 3) := by decide +kernel
theorem dX9_spoon_12 : decode cX9_spoon 12 = .ok (.iload_n 2, 1) := by decide +kernel
theorem dX9_spoon_13 : decode cX9_spoon 13 = .ok (.i2l, 1) := by decide +kernel
theorem dX9_spoon_14 : decode cX9_spoon 14 = .ok (.lconst 0, 1) := by decide +kernel
theorem dX9_spoon_15 : decode cX9_spoon 15 = .ok (.lconst 1, 1) := by decide +kernel
theorem dX9_spoon_16 : decode cX9_spoon 16 = .ok (.invokestatic 86, 3) := by decide +kernel
theorem dX9_spoon_19 : decode cX9_spoon 19 = .ok (.ifCond .ne 6, 3) := by decide +kernel
theorem dX9_spoon_22 : decode cX9_spoon 22 = .ok (.bipush (-2), 2) := by decide +kernel
theorem dX9_spoon_24 : decode cX9_spoon 24 = .ok (.ireturn, 1) := by decide +kernel
theorem dX9_spoon_25 : decode cX9_spoon 25 = .ok (.iconst 0, 1) := by decide +kernel
theorem dX9_spoon_26 : decode cX9_spoon 26 = .ok (.istore_n 3, 1) := by decide +kernel
theorem dX9_spoon_27 : decode cX9_spoon 27 = .ok (.iload_n 3, 1) := by decide +kernel
theorem dX9_spoon_28 : decode cX9_spoon 28 = .ok (.iload_n 1, 1) := by decide +kernel
theorem dX9_spoon_29 : decode cX9_spoon 29 = .ok (.if_icmp .gt 42, 3) := by decide +kernel
theorem dX9_spoon_32 : decode cX9_spoon 32 = .ok (.iconst 0, 1) := by decide +kernel
theorem dX9_spoon_33 : decode cX9_spoon 33 = .ok (.istore 4, 2) := by decide +kernel
theorem dX9_spoon_35 : decode cX9_spoon 35 = .ok (.iload 4, 2) := by decide +kernel
theorem dX9_spoon_37 : decode cX9_spoon 37 = .ok (.iconst 4, 1) := by decide +kernel
theorem dX9_spoon_38 : decode cX9_spoon 38 = .ok (.if_icmp .ge 27, 3) := by decide +kernel
theorem dX9_spoon_41 : decode cX9_spoon 41 = .ok (.aload_n 0, 1) := by decide +kernel
theorem dX9_spoon_42 : decode cX9_spoon 42 = .ok (.getfield 75, 3) := by decide +kernel
theorem dX9_spoon_45 : decode cX9_spoon 45 = .ok (.iconst 4, 1) := by decide +kernel
theorem dX9_spoon_46 : decode cX9_spoon 46 = .ok (.iload_n 3, 1) := by decide +kernel
theorem dX9_spoon_47 : decode cX9_spoon 47 = .ok (.imul, 1) := by decide +kernel
theorem dX9_spoon_48 : decode cX9_spoon 48 = .ok (.iload 4, 2) := by decide +kernel
theorem dX9_spoon_50 : decode cX9_spoon 50 = .ok (.iadd, 1) := by decide +kernel
theorem dX9_spoon_51 : decode cX9_spoon 51 = .ok (.aload_n 0, 1) := by decide +kernel
theorem dX9_spoon_52 : decode cX9_spoon 52 = .ok (.iload_n 3, 1) := by decide +kernel
theorem dX9_spoon_53 : decode cX9_spoon 53 = .ok (.iload 4, 2) := by decide +kernel
theorem dX9_spoon_55 : decode cX9_spoon 55 = .ok (.invokevirtual 273, 3) := by decide +kernel
theorem dX9_spoon_58 : decode cX9_spoon 58 = .ok (.iastore, 1) := by decide +kernel
theorem dX9_spoon_59 : decode cX9_spoon 59 = .ok (.iinc 4 1, 3) := by decide +kernel
theorem dX9_spoon_62 : decode cX9_spoon 62 = .ok (.goto (-27), 3) := by decide +kernel
theorem dX9_spoon_65 : decode cX9_spoon 65 = .ok (.iinc 3 1, 3) := by decide +kernel
theorem dX9_spoon_68 : decode cX9_spoon 68 = .ok (.goto (-41), 3) := by decide +kernel
theorem dX9_spoon_71 : decode cX9_spoon 71 = .ok (.aload_n 0, 1) := by decide +kernel
theorem dX9_spoon_72 : decode cX9_spoon 72 = .ok (.getfield 75, 3) := by decide +kernel
theorem dX9_spoon_75 : decode cX9_spoon 75 = .ok (.iconst 4, 1) := by decide +kernel
theorem dX9_spoon_76 : decode cX9_spoon 76 = .ok (.iload_n 1, 1) := by decide +kernel
theorem dX9_spoon_77 : decode cX9_spoon 77 = .ok (.imul, 1) := by decide +kernel
theorem dX9_spoon_78 : decode cX9_spoon 78 = .ok (.iaload, 1) := by decide +kernel
theorem dX9_spoon_79 : decode cX9_spoon 79 = .ok (.istore_n 3, 1) := by decide +kernel
theorem dX9_spoon_80 : decode cX9_spoon 80 = .ok (.iload_n 2, 1) := by decide +kernel
theorem dX9_spoon_81 : decode cX9_spoon 81 = .ok (.ifCond .ne 15, 3) := by decide +kernel
theorem dX9_spoon_84 : decode cX9_spoon 84 = .ok (.iload_n 3, 1) := by decide +kernel
theorem dX9_spoon_85 : decode cX9_spoon 85 = .ok (.ifCond .le 7, 3) := by decide +kernel
theorem dX9_spoon_88 : decode cX9_spoon 88 = .ok (.iconst 1, 1) := by decide +kernel
theorem dX9_spoon_89 : decode cX9_spoon 89 = .ok (.goto 17, 3) := by decide +kernel
theorem dX9_spoon_92 : decode cX9_spoon 92 = .ok (.iconst 0, 1) := by decide +kernel
theorem dX9_spoon_93 : decode cX9_spoon 93 = .ok (.goto 13, 3) := by decide +kernel
theorem dX9_spoon_96 : decode cX9_spoon 96 = .ok (.iload_n 3, 1) := by decide +kernel
theorem dX9_spoon_97 : decode cX9_spoon 97 = .ok (.ifCond .le 7, 3) := by decide +kernel
theorem dX9_spoon_100 : decode cX9_spoon 100 = .ok (.iload_n 3, 1) := by decide +kernel
theorem dX9_spoon_101 : decode cX9_spoon 101 = .ok (.goto 5, 3) := by decide +kernel
theorem dX9_spoon_104 : decode cX9_spoon 104 = .ok (.bipush (-6), 2) := by decide +kernel
theorem dX9_spoon_106 : decode cX9_spoon 106 = .ok (.ireturn, 1) := by decide +kernel
theorem dX9_year_0 : decode cX9_year 0 = .ok (.iload_n 1, 1) := by decide +kernel
theorem dX9_year_1 : decode cX9_year 1 = .ok (.i2l, 1) := by decide +kernel
theorem dX9_year_2 : decode cX9_year 2 = .ok (.lconst 0, 1) := by decide +kernel
theorem dX9_year_3 : decode cX9_year 3 = .ok (.ldc2_w 276, 3) := by decide +kernel
theorem dX9_year_6 : decode cX9_year 6 = .ok (.invokestatic 86, 3) := by decide +kernel
theorem dX9_year_9 : decode cX9_year 9 = .ok (.ifCond .eq 27, 3) := by decide +kernel
theorem dX9_year_12 : decode cX9_year 12 = .ok (.iload_n 2, 1) := by decide +kernel
theorem dX9_year_13 : decode cX9_year 13 = .ok (.i2l, 1) := by decide +kernel
theorem dX9_year_14 : decode cX9_year 14 = .ok (.lconst 1, 1) := by decide +kernel
theorem dX9_year_15 : decode cX9_year 15 = .ok (.ldc2_w 278, 3) := by decide +kernel
theorem dX9_year_18 : decode cX9_year 18 = .ok (.invokestatic 86, 3) := by decide +kernel
theorem dX9_year_21 : decode cX9_year 21 = .ok (.ifCond .eq 15, 3) := by decide +kernel
theorem dX9_year_24 : decode cX9_year 24 = .ok (.iload_n 3, 1) := by decide +kernel
theorem dX9_year_25 : decode cX9_year 25 = .ok (.i2l, 1) := by decide +kernel
theorem dX9_year_26 : decode cX9_year 26 = .ok (.lconst 0, 1) := by decide +kernel
theorem dX9_year_27 : decode cX9_year 27 = .ok (.ldc2_w 194, 3) := by decide +kernel
theorem dX9_year_30 : decode cX9_year 30 = .ok (.invokestatic 86, 3) := by decide +kernel
theorem dX9_year_33 : decode cX9_year 33 = .ok (.ifCond .ne 6, 3) := by decide +kernel
theorem dX9_year_36 : decode cX9_year 36 = .ok (.bipush (-2), 2) := by decide +kernel
theorem dX9_year_38 : decode cX9_year 38 = .ok (.ireturn, 1) := by decide +kernel
theorem dX9_year_39 : decode cX9_year 39 = .ok (.aload_n 0, 1) := by decide +kernel
theorem dX9_year_40 : decode cX9_year 40 = .ok (.invokevirtual 185, 3) := by decide +kernel
theorem dX9_year_43 : decode cX9_year 43 = .ok (.iload_n 1, 1) := by decide +kernel
theorem dX9_year_44 : decode cX9_year 44 = .ok (.istore 4, 2) := by decide +kernel
theorem dX9_year_46 : decode cX9_year 46 = .ok (.iconst 0, 1) := by decide +kernel
theorem dX9_year_47 : decode cX9_year 47 = .ok (.istore 5, 2) := by decide +kernel
theorem dX9_year_49 : decode cX9_year 49 = .ok (.iload 5, 2) := by decide +kernel
theorem dX9_year_51 : decode cX9_year 51 = .ok (.iload_n 2, 1) := by decide +kernel
theorem dX9_year_52 : decode cX9_year 52 = .ok (.if_icmp .ge 62, 3) := by decide +kernel
theorem dX9_year_55 : decode cX9_year 55 = .ok (.ldc2_w 280, 3) := by decide +kernel
theorem dX9_year_58 : decode cX9_year 58 = .ok (.iload 4, 2) := by decide +kernel
theorem dX9_year_60 : decode cX9_year 60 = .ok (.i2l, 1) := by decide +kernel
theorem dX9_year_61 : decode cX9_year 61 = .ok (.lmul, 1) := by decide +kernel
theorem dX9_year_62 : decode cX9_year 62 = .ok (.ldc2_w 282, 3) := by decide +kernel
theorem dX9_year_65 : decode cX9_year 65 = .ok (.ladd, 1) := by decide +kernel
theorem dX9_year_66 : decode cX9_year 66 = .ok (.ldc2_w 284, 3) := by decide +kernel
theorem dX9_year_69 : decode cX9_year 69 = .ok (.lrem, 1) := by decide +kernel
theorem dX9_year_70 : decode cX9_year 70 = .ok (.l2i, 1) := by decide +kernel
theorem dX9_year_71 : decode cX9_year 71 = .ok (.istore 4, 2) := by decide +kernel
theorem dX9_year_73 : decode cX9_year 73 = .ok (.iload 4, 2) := by decide +kernel
theorem dX9_year_75 : decode cX9_year 75 = .ok (.bipush 8, 2) := by decide +kernel
theorem dX9_year_77 : decode cX9_year 77 = .ok (.idiv, 1) := by decide +kernel
theorem dX9_year_78 : decode cX9_year 78 = .ok (.bipush 6, 2) := by decide +kernel
theorem dX9_year_80 : decode cX9_year 80 = .ok (.irem, 1) := by decide +kernel
theorem dX9_year_81 : decode cX9_year 81 = .ok (.istore 6, 2) := by decide +kernel
theorem dX9_year_83 : decode cX9_year 83 = .ok (.aload_n 0, 1) := by decide +kernel
theorem dX9_year_84 : decode cX9_year 84 = .ok (.iload 4, 2) := by decide +kernel
theorem dX9_year_86 : decode cX9_year 86 = .ok (.bipush 8, 2) := by decide +kernel
theorem dX9_year_88 : decode cX9_year 88 = .ok (.irem, 1) := by decide +kernel
theorem dX9_year_89 : decode cX9_year 89 = .ok (.iload 6, 2) := by decide +kernel
theorem dX9_year_91 : decode cX9_year 91 = .ok (.invokevirtual 179, 3) := by decide +kernel
theorem dX9_year_94 : decode cX9_year 94 = .ok (.ifCond .ne 14, 3) := by decide +kernel
theorem dX9_year_97 : decode cX9_year 97 = .ok (.aload_n 0, 1) := by decide +kernel
theorem dX9_year_98 : decode cX9_year 98 = .ok (.iload 4, 2) := by decide +kernel
theorem dX9_year_100 : decode cX9_year 100 = .ok (.bipush 8, 2) := by decide +kernel
theorem dX9_year_102 : decode cX9_year 102 = .ok (.irem, 1) := by decide +kernel
theorem dX9_year_103 : decode cX9_year 103 = .ok (.iload 6, 2) := by decide +kernel
theorem dX9_year_105 : decode cX9_year 105 = .ok (.invokevirtual 182, 3) := by decide +kernel
theorem dX9_year_108 : decode cX9_year 108 = .ok (.iinc 5 1, 3) := by decide +kernel
theorem dX9_year_111 : decode cX9_year 111 = .ok (.goto (-62), 3) := by decide +kernel
theorem dX9_year_114 : decode cX9_year 114 = .ok (.iload_n 3, 1) := by decide +kernel
theorem dX9_year_115 : decode cX9_year 115 = .ok (.ifCond .ne 13, 3) := by decide +kernel
theorem dX9_year_118 : decode cX9_year 118 = .ok (.aload_n 0, 1) := by decide +kernel
theorem dX9_year_119 : decode cX9_year 119 = .ok (.invokevirtual 210, 3) := by decide +kernel
theorem dX9_year_122 : decode cX9_year 122 = .ok (.invokestatic 109, 3) := by decide +kernel
theorem dX9_year_125 : decode cX9_year 125 = .ok (.goto 22, 3) := by decide +kernel
theorem dX9_year_128 : decode cX9_year 128 = .ok (.iload_n 3, 1) := by decide +kernel
theorem dX9_year_129 : decode cX9_year 129 = .ok (.iconst 1, 1) := by decide +kernel
theorem dX9_year_130 : decode cX9_year 130 = .ok (.if_icmp .ne 13, 3) := by decide +kernel
theorem dX9_year_133 : decode cX9_year 133 = .ok (.aload_n 0, 1) := by decide +kernel
theorem dX9_year_134 : decode cX9_year 134 = .ok (.invokevirtual 213, 3) := by decide +kernel
theorem dX9_year_137 : decode cX9_year 137 = .ok (.invokestatic 109, 3) := by decide +kernel
theorem dX9_year_140 : decode cX9_year 140 = .ok (.goto 7, 3) := by decide +kernel
theorem dX9_year_143 : decode cX9_year 143 = .ok (.aload_n 0, 1) := by decide +kernel
theorem dX9_year_144 : decode cX9_year 144 = .ok (.invokevirtual 140, 3) := by decide +kernel
theorem dX9_year_147 : decode cX9_year 147 = .ok (.istore 5, 2) := by decide +kernel
theorem dX9_year_149 : decode cX9_year 149 = .ok (.aload_n 0, 1) := by decide +kernel
theorem dX9_year_150 : decode cX9_year 150 = .ok (.iload 5, 2) := by decide +kernel
theorem dX9_year_152 : decode cX9_year 152 = .ok (.invokevirtual 199, 3) := by decide +kernel
theorem dX9_year_155 : decode cX9_year 155 = .ok (.ireturn, 1) := by decide +kernel
theorem dX9_pass_0 : decode cX9_pass 0 = .ok (.aload_n 0, 1) := by decide +kernel
theorem dX9_pass_1 : decode cX9_pass 1 = .ok (.getfield 286, 3) := by decide +kernel
theorem dX9_pass_4 : decode cX9_pass 4 = .ok (.ifCond .eq 7, 3) := by decide +kernel
theorem dX9_pass_7 : decode cX9_pass 7 = .ok (.iload_n 1, 1) := by decide +kernel
theorem dX9_pass_8 : decode cX9_pass 8 = .ok (.goto 12, 3) := by decide +kernel
theorem dX9_pass_11 : decode cX9_pass 11 = .ok (.aload_n 0, 1) := by decide +kernel
theorem dX9_pass_12 : decode cX9_pass 12 = .ok (.getfield 78, 3) := by decide +kernel
theorem dX9_pass_15 : decode cX9_pass 15 = .ok (.aload_n 0, 1) := by decide +kernel
theorem dX9_pass_16 : decode cX9_pass 16 = .ok (.getfield 290, 3) := by decide +kernel
theorem dX9_pass_19 : decode cX9_pass 19 = .ok (.iaload, 1) := by decide +kernel
theorem dX9_pass_20 : decode cX9_pass 20 = .ok (.istore_n 2, 1) := by decide +kernel
theorem dX9_pass_21 : decode cX9_pass 21 = .ok (.aload_n 0, 1) := by decide +kernel
theorem dX9_pass_22 : decode cX9_pass 22 = .ok (.getfield 78, 3) := by decide +kernel
theorem dX9_pass_25 : decode cX9_pass 25 = .ok (.aload_n 0, 1) := by decide +kernel
theorem dX9_pass_26 : decode cX9_pass 26 = .ok (.getfield 290, 3) := by decide +kernel
theorem dX9_pass_29 : decode cX9_pass 29 = .ok (.iload_n 2, 1) := by decide +kernel
theorem dX9_pass_30 : decode cX9_pass 30 = .ok (.iastore, 1) := by decide +kernel
theorem dX9_pass_31 : decode cX9_pass 31 = .ok (.aload_n 0, 1) := by decide +kernel
theorem dX9_pass_32 : decode cX9_pass 32 = .ok (.dup, 1) := by decide +kernel
theorem dX9_pass_33 : decode cX9_pass 33 = .ok (.getfield 290, 3) := by decide +kernel
theorem dX9_pass_36 : decode cX9_pass 36 = .ok (.iconst 1, 1) := by decide +kernel
theorem dX9_pass_37 : decode cX9_pass 37 = .ok (.iadd, 1) := by decide +kernel
theorem dX9_pass_38 : decode cX9_pass 38 = .ok (.putfield 290, 3) := by decide +kernel
theorem dX9_pass_41 : decode cX9_pass 41 = .ok (.iload_n 2, 1) := by decide +kernel
theorem dX9_pass_42 : decode cX9_pass 42 = .ok (.ireturn, 1) := by decide +kernel
theorem dX9_passRow_0 : decode cX9_passRow 0 = .ok (.iconst 0, 1) := by decide +kernel
theorem dX9_passRow_1 : decode cX9_passRow 1 = .ok (.istore_n 3, 1) := by decide +kernel
theorem dX9_passRow_2 : decode cX9_passRow 2 = .ok (.iload_n 3, 1) := by decide +kernel
theorem dX9_passRow_3 : decode cX9_passRow 3 = .ok (.iload_n 2, 1) := by decide +kernel
theorem dX9_passRow_4 : decode cX9_passRow 4 = .ok (.if_icmp .ge 19, 3) := by decide +kernel
theorem dX9_passRow_7 : decode cX9_passRow 7 = .ok (.aload_n 1, 1) := by decide +kernel
theorem dX9_passRow_8 : decode cX9_passRow 8 = .ok (.iload_n 3, 1) := by decide +kernel
theorem dX9_passRow_9 : decode cX9_passRow 9 = .ok (.aload_n 0, 1) := by decide +kernel
theorem dX9_passRow_10 : decode cX9_passRow 10 = .ok (.aload_n 1, 1) := by decide +kernel
theorem dX9_passRow_11 : decode cX9_passRow 11 = .ok (.iload_n 3, 1) := by decide +kernel
theorem dX9_passRow_12 : decode cX9_passRow 12 = .ok (.iaload, 1) := by decide +kernel
theorem dX9_passRow_13 : decode cX9_passRow 13 = .ok (.invokevirtual 293, 3) := by decide +kernel
theorem dX9_passRow_16 : decode cX9_passRow 16 = .ok (.iastore, 1) := by decide +kernel
theorem dX9_passRow_17 : decode cX9_passRow 17 = .ok (.iinc 3 1, 3) := by decide +kernel
theorem dX9_passRow_20 : decode cX9_passRow 20 = .ok (.goto (-18), 3) := by decide +kernel
theorem dX9_passRow_23 : decode cX9_passRow 23 = .ok (.return_, 1) := by decide +kernel
theorem dX9_passAll_0 : decode cX9_passAll 0 = .ok (.aload_n 0, 1) := by decide +kernel
theorem dX9_passAll_1 : decode cX9_passAll 1 = .ok (.aload_n 0, 1) := by decide +kernel
theorem dX9_passAll_2 : decode cX9_passAll 2 = .ok (.aload_n 0, 1) := by decide +kernel
theorem dX9_passAll_3 : decode cX9_passAll 3 = .ok (.getfield 90, 3) := by decide +kernel
theorem dX9_passAll_6 : decode cX9_passAll 6 = .ok (.invokevirtual 293, 3) := by decide +kernel
theorem dX9_passAll_9 : decode cX9_passAll 9 = .ok (.putfield 90, 3) := by decide +kernel
theorem dX9_passAll_12 : decode cX9_passAll 12 = .ok (.aload_n 0, 1) := by decide +kernel
theorem dX9_passAll_13 : decode cX9_passAll 13 = .ok (.aload_n 0, 1) := by decide +kernel
theorem dX9_passAll_14 : decode cX9_passAll 14 = .ok (.aload_n 0, 1) := by decide +kernel
theorem dX9_passAll_15 : decode cX9_passAll 15 = .ok (.getfield 245, 3) := by decide +kernel
theorem dX9_passAll_18 : decode cX9_passAll 18 = .ok (.invokevirtual 293, 3) := by decide +kernel
theorem dX9_passAll_21 : decode cX9_passAll 21 = .ok (.putfield 245, 3) := by decide +kernel
theorem dX9_passAll_24 : decode cX9_passAll 24 = .ok (.aload_n 0, 1) := by decide +kernel
theorem dX9_passAll_25 : decode cX9_passAll 25 = .ok (.aload_n 0, 1) := by decide +kernel
theorem dX9_passAll_26 : decode cX9_passAll 26 = .ok (.getfield 7, 3) := by decide +kernel
theorem dX9_passAll_29 : decode cX9_passAll 29 = .ok (.bipush 8, 2) := by decide +kernel
theorem dX9_passAll_31 : decode cX9_passAll 31 = .ok (.invokevirtual 296, 3) := by decide +kernel
theorem dX9_passAll_34 : decode cX9_passAll 34 = .ok (.aload_n 0, 1) := by decide +kernel
theorem dX9_passAll_35 : decode cX9_passAll 35 = .ok (.aload_n 0, 1) := by decide +kernel
theorem dX9_passAll_36 : decode cX9_passAll 36 = .ok (.getfield 13, 3) := by decide +kernel
theorem dX9_passAll_39 : decode cX9_passAll 39 = .ok (.bipush 8, 2) := by decide +kernel
theorem dX9_passAll_41 : decode cX9_passAll 41 = .ok (.invokevirtual 296, 3) := by decide +kernel
theorem dX9_passAll_44 : decode cX9_passAll 44 = .ok (.aload_n 0, 1) := by decide +kernel
theorem dX9_passAll_45 : decode cX9_passAll 45 = .ok (.aload_n 0, 1) := by decide +kernel
theorem dX9_passAll_46 : decode cX9_passAll 46 = .ok (.getfield 16, 3) := by decide +kernel
theorem dX9_passAll_49 : decode cX9_passAll 49 = .ok (.bipush 8, 2) := by decide +kernel
theorem dX9_passAll_51 : decode cX9_passAll 51 = .ok (.invokevirtual 296, 3) := by decide +kernel
theorem dX9_passAll_54 : decode cX9_passAll 54 = .ok (.aload_n 0, 1) := by decide +kernel
theorem dX9_passAll_55 : decode cX9_passAll 55 = .ok (.aload_n 0, 1) := by decide +kernel
theorem dX9_passAll_56 : decode cX9_passAll 56 = .ok (.getfield 19, 3) := by decide +kernel
theorem dX9_passAll_59 : decode cX9_passAll 59 = .ok (.bipush 8, 2) := by decide +kernel
theorem dX9_passAll_61 : decode cX9_passAll 61 = .ok (.invokevirtual 296, 3) := by decide +kernel
theorem dX9_passAll_64 : decode cX9_passAll 64 = .ok (.aload_n 0, 1) := by decide +kernel
theorem dX9_passAll_65 : decode cX9_passAll 65 = .ok (.aload_n 0, 1) := by decide +kernel
theorem dX9_passAll_66 : decode cX9_passAll 66 = .ok (.getfield 22, 3) := by decide +kernel
theorem dX9_passAll_69 : decode cX9_passAll 69 = .ok (.bipush 8, 2) := by decide +kernel
theorem dX9_passAll_71 : decode cX9_passAll 71 = .ok (.invokevirtual 296, 3) := by decide +kernel
theorem dX9_passAll_74 : decode cX9_passAll 74 = .ok (.aload_n 0, 1) := by decide +kernel
theorem dX9_passAll_75 : decode cX9_passAll 75 = .ok (.aload_n 0, 1) := by decide +kernel
theorem dX9_passAll_76 : decode cX9_passAll 76 = .ok (.getfield 25, 3) := by decide +kernel
theorem dX9_passAll_79 : decode cX9_passAll 79 = .ok (.bipush 6, 2) := by decide +kernel
theorem dX9_passAll_81 : decode cX9_passAll 81 = .ok (.invokevirtual 296, 3) := by decide +kernel
theorem dX9_passAll_84 : decode cX9_passAll 84 = .ok (.aload_n 0, 1) := by decide +kernel
theorem dX9_passAll_85 : decode cX9_passAll 85 = .ok (.aload_n 0, 1) := by decide +kernel
theorem dX9_passAll_86 : decode cX9_passAll 86 = .ok (.getfield 28, 3) := by decide +kernel
theorem dX9_passAll_89 : decode cX9_passAll 89 = .ok (.bipush 6, 2) := by decide +kernel
theorem dX9_passAll_91 : decode cX9_passAll 91 = .ok (.invokevirtual 296, 3) := by decide +kernel
theorem dX9_passAll_94 : decode cX9_passAll 94 = .ok (.aload_n 0, 1) := by decide +kernel
theorem dX9_passAll_95 : decode cX9_passAll 95 = .ok (.aload_n 0, 1) := by decide +kernel
theorem dX9_passAll_96 : decode cX9_passAll 96 = .ok (.getfield 31, 3) := by decide +kernel
theorem dX9_passAll_99 : decode cX9_passAll 99 = .ok (.iconst 2, 1) := by decide +kernel
theorem dX9_passAll_100 : decode cX9_passAll 100 = .ok (.invokevirtual 296, 3) := by decide +kernel
theorem dX9_passAll_103 : decode cX9_passAll 103 = .ok (.aload_n 0, 1) := by decide +kernel
theorem dX9_passAll_104 : decode cX9_passAll 104 = .ok (.aload_n 0, 1) := by decide +kernel
theorem dX9_passAll_105 : decode cX9_passAll 105 = .ok (.getfield 34, 3) := by decide +kernel
theorem dX9_passAll_108 : decode cX9_passAll 108 = .ok (.bipush 8, 2) := by decide +kernel
theorem dX9_passAll_110 : decode cX9_passAll 110 = .ok (.invokevirtual 296, 3) := by decide +kernel
theorem dX9_passAll_113 : decode cX9_passAll 113 = .ok (.aload_n 0, 1) := by decide +kernel
theorem dX9_passAll_114 : decode cX9_passAll 114 = .ok (.aload_n 0, 1) := by decide +kernel
theorem dX9_passAll_115 : decode cX9_passAll 115 = .ok (.getfield 37, 3) := by decide +kernel
theorem dX9_passAll_118 : decode cX9_passAll 118 = .ok (.bipush 8, 2) := by decide +kernel
theorem dX9_passAll_120 : decode cX9_passAll 120 = .ok (.invokevirtual 296, 3) := by decide +kernel
theorem dX9_passAll_123 : decode cX9_passAll 123 = .ok (.return_, 1) := by decide +kernel
theorem dX9_image_0 : decode cX9_image 0 = .ok (.iload_n 1, 1) := by decide +kernel
theorem dX9_image_1 : decode cX9_image 1 = .ok (.i2l, 1) := by decide +kernel
theorem dX9_image_2 : decode cX9_image 2 = .ok (.lconst 0, 1) := by decide +kernel
theorem dX9_image_3 : decode cX9_image 3 = .ok (.lconst 1, 1) := by decide +kernel
theorem dX9_image_4 : decode cX9_image 4 = .ok (.invokestatic 86, 3) := by decide +kernel
theorem dX9_image_7 : decode cX9_image 7 = .ok (.ifCond .ne 6, 3) := by decide +kernel
theorem dX9_image_10 : decode cX9_image 10 = .ok (.bipush (-2), 2) := by decide +kernel
theorem dX9_image_12 : decode cX9_image 12 = .ok (.ireturn, 1) := by decide +kernel
theorem dX9_image_13 : decode cX9_image 13 = .ok (.aload_n 0, 1) := by decide +kernel
theorem dX9_image_14 : decode cX9_image 14 = .ok (.bipush 90, 2) := by decide +kernel
theorem dX9_image_16 : decode cX9_image 16 = .ok (.iload_n 1, 1) := by decide +kernel
theorem dX9_image_17 : decode cX9_image 17 = .ok (.imul, 1) := by decide +kernel
theorem dX9_image_18 : decode cX9_image 18 = .ok (.putfield 290, 3) := by decide +kernel
theorem dX9_image_21 : decode cX9_image 21 = .ok (.aload_n 0, 1) := by decide +kernel
theorem dX9_image_22 : decode cX9_image 22 = .ok (.iconst 1, 1) := by decide +kernel
theorem dX9_image_23 : decode cX9_image 23 = .ok (.putfield 286, 3) := by decide +kernel
theorem dX9_image_26 : decode cX9_image 26 = .ok (.aload_n 0, 1) := by decide +kernel
theorem dX9_image_27 : decode cX9_image 27 = .ok (.invokevirtual 300, 3) := by decide +kernel
theorem dX9_image_30 : decode cX9_image 30 = .ok (.aload_n 0, 1) := by decide +kernel
theorem dX9_image_31 : decode cX9_image 31 = .ok (.getfield 81, 3) := by decide +kernel
theorem dX9_image_34 : decode cX9_image 34 = .ok (.iload_n 1, 1) := by decide +kernel
theorem dX9_image_35 : decode cX9_image 35 = .ok (.iconst 1, 1) := by decide +kernel
theorem dX9_image_36 : decode cX9_image 36 = .ok (.bastore, 1) := by decide +kernel
theorem dX9_image_37 : decode cX9_image 37 = .ok (.iconst 1, 1) := by decide +kernel
theorem dX9_image_38 : decode cX9_image 38 = .ok (.ireturn, 1) := by decide +kernel
theorem dX9_restore_0 : decode cX9_restore 0 = .ok (.iload_n 1, 1) := by decide +kernel
theorem dX9_restore_1 : decode cX9_restore 1 = .ok (.i2l, 1) := by decide +kernel
theorem dX9_restore_2 : decode cX9_restore 2 = .ok (.lconst 0, 1) := by decide +kernel
theorem dX9_restore_3 : decode cX9_restore 3 = .ok (.lconst 1, 1) := by decide +kernel
theorem dX9_restore_4 : decode cX9_restore 4 = .ok (.invokestatic 86, 3) := by decide +kernel
theorem dX9_restore_7 : decode cX9_restore 7 = .ok (.ifCond .ne 6, 3) := by decide +kernel
theorem dX9_restore_10 : decode cX9_restore 10 = .ok (.bipush (-2), 2) := by decide +kernel
theorem dX9_restore_12 : decode cX9_restore 12 = .ok (.ireturn, 1) := by decide +kernel
theorem dX9_restore_13 : decode cX9_restore 13 = .ok (.aload_n 0, 1) := by decide +kernel
theorem dX9_restore_14 : decode cX9_restore 14 = .ok (.getfield 81, 3) := by decide +kernel
theorem dX9_restore_17 : decode cX9_restore 17 = .ok (.iload_n 1, 1) := by decide +kernel
theorem dX9_restore_18 : decode cX9_restore 18 = .ok (.baload, 1) := by decide +kernel
theorem dX9_restore_19 : decode cX9_restore 19 = .ok (.ifCond .ne 6, 3) := by decide +kernel
theorem dX9_restore_22 : decode cX9_restore 22 = .ok (.bipush (-3), 2) := by decide +kernel
theorem dX9_restore_24 : decode cX9_restore 24 = .ok (.ireturn, 1) := by decide +kernel
theorem dX9_restore_25 : decode cX9_restore 25 = .ok (.aload_n 0, 1) := by decide +kernel
theorem dX9_restore_26 : decode cX9_restore 26 = .ok (.bipush 90, 2) := by decide +kernel
theorem dX9_restore_28 : decode cX9_restore 28 = .ok (.iload_n 1, 1) := by decide +kernel
theorem dX9_restore_29 : decode cX9_restore 29 = .ok (.imul, 1) := by decide +kernel
theorem dX9_restore_30 : decode cX9_restore 30 = .ok (.putfield 290, 3) := by decide +kernel
theorem dX9_restore_33 : decode cX9_restore 33 = .ok (.aload_n 0, 1) := by decide +kernel
theorem dX9_restore_34 : decode cX9_restore 34 = .ok (.iconst 0, 1) := by decide +kernel
theorem dX9_restore_35 : decode cX9_restore 35 = .ok (.putfield 286, 3) := by decide +kernel
theorem dX9_restore_38 : decode cX9_restore 38 = .ok (.aload_n 0, 1) := by decide +kernel
theorem dX9_restore_39 : decode cX9_restore 39 = .ok (.invokevirtual 300, 3) := by decide +kernel
theorem dX9_restore_42 : decode cX9_restore 42 = .ok (.iconst 1, 1) := by decide +kernel
theorem dX9_restore_43 : decode cX9_restore 43 = .ok (.ireturn, 1) := by decide +kernel
theorem dX9_toldOf_0 : decode cX9_toldOf 0 = .ok (.aload_n 0, 1) := by decide +kernel
theorem dX9_toldOf_1 : decode cX9_toldOf 1 = .ok (.iload_n 1, 1) := by decide +kernel
theorem dX9_toldOf_2 : decode cX9_toldOf 2 = .ok (.invokevirtual 113, 3) := by decide +kernel
theorem dX9_toldOf_5 : decode cX9_toldOf 5 = .ok (.ifCond .ne 6, 3) := by decide +kernel
theorem dX9_toldOf_8 : decode cX9_toldOf 8 = .ok (.bipush (-2), 2) := by decide +kernel
theorem dX9_toldOf_10 : decode cX9_toldOf 10 = .ok (.ireturn, 1) := by decide +kernel
theorem dX9_toldOf_11 : decode cX9_toldOf 11 = .ok (.iload_n 2, 1) := by decide +kernel
theorem dX9_toldOf_12 : decode cX9_toldOf 12 = .ok (.tableswitch 71 0 4 #[36, 43, 50, 57, 64], 36) := by decide +kernel
theorem dX9_toldOf_48 : decode cX9_toldOf 48 = .ok (.aload_n 0, 1) := by decide +kernel
theorem dX9_toldOf_49 : decode cX9_toldOf 49 = .ok (.getfield 7, 3) := by decide +kernel
theorem dX9_toldOf_52 : decode cX9_toldOf 52 = .ok (.iload_n 1, 1) := by decide +kernel
theorem dX9_toldOf_53 : decode cX9_toldOf 53 = .ok (.iaload, 1) := by decide +kernel
theorem dX9_toldOf_54 : decode cX9_toldOf 54 = .ok (.ireturn, 1) := by decide +kernel
theorem dX9_toldOf_55 : decode cX9_toldOf 55 = .ok (.aload_n 0, 1) := by decide +kernel
theorem dX9_toldOf_56 : decode cX9_toldOf 56 = .ok (.getfield 13, 3) := by decide +kernel
theorem dX9_toldOf_59 : decode cX9_toldOf 59 = .ok (.iload_n 1, 1) := by decide +kernel
theorem dX9_toldOf_60 : decode cX9_toldOf 60 = .ok (.iaload, 1) := by decide +kernel
theorem dX9_toldOf_61 : decode cX9_toldOf 61 = .ok (.ireturn, 1) := by decide +kernel
theorem dX9_toldOf_62 : decode cX9_toldOf 62 = .ok (.aload_n 0, 1) := by decide +kernel
theorem dX9_toldOf_63 : decode cX9_toldOf 63 = .ok (.getfield 16, 3) := by decide +kernel
theorem dX9_toldOf_66 : decode cX9_toldOf 66 = .ok (.iload_n 1, 1) := by decide +kernel
theorem dX9_toldOf_67 : decode cX9_toldOf 67 = .ok (.iaload, 1) := by decide +kernel
theorem dX9_toldOf_68 : decode cX9_toldOf 68 = .ok (.ireturn, 1) := by decide +kernel
theorem dX9_toldOf_69 : decode cX9_toldOf 69 = .ok (.aload_n 0, 1) := by decide +kernel
theorem dX9_toldOf_70 : decode cX9_toldOf 70 = .ok (.getfield 19, 3) := by decide +kernel
theorem dX9_toldOf_73 : decode cX9_toldOf 73 = .ok (.iload_n 1, 1) := by decide +kernel
theorem dX9_toldOf_74 : decode cX9_toldOf 74 = .ok (.iaload, 1) := by decide +kernel
theorem dX9_toldOf_75 : decode cX9_toldOf 75 = .ok (.ireturn, 1) := by decide +kernel
theorem dX9_toldOf_76 : decode cX9_toldOf 76 = .ok (.aload_n 0, 1) := by decide +kernel
theorem dX9_toldOf_77 : decode cX9_toldOf 77 = .ok (.getfield 22, 3) := by decide +kernel
theorem dX9_toldOf_80 : decode cX9_toldOf 80 = .ok (.iload_n 1, 1) := by decide +kernel
theorem dX9_toldOf_81 : decode cX9_toldOf 81 = .ok (.iaload, 1) := by decide +kernel
theorem dX9_toldOf_82 : decode cX9_toldOf 82 = .ok (.ireturn, 1) := by decide +kernel
theorem dX9_toldOf_83 : decode cX9_toldOf 83 = .ok (.bipush (-2), 2) := by decide +kernel
theorem dX9_toldOf_85 : decode cX9_toldOf 85 = .ok (.ireturn, 1) := by decide +kernel
theorem dX9_told_0 : decode cX9_told 0 = .ok (.iload_n 1, 1) := by decide +kernel
theorem dX9_told_1 : decode cX9_told 1 = .ok (.i2l, 1) := by decide +kernel
theorem dX9_told_2 : decode cX9_told 2 = .ok (.ldc2_w 303, 3) := by decide +kernel
theorem dX9_told_5 : decode cX9_told 5 = .ok (.ldc2_w 305, 3) := by decide +kernel
theorem dX9_told_8 : decode cX9_told 8 = .ok (.invokestatic 86, 3) := by decide +kernel
theorem dX9_told_11 : decode cX9_told 11 = .ok (.ifCond .eq 47, 3) := by decide +kernel
theorem dX9_told_14 : decode cX9_told 14 = .ok (.iload_n 1, 1) := by decide +kernel
theorem dX9_told_15 : decode cX9_told 15 = .ok (.bipush 100, 2) := by decide +kernel
theorem dX9_told_17 : decode cX9_told 17 = .ok (.isub, 1) := by decide +kernel
theorem dX9_told_18 : decode cX9_told 18 = .ok (.bipush 10, 2) := by decide +kernel
theorem dX9_told_20 : decode cX9_told 20 = .ok (.idiv, 1) := by decide +kernel
theorem dX9_told_21 : decode cX9_told 21 = .ok (.istore_n 2, 1) := by decide +kernel
theorem dX9_told_22 : decode cX9_told 22 = .ok (.iload_n 1, 1) := by decide +kernel
theorem dX9_told_23 : decode cX9_told 23 = .ok (.bipush 10, 2) := by decide +kernel
theorem dX9_told_25 : decode cX9_told 25 = .ok (.irem, 1) := by decide +kernel
theorem dX9_told_26 : decode cX9_told 26 = .ok (.ifCond .ne 12, 3) := by decide +kernel
theorem dX9_told_29 : decode cX9_told 29 = .ok (.aload_n 0, 1) := by decide +kernel
theorem dX9_told_30 : decode cX9_told 30 = .ok (.getfield 25, 3) := by decide +kernel
theorem dX9_told_33 : decode cX9_told 33 = .ok (.iload_n 2, 1) := by decide +kernel
theorem dX9_told_34 : decode cX9_told 34 = .ok (.iaload, 1) := by decide +kernel
theorem dX9_told_35 : decode cX9_told 35 = .ok (.goto 22, 3) := by decide +kernel
theorem dX9_told_38 : decode cX9_told 38 = .ok (.iload_n 1, 1) := by decide +kernel
theorem dX9_told_39 : decode cX9_told 39 = .ok (.bipush 10, 2) := by decide +kernel
theorem dX9_told_41 : decode cX9_told 41 = .ok (.irem, 1) := by decide +kernel
theorem dX9_told_42 : decode cX9_told 42 = .ok (.iconst 1, 1) := by decide +kernel
theorem dX9_told_43 : decode cX9_told 43 = .ok (.if_icmp .ne 12, 3) := by decide +kernel
theorem dX9_told_46 : decode cX9_told 46 = .ok (.aload_n 0, 1) := by decide +kernel
theorem dX9_told_47 : decode cX9_told 47 = .ok (.getfield 28, 3) := by decide +kernel
theorem dX9_told_50 : decode cX9_told 50 = .ok (.iload_n 2, 1) := by decide +kernel
theorem dX9_told_51 : decode cX9_told 51 = .ok (.iaload, 1) := by decide +kernel
theorem dX9_told_52 : decode cX9_told 52 = .ok (.goto 5, 3) := by decide +kernel
theorem dX9_told_55 : decode cX9_told 55 = .ok (.bipush (-2), 2) := by decide +kernel
theorem dX9_told_57 : decode cX9_told 57 = .ok (.ireturn, 1) := by decide +kernel
theorem dX9_told_58 : decode cX9_told 58 = .ok (.iload_n 1, 1) := by decide +kernel
theorem dX9_told_59 : decode cX9_told 59 = .ok (.i2l, 1) := by decide +kernel
theorem dX9_told_60 : decode cX9_told 60 = .ok (.ldc2_w 216, 3) := by decide +kernel
theorem dX9_told_63 : decode cX9_told 63 = .ok (.ldc2_w 307, 3) := by decide +kernel
theorem dX9_told_66 : decode cX9_told 66 = .ok (.invokestatic 86, 3) := by decide +kernel
theorem dX9_told_69 : decode cX9_told 69 = .ok (.ifCond .eq 18, 3) := by decide +kernel
theorem dX9_told_72 : decode cX9_told 72 = .ok (.aload_n 0, 1) := by decide +kernel
theorem dX9_told_73 : decode cX9_told 73 = .ok (.iload_n 1, 1) := by decide +kernel
theorem dX9_told_74 : decode cX9_told 74 = .ok (.bipush 10, 2) := by decide +kernel
theorem dX9_told_76 : decode cX9_told 76 = .ok (.idiv, 1) := by decide +kernel
theorem dX9_told_77 : decode cX9_told 77 = .ok (.iconst 1, 1) := by decide +kernel
theorem dX9_told_78 : decode cX9_told 78 = .ok (.isub, 1) := by decide +kernel
theorem dX9_told_79 : decode cX9_told 79 = .ok (.iload_n 1, 1) := by decide +kernel
theorem dX9_told_80 : decode cX9_told 80 = .ok (.bipush 10, 2) := by decide +kernel
theorem dX9_told_82 : decode cX9_told 82 = .ok (.irem, 1) := by decide +kernel
theorem dX9_told_83 : decode cX9_told 83 = .ok (.invokevirtual 309, 3) := by decide +kernel
theorem dX9_told_86 : decode cX9_told 86 = .ok (.ireturn, 1) := by decide +kernel
theorem dX9_told_87 : decode cX9_told 87 = .ok (.iload_n 1, 1) := by decide +kernel
theorem dX9_told_88 : decode cX9_told 88 = .ok (.tableswitch 74 0 5 #[40, 45, 50, 57, 64, 69], 40) := by decide +kernel
theorem dX9_told_128 : decode cX9_told 128 = .ok (.aload_n 0, 1) := by decide +kernel
theorem dX9_told_129 : decode cX9_told 129 = .ok (.getfield 120, 3) := by decide +kernel
theorem dX9_told_132 : decode cX9_told 132 = .ok (.ireturn, 1) := by decide +kernel
theorem dX9_told_133 : decode cX9_told 133 = .ok (.aload_n 0, 1) := by decide +kernel
theorem dX9_told_134 : decode cX9_told 134 = .ok (.getfield 90, 3) := by decide +kernel
theorem dX9_told_137 : decode cX9_told 137 = .ok (.ireturn, 1) := by decide +kernel
theorem dX9_told_138 : decode cX9_told 138 = .ok (.aload_n 0, 1) := by decide +kernel
theorem dX9_told_139 : decode cX9_told 139 = .ok (.getfield 31, 3) := by decide +kernel
theorem dX9_told_142 : decode cX9_told 142 = .ok (.iconst 0, 1) := by decide +kernel
theorem dX9_told_143 : decode cX9_told 143 = .ok (.iaload, 1) := by decide +kernel
theorem dX9_told_144 : decode cX9_told 144 = .ok (.ireturn, 1) := by decide +kernel
theorem dX9_told_145 : decode cX9_told 145 = .ok (.aload_n 0, 1) := by decide +kernel
theorem dX9_told_146 : decode cX9_told 146 = .ok (.getfield 31, 3) := by decide +kernel
theorem dX9_told_149 : decode cX9_told 149 = .ok (.iconst 1, 1) := by decide +kernel
theorem dX9_told_150 : decode cX9_told 150 = .ok (.iaload, 1) := by decide +kernel
theorem dX9_told_151 : decode cX9_told 151 = .ok (.ireturn, 1) := by decide +kernel
theorem dX9_told_152 : decode cX9_told 152 = .ok (.aload_n 0, 1) := by decide +kernel
theorem dX9_told_153 : decode cX9_told 153 = .ok (.getfield 245, 3) := by decide +kernel
theorem dX9_told_156 : decode cX9_told 156 = .ok (.ireturn, 1) := by decide +kernel
theorem dX9_told_157 : decode cX9_told 157 = .ok (.aload_n 0, 1) := by decide +kernel
theorem dX9_told_158 : decode cX9_told 158 = .ok (.invokevirtual 213, 3) := by decide +kernel
theorem dX9_told_161 : decode cX9_told 161 = .ok (.ireturn, 1) := by decide +kernel
theorem dX9_told_162 : decode cX9_told 162 = .ok (.bipush (-2), 2) := by decide +kernel
theorem dX9_told_164 : decode cX9_told 164 = .ok (.ireturn, 1) := by decide +kernel
